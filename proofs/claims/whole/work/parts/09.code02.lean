set_option maxHeartbeats 4000000 in
set_option maxRecDepth 100000 in
theorem ctX9_demandOf {X : Cx_} {this : Nat} {a1 : Int32} {M : Mm} {post : Option Nat → Mm → Prop} (h : PX9_demandOf this a1 M post) : CT X mX9_demandOf rX9_demandOf [.inr (.inr (some this)), .inl a1] M (pR_ post) := by
  unfold PX9_demandOf at h
  refine CT.of (by decide +kernel) (Nat.le_of_ble_eq_true rfl) ?_
  show VV X mX9_demandOf rX9_demandOf (pR_ post) 0 [(0, .inr (.inr (some this))), (1, .inl a1)] [] M 0 0
  refine vv_iload_n (mi := mX9_demandOf) (pc := 0) 1 dX9_demandOf_0 rfl rfl ?_
  refine vv_if_lt (mi := mX9_demandOf) (pc := 1) 22 dX9_demandOf_1 rfl (fun c1 => ?_) (fun c1 => ?_)
  · replace h := h.1 c1
    refine vv_null (mi := mX9_demandOf) (pc := 22) dX9_demandOf_22 ?_
    exact vv_aret (mi := mX9_demandOf) (pc := 23) dX9_demandOf_23 rfl (Nat.le_of_ble_eq_true rfl) (Nat.le_of_ble_eq_true rfl) h
  · replace h := h.2 c1
    refine vv_iload_n (mi := mX9_demandOf) (pc := 4) 1 dX9_demandOf_4 rfl rfl ?_
    refine vv_aload_n (mi := mX9_demandOf) (pc := 5) 0 dX9_demandOf_5 rfl rfl ?_
    obtain ⟨ht2, h⟩ := h
    refine vv_getR (mi := mX9_demandOf) (pc := 6) 9 1 rfl ht2 fl_X9_17 (Nat.le_of_ble_eq_true rfl) dX9_demandOf_6 ?_
    obtain ⟨aq3, hs4, h⟩ := h
    obtain ⟨ht5, h⟩ := h
    refine vv_alen (mi := mX9_demandOf) (pc := 9) (t := 24) (Nat.le_of_ble_eq_true rfl) (Nat.le_of_ble_eq_true rfl) rfl hs4 ht5 dX9_demandOf_9 ?_
    refine vv_icmp_ge (mi := mX9_demandOf) (pc := 10) 22 dX9_demandOf_10 rfl (fun c6 => ?_) (fun c6 => ?_)
    · replace h := h.1 c6
      refine vv_null (mi := mX9_demandOf) (pc := 22) dX9_demandOf_22 ?_
      exact vv_aret (mi := mX9_demandOf) (pc := 23) dX9_demandOf_23 rfl (Nat.le_of_ble_eq_true rfl) (Nat.le_of_ble_eq_true rfl) h
    · replace h := h.2 c6
      refine vv_aload_n (mi := mX9_demandOf) (pc := 13) 0 dX9_demandOf_13 rfl rfl ?_
      refine vv_getR (mi := mX9_demandOf) (pc := 14) 9 1 rfl ht2 fl_X9_17 (Nat.le_of_ble_eq_true rfl) dX9_demandOf_14 ?_
      refine vv_iload_n (mi := mX9_demandOf) (pc := 17) 1 dX9_demandOf_17 rfl rfl ?_
      obtain ⟨hi7, h⟩ := h
      refine vv_aald (mi := mX9_demandOf) (pc := 18) (t := 24) (Nat.le_of_ble_eq_true rfl) rfl hs4 ht5 hi7 dX9_demandOf_18 ?_
      refine vv_goto (mi := mX9_demandOf) (pc := 19) 23 dX9_demandOf_19 rfl ?_
      exact vv_aret (mi := mX9_demandOf) (pc := 23) dX9_demandOf_23 rfl (Nat.le_of_ble_eq_true rfl) (Nat.le_of_ble_eq_true rfl) h
set_option maxHeartbeats 4000000 in
set_option maxRecDepth 100000 in
theorem ctX9_optionAt {X : Cx_} {this : Nat} {a1 : Int32} {M : Mm} {post : Option Nat → Mm → Prop} (h : PX9_optionAt this a1 M post) : CT X mX9_optionAt rX9_optionAt [.inr (.inr (some this)), .inl a1] M (pR_ post) := by
  unfold PX9_optionAt at h
  refine CT.of (by decide +kernel) (Nat.le_of_ble_eq_true rfl) ?_
  show VV X mX9_optionAt rX9_optionAt (pR_ post) 0 [(0, .inr (.inr (some this))), (1, .inl a1)] [] M 0 0
  refine vv_iload_n (mi := mX9_optionAt) (pc := 0) 1 dX9_optionAt_0 rfl rfl ?_
  refine vv_if_lt (mi := mX9_optionAt) (pc := 1) 30 dX9_optionAt_1 rfl (fun c1 => ?_) (fun c1 => ?_)
  · replace h := h.1 c1
    refine vv_null (mi := mX9_optionAt) (pc := 30) dX9_optionAt_30 ?_
    exact vv_aret (mi := mX9_optionAt) (pc := 31) dX9_optionAt_31 rfl (Nat.le_of_ble_eq_true rfl) (Nat.le_of_ble_eq_true rfl) h
  · replace h := h.2 c1
    refine vv_iload_n (mi := mX9_optionAt) (pc := 4) 1 dX9_optionAt_4 rfl rfl ?_
    refine vv_aload_n (mi := mX9_optionAt) (pc := 5) 0 dX9_optionAt_5 rfl rfl ?_
    obtain ⟨ht2, h⟩ := h
    refine vv_getI (mi := mX9_optionAt) (pc := 6) 9 3 rfl ht2 fl_X9_38 (Nat.le_of_ble_eq_true rfl) dX9_optionAt_6 ?_
    refine vv_icmp_ge (mi := mX9_optionAt) (pc := 9) 30 dX9_optionAt_9 rfl (fun c3 => ?_) (fun c3 => ?_)
    · replace h := h.1 c3
      refine vv_null (mi := mX9_optionAt) (pc := 30) dX9_optionAt_30 ?_
      exact vv_aret (mi := mX9_optionAt) (pc := 31) dX9_optionAt_31 rfl (Nat.le_of_ble_eq_true rfl) (Nat.le_of_ble_eq_true rfl) h
    · replace h := h.2 c3
      refine vv_iload_n (mi := mX9_optionAt) (pc := 12) 1 dX9_optionAt_12 rfl rfl ?_
      refine vv_aload_n (mi := mX9_optionAt) (pc := 13) 0 dX9_optionAt_13 rfl rfl ?_
      refine vv_getR (mi := mX9_optionAt) (pc := 14) 9 2 rfl ht2 fl_X9_26 (Nat.le_of_ble_eq_true rfl) dX9_optionAt_14 ?_
      obtain ⟨aq4, hs5, h⟩ := h
      obtain ⟨ht6, h⟩ := h
      refine vv_alen (mi := mX9_optionAt) (pc := 17) (t := 27) (Nat.le_of_ble_eq_true rfl) (Nat.le_of_ble_eq_true rfl) rfl hs5 ht6 dX9_optionAt_17 ?_
      refine vv_icmp_ge (mi := mX9_optionAt) (pc := 18) 30 dX9_optionAt_18 rfl (fun c7 => ?_) (fun c7 => ?_)
      · replace h := h.1 c7
        refine vv_null (mi := mX9_optionAt) (pc := 30) dX9_optionAt_30 ?_
        exact vv_aret (mi := mX9_optionAt) (pc := 31) dX9_optionAt_31 rfl (Nat.le_of_ble_eq_true rfl) (Nat.le_of_ble_eq_true rfl) h
      · replace h := h.2 c7
        refine vv_aload_n (mi := mX9_optionAt) (pc := 21) 0 dX9_optionAt_21 rfl rfl ?_
        refine vv_getR (mi := mX9_optionAt) (pc := 22) 9 2 rfl ht2 fl_X9_26 (Nat.le_of_ble_eq_true rfl) dX9_optionAt_22 ?_
        refine vv_iload_n (mi := mX9_optionAt) (pc := 25) 1 dX9_optionAt_25 rfl rfl ?_
        obtain ⟨hi8, h⟩ := h
        refine vv_aald (mi := mX9_optionAt) (pc := 26) (t := 27) (Nat.le_of_ble_eq_true rfl) rfl hs5 ht6 hi8 dX9_optionAt_26 ?_
        refine vv_goto (mi := mX9_optionAt) (pc := 27) 31 dX9_optionAt_27 rfl ?_
        exact vv_aret (mi := mX9_optionAt) (pc := 31) dX9_optionAt_31 rfl (Nat.le_of_ble_eq_true rfl) (Nat.le_of_ble_eq_true rfl) h
set_option maxHeartbeats 4000000 in
set_option maxRecDepth 100000 in
theorem ctX9_offer {X : Cx_} {this : Nat} {a1 : Option Nat} {M : Mm} {post : Int32 → Mm → Prop} (h : PX9_offer this a1 M post) : CT X mX9_offer rX9_offer [.inr (.inr (some this)), .inr (.inr a1)] M (pI_ post) := by
  unfold PX9_offer at h
  refine CT.of (by decide +kernel) (Nat.le_of_ble_eq_true rfl) ?_
  show VV X mX9_offer rX9_offer (pI_ post) 0 [(0, .inr (.inr (some this))), (1, .inr (.inr a1))] [] M 0 0
  refine vv_aload_n (mi := mX9_offer) (pc := 0) 0 dX9_offer_0 rfl rfl ?_
  obtain ⟨ht1, h⟩ := h
  refine vv_getI (mi := mX9_offer) (pc := 1) 9 3 rfl ht1 fl_X9_38 (Nat.le_of_ble_eq_true rfl) dX9_offer_1 ?_
  refine vv_aload_n (mi := mX9_offer) (pc := 4) 0 dX9_offer_4 rfl rfl ?_
  refine vv_getR (mi := mX9_offer) (pc := 5) 9 2 rfl ht1 fl_X9_26 (Nat.le_of_ble_eq_true rfl) dX9_offer_5 ?_
  obtain ⟨aq2, hs3, h⟩ := h
  obtain ⟨ht4, h⟩ := h
  refine vv_alen (mi := mX9_offer) (pc := 8) (t := 27) (Nat.le_of_ble_eq_true rfl) (Nat.le_of_ble_eq_true rfl) rfl hs3 ht4 dX9_offer_8 ?_
  refine vv_icmp_lt (mi := mX9_offer) (pc := 9) 15 dX9_offer_9 rfl (fun c5 => ?_) (fun c5 => ?_)
  · replace h := h.1 c5
    refine vv_aload_n (mi := mX9_offer) (pc := 15) 0 dX9_offer_15 rfl rfl ?_
    refine vv_getR (mi := mX9_offer) (pc := 16) 9 2 rfl ht1 fl_X9_26 (Nat.le_of_ble_eq_true rfl) dX9_offer_16 ?_
    refine vv_aload_n (mi := mX9_offer) (pc := 19) 0 dX9_offer_19 rfl rfl ?_
    refine vv_getI (mi := mX9_offer) (pc := 20) 9 3 rfl ht1 fl_X9_38 (Nat.le_of_ble_eq_true rfl) dX9_offer_20 ?_
    refine vv_aload_n (mi := mX9_offer) (pc := 23) 1 dX9_offer_23 rfl rfl ?_
    obtain ⟨hi6, h⟩ := h
    obtain ⟨aq7, hs8, h⟩ := h
    obtain ⟨ht9, h⟩ := h
    obtain ⟨M10, eM10⟩ : ∃ z : Mm, z = suR M aq2 (Int32.toNatClampNeg (ddI M this 3)) a1 := ⟨_, rfl⟩
    replace h := h _ eM10
    refine vv_aast (mi := mX9_offer) (pc := 24) (t := 27) (ci := 5) (r := (RX5, TX5, 2)) (Nat.le_of_ble_eq_true rfl) (Nat.le_of_ble_eq_true rfl) rfl rfl hs8 ht9 hs3 ht4 hi6 dX9_offer_24 eM10 ?_
    refine vv_aload_n (mi := mX9_offer) (pc := 25) 0 dX9_offer_25 rfl rfl ?_
    refine vv_dup (mi := mX9_offer) (pc := 26) dX9_offer_26 rfl ?_
    refine vv_getI (mi := mX9_offer) (pc := 27) 9 3 rfl (tgR_ eM10 ht1) fl_X9_38 (Nat.le_of_ble_eq_true rfl) dX9_offer_27 ?_
    refine vv_iconst (mi := mX9_offer) (pc := 30) 1 dX9_offer_30 rfl ?_
    refine vv_iadd (mi := mX9_offer) (pc := 31) dX9_offer_31 ?_
    obtain ⟨M11, eM11⟩ : ∃ z : Mm, z = suI M10 this 3 ((ddI M10 this 3) + 1) := ⟨_, rfl⟩
    replace h := h _ eM11
    refine vv_putI (mi := mX9_offer) (pc := 32) 9 3 rfl (tgR_ eM10 ht1) fq_X9_38 (fun q => by cases q) rfl (Nat.le_of_ble_eq_true rfl) dX9_offer_32 eM11 ?_
    refine vv_aload_n (mi := mX9_offer) (pc := 35) 0 dX9_offer_35 rfl rfl ?_
    refine vv_getI (mi := mX9_offer) (pc := 36) 9 3 rfl (tgI_ eM11 (tgR_ eM10 ht1)) fl_X9_38 (Nat.le_of_ble_eq_true rfl) dX9_offer_36 ?_
    refine vv_iconst (mi := mX9_offer) (pc := 39) 1 dX9_offer_39 rfl ?_
    refine vv_isub (mi := mX9_offer) (pc := 40) dX9_offer_40 ?_
    exact vv_iret (mi := mX9_offer) (pc := 41) dX9_offer_41 rfl (Nat.le_of_ble_eq_true rfl) (Nat.le_of_ble_eq_true rfl) h
  · replace h := h.2 c5
    refine vv_bipush (mi := mX9_offer) (pc := 12) (-3) dX9_offer_12 rfl ?_
    exact vv_iret (mi := mX9_offer) (pc := 14) dX9_offer_14 rfl (Nat.le_of_ble_eq_true rfl) (Nat.le_of_ble_eq_true rfl) h
set_option maxHeartbeats 4000000 in
set_option maxRecDepth 100000 in
theorem bX9_withdraw_29 {X : Cx_} {kb29 : Nat → Int32 → Mm → Prop} {post : Mm → Prop} (hb29 : ∀ (this : Nat) (x2 : Int32) (M : Mm), kb29 this x2 M → VV X mX9_withdraw rX9_withdraw (pV_ post) 29 [(0, .inr (.inr (some this))), (2, .inl x2)] [] M 0 0) {this : Nat} {x2 : Int32} {M : Mm} (h : BX9_withdraw_29 kb29 post this x2 M) : VV X mX9_withdraw rX9_withdraw (pV_ post) 29 [(0, .inr (.inr (some this))), (2, .inl x2)] [] M 0 0 := by
  unfold BX9_withdraw_29 at h
  refine vv_iload_n (mi := mX9_withdraw) (pc := 29) 1 dX9_withdraw_29 rfl rfl ?_
  refine vv_aload_n (mi := mX9_withdraw) (pc := 30) 0 dX9_withdraw_30 rfl rfl ?_
  obtain ⟨ht9, h⟩ := h
  refine vv_getI (mi := mX9_withdraw) (pc := 31) 9 3 rfl ht9 fl_X9_38 (Nat.le_of_ble_eq_true rfl) dX9_withdraw_31 ?_
  refine vv_icmp_ge (mi := mX9_withdraw) (pc := 34) 57 dX9_withdraw_34 rfl (fun c10 => ?_) (fun c10 => ?_)
  · replace h := h.1 c10
    refine vv_aload_n (mi := mX9_withdraw) (pc := 57) 0 dX9_withdraw_57 rfl rfl ?_
    refine vv_dup (mi := mX9_withdraw) (pc := 58) dX9_withdraw_58 rfl ?_
    refine vv_getI (mi := mX9_withdraw) (pc := 59) 9 3 rfl ht9 fl_X9_38 (Nat.le_of_ble_eq_true rfl) dX9_withdraw_59 ?_
    refine vv_iconst (mi := mX9_withdraw) (pc := 62) 1 dX9_withdraw_62 rfl ?_
    refine vv_isub (mi := mX9_withdraw) (pc := 63) dX9_withdraw_63 ?_
    obtain ⟨M11, eM11⟩ : ∃ z : Mm, z = suI M this 3 ((ddI M this 3) - 1) := ⟨_, rfl⟩
    replace h := h _ eM11
    refine vv_putI (mi := mX9_withdraw) (pc := 64) 9 3 rfl ht9 fq_X9_38 (fun q => by cases q) rfl (Nat.le_of_ble_eq_true rfl) dX9_withdraw_64 eM11 ?_
    refine vv_aload_n (mi := mX9_withdraw) (pc := 67) 0 dX9_withdraw_67 rfl rfl ?_
    refine vv_getR (mi := mX9_withdraw) (pc := 68) 9 2 rfl (tgI_ eM11 ht9) fl_X9_26 (Nat.le_of_ble_eq_true rfl) dX9_withdraw_68 ?_
    refine vv_aload_n (mi := mX9_withdraw) (pc := 71) 0 dX9_withdraw_71 rfl rfl ?_
    refine vv_getI (mi := mX9_withdraw) (pc := 72) 9 3 rfl (tgI_ eM11 ht9) fl_X9_38 (Nat.le_of_ble_eq_true rfl) dX9_withdraw_72 ?_
    refine vv_null (mi := mX9_withdraw) (pc := 75) dX9_withdraw_75 ?_
    obtain ⟨aq12, hs13, h⟩ := h
    obtain ⟨ht14, h⟩ := h
    obtain ⟨hi15, h⟩ := h
    obtain ⟨M16, eM16⟩ : ∃ z : Mm, z = suR M11 aq12 (Int32.toNatClampNeg (ddI M11 this 3)) none := ⟨_, rfl⟩
    replace h := h _ eM16
    refine vv_aastN (mi := mX9_withdraw) (pc := 76) (t := 27) (Nat.le_of_ble_eq_true rfl) rfl hs13 ht14 hi15 dX9_withdraw_76 eM16 ?_
    exact vv_vret (mi := mX9_withdraw) (pc := 77) dX9_withdraw_77 rfl (Nat.le_of_ble_eq_true rfl) (Nat.le_of_ble_eq_true rfl) h
  · replace h := h.2 c10
    refine vv_aload_n (mi := mX9_withdraw) (pc := 37) 0 dX9_withdraw_37 rfl rfl ?_
    refine vv_getR (mi := mX9_withdraw) (pc := 38) 9 2 rfl ht9 fl_X9_26 (Nat.le_of_ble_eq_true rfl) dX9_withdraw_38 ?_
    refine vv_iload_n (mi := mX9_withdraw) (pc := 41) 1 dX9_withdraw_41 rfl rfl ?_
    refine vv_iconst (mi := mX9_withdraw) (pc := 42) 1 dX9_withdraw_42 rfl ?_
    refine vv_isub (mi := mX9_withdraw) (pc := 43) dX9_withdraw_43 ?_
    refine vv_aload_n (mi := mX9_withdraw) (pc := 44) 0 dX9_withdraw_44 rfl rfl ?_
    refine vv_getR (mi := mX9_withdraw) (pc := 45) 9 2 rfl ht9 fl_X9_26 (Nat.le_of_ble_eq_true rfl) dX9_withdraw_45 ?_
    refine vv_iload_n (mi := mX9_withdraw) (pc := 48) 1 dX9_withdraw_48 rfl rfl ?_
    obtain ⟨aq17, hs18, h⟩ := h
    obtain ⟨ht19, h⟩ := h
    obtain ⟨hi20, h⟩ := h
    refine vv_aald (mi := mX9_withdraw) (pc := 49) (t := 27) (Nat.le_of_ble_eq_true rfl) rfl hs18 ht19 hi20 dX9_withdraw_49 ?_
    obtain ⟨hi21, h⟩ := h
    obtain ⟨aq22, hs23, h⟩ := h
    obtain ⟨ht24, h⟩ := h
    obtain ⟨M25, eM25⟩ : ∃ z : Mm, z = suR M aq17 (Int32.toNatClampNeg (x2 - 1)) (ddR M aq17 (Int32.toNatClampNeg x2)) := ⟨_, rfl⟩
    replace h := h _ eM25
    refine vv_aast (mi := mX9_withdraw) (pc := 50) (t := 27) (ci := 5) (r := (RX5, TX5, 2)) (Nat.le_of_ble_eq_true rfl) (Nat.le_of_ble_eq_true rfl) rfl rfl hs23 ht24 hs18 ht19 hi21 dX9_withdraw_50 eM25 ?_
    refine vv_iinc (mi := mX9_withdraw) (pc := 51) (x2 + 1) 1 [(2, .inl (x2 + 1)), (0, .inr (.inr (some this)))] dX9_withdraw_51 rfl rfl (Nat.le_of_ble_eq_true rfl) rfl ?_
    refine vv_goto (mi := mX9_withdraw) (pc := 54) 29 dX9_withdraw_54 rfl ?_
    refine vv_sub (mi := mX9_withdraw) [(0, .inr (.inr (some this))), (2, .inl (x2 + 1))] [1, 0] rfl ?_
    exact hb29 _ _ _ h
theorem loX9_withdraw_29 {X : Cx_}  {post : Mm → Prop}  : ∀ (fu : Nat) {this : Nat} {x2 : Int32} {M : Mm}, DX9_withdraw_29  post fu this x2 M → VV X mX9_withdraw rX9_withdraw (pV_ post) 29 [(0, .inr (.inr (some this))), (2, .inl x2)] [] M 0 0
  | 0, _, _, _, h => False.elim h
  | fu + 1, _, _, _, h => bX9_withdraw_29 (fun this x2 M h => loX9_withdraw_29  fu h) h
set_option maxHeartbeats 4000000 in
set_option maxRecDepth 100000 in
theorem ctX9_withdraw {X : Cx_} {this : Nat} {a1 : Int32} {M : Mm} {post : Mm → Prop} (h : PX9_withdraw this a1 M post) : CT X mX9_withdraw rX9_withdraw [.inr (.inr (some this)), .inl a1] M (pV_ post) := by
  unfold PX9_withdraw at h
  refine CT.of (by decide +kernel) (Nat.le_of_ble_eq_true rfl) ?_
  show VV X mX9_withdraw rX9_withdraw (pV_ post) 0 [(0, .inr (.inr (some this))), (1, .inl a1)] [] M 0 0
  refine vv_iload_n (mi := mX9_withdraw) (pc := 0) 1 dX9_withdraw_0 rfl rfl ?_
  refine vv_if_lt (mi := mX9_withdraw) (pc := 1) 24 dX9_withdraw_1 rfl (fun c1 => ?_) (fun c1 => ?_)
  · replace h := h.1 c1
    exact vv_vret (mi := mX9_withdraw) (pc := 24) dX9_withdraw_24 rfl (Nat.le_of_ble_eq_true rfl) (Nat.le_of_ble_eq_true rfl) h
  · replace h := h.2 c1
    refine vv_iload_n (mi := mX9_withdraw) (pc := 4) 1 dX9_withdraw_4 rfl rfl ?_
    refine vv_aload_n (mi := mX9_withdraw) (pc := 5) 0 dX9_withdraw_5 rfl rfl ?_
    obtain ⟨ht2, h⟩ := h
    refine vv_getI (mi := mX9_withdraw) (pc := 6) 9 3 rfl ht2 fl_X9_38 (Nat.le_of_ble_eq_true rfl) dX9_withdraw_6 ?_
    refine vv_icmp_ge (mi := mX9_withdraw) (pc := 9) 24 dX9_withdraw_9 rfl (fun c3 => ?_) (fun c3 => ?_)
    · replace h := h.1 c3
      exact vv_vret (mi := mX9_withdraw) (pc := 24) dX9_withdraw_24 rfl (Nat.le_of_ble_eq_true rfl) (Nat.le_of_ble_eq_true rfl) h
    · replace h := h.2 c3
      refine vv_aload_n (mi := mX9_withdraw) (pc := 12) 0 dX9_withdraw_12 rfl rfl ?_
      refine vv_getI (mi := mX9_withdraw) (pc := 13) 9 3 rfl ht2 fl_X9_38 (Nat.le_of_ble_eq_true rfl) dX9_withdraw_13 ?_
      refine vv_aload_n (mi := mX9_withdraw) (pc := 16) 0 dX9_withdraw_16 rfl rfl ?_
      refine vv_getR (mi := mX9_withdraw) (pc := 17) 9 2 rfl ht2 fl_X9_26 (Nat.le_of_ble_eq_true rfl) dX9_withdraw_17 ?_
      obtain ⟨aq4, hs5, h⟩ := h
      obtain ⟨ht6, h⟩ := h
      refine vv_alen (mi := mX9_withdraw) (pc := 20) (t := 27) (Nat.le_of_ble_eq_true rfl) (Nat.le_of_ble_eq_true rfl) rfl hs5 ht6 dX9_withdraw_20 ?_
      refine vv_icmp_le (mi := mX9_withdraw) (pc := 21) 25 dX9_withdraw_21 rfl (fun c7 => ?_) (fun c7 => ?_)
      · replace h := h.1 c7
        refine vv_iload_n (mi := mX9_withdraw) (pc := 25) 1 dX9_withdraw_25 rfl rfl ?_
        refine vv_iconst (mi := mX9_withdraw) (pc := 26) 1 dX9_withdraw_26 rfl ?_
        refine vv_iadd (mi := mX9_withdraw) (pc := 27) dX9_withdraw_27 ?_
        obtain ⟨v8, ev8⟩ : ∃ z : Int32, z = (a1 + 1) := ⟨_, rfl⟩
        refine vv_namI ev8 ?_
        replace h := h _ ev8
        refine vv_istore_n (mi := mX9_withdraw) (pc := 28) [(2, .inl v8), (0, .inr (.inr (some this))), (1, .inl a1)] dX9_withdraw_28 rfl (Nat.le_of_ble_eq_true rfl) rfl ?_
        refine vv_sub (mi := mX9_withdraw) [(0, .inr (.inr (some this))), (2, .inl v8)] [1, 0] rfl ?_
        obtain ⟨fu, h⟩ := h
        exact loX9_withdraw_29 (X := X)  fu h
      · replace h := h.2 c7
        exact vv_vret (mi := mX9_withdraw) (pc := 24) dX9_withdraw_24 rfl (Nat.le_of_ble_eq_true rfl) (Nat.le_of_ble_eq_true rfl) h
set_option maxHeartbeats 4000000 in
set_option maxRecDepth 100000 in
theorem bX9_firstShort_2 {X : Cx_} {kb2 : Nat → (Option Nat) → Int32 → Mm → Prop} {post : Int32 → Mm → Prop} (hb2 : ∀ (this : Nat) (x1 : Option Nat) (x3 : Int32) (M : Mm), kb2 this x1 x3 M → VV X mX9_firstShort rX9_firstShort (pI_ post) 2 [(0, .inr (.inr (some this))), (1, .inr (.inr x1)), (3, .inl x3)] [] M 0 0) {this : Nat} {x1 : Option Nat} {x3 : Int32} {M : Mm} (h : BX9_firstShort_2 kb2 post this x1 x3 M) : VV X mX9_firstShort rX9_firstShort (pI_ post) 2 [(0, .inr (.inr (some this))), (1, .inr (.inr x1)), (3, .inl x3)] [] M 0 0 := by
  unfold BX9_firstShort_2 at h
  refine vv_iload_n (mi := mX9_firstShort) (pc := 2) 2 dX9_firstShort_2 rfl rfl ?_
  refine vv_sipush (mi := mX9_firstShort) (pc := 3) 2000 dX9_firstShort_3 rfl ?_
  refine vv_icmp_gt (mi := mX9_firstShort) (pc := 6) 67 dX9_firstShort_6 rfl (fun c1 => ?_) (fun c1 => ?_)
  · replace h := h.1 c1
    refine vv_iconst (mi := mX9_firstShort) (pc := 67) (-1) dX9_firstShort_67 rfl ?_
    exact vv_iret (mi := mX9_firstShort) (pc := 68) dX9_firstShort_68 rfl (Nat.le_of_ble_eq_true rfl) (Nat.le_of_ble_eq_true rfl) h
  · replace h := h.2 c1
    refine vv_aload_n (mi := mX9_firstShort) (pc := 9) 0 dX9_firstShort_9 rfl rfl ?_
    obtain ⟨ht2, h⟩ := h
    refine vv_getR (mi := mX9_firstShort) (pc := 10) 9 0 rfl ht2 fl_X9_9 (Nat.le_of_ble_eq_true rfl) dX9_firstShort_10 ?_
    refine vv_aload_n (mi := mX9_firstShort) (pc := 13) 1 dX9_firstShort_13 rfl rfl ?_
    obtain ⟨aq3, hs4, h⟩ := h
    obtain ⟨ht5, h⟩ := h
    refine vv_getI (mi := mX9_firstShort) (pc := 14) 1 0 hs4 ht5 fl_X9_42 (Nat.le_of_ble_eq_true rfl) dX9_firstShort_14 ?_
    refine vv_iload_n (mi := mX9_firstShort) (pc := 17) 2 dX9_firstShort_17 rfl rfl ?_
    obtain ⟨aq6, hs7, h⟩ := h
    obtain ⟨ht8, h⟩ := h
    refine vv_callV (mi := mX9_firstShort) (pc := 18) (rest := []) (As := [.inl (ddI M aq3 0), .inl x3]) (ctX6_nextTurn (X := X) h) dX9_firstShort_18 hs7 ht8 (Nat.le_of_ble_eq_true rfl) rfl mb_X6_nextTurn rfl ml_X9_45 im_X6_nextTurn se_X6_nextTurn ⟨(Nat.le_of_ble_eq_true rfl), (Nat.le_of_ble_eq_true rfl)⟩ ⟨(Nat.le_of_ble_eq_true rfl), (Nat.le_of_ble_eq_true rfl)⟩ (Nat.le_of_ble_eq_true rfl) rfl (kI_ (F := fun st M' => VV X mX9_firstShort rX9_firstShort (pI_ post) 21 [(0, .inr (.inr (some this))), (1, .inr (.inr x1)), (3, .inl x3)] st M' 0 0) (fun r9 M10 h => ?_))
    refine vv_istore (mi := mX9_firstShort) (pc := 21) [(4, .inl r9), (0, .inr (.inr (some this))), (1, .inr (.inr x1)), (3, .inl x3)] dX9_firstShort_21 (Nat.le_of_ble_eq_true rfl) rfl ?_
    refine vv_aload_n (mi := mX9_firstShort) (pc := 23) 2 dX9_firstShort_23 rfl rfl ?_
    refine vv_aload_n (mi := mX9_firstShort) (pc := 24) 1 dX9_firstShort_24 rfl rfl ?_
    obtain ⟨ht11, h⟩ := h
    refine vv_getR (mi := mX9_firstShort) (pc := 25) 9 0 rfl ht11 fl_X9_9 (Nat.le_of_ble_eq_true rfl) dX9_firstShort_25 ?_
    refine vv_aload_n (mi := mX9_firstShort) (pc := 28) 2 dX9_firstShort_28 rfl rfl ?_
    obtain ⟨ht12, h⟩ := h
    refine vv_getI (mi := mX9_firstShort) (pc := 29) 1 0 hs4 ht12 fl_X9_42 (Nat.le_of_ble_eq_true rfl) dX9_firstShort_29 ?_
    refine vv_bipush (mi := mX9_firstShort) (pc := 32) 7 dX9_firstShort_32 rfl ?_
    refine vv_iload_n (mi := mX9_firstShort) (pc := 34) 3 dX9_firstShort_34 rfl rfl ?_
    refine vv_imul (mi := mX9_firstShort) (pc := 35) dX9_firstShort_35 ?_
    obtain ⟨aq13, hs14, h⟩ := h
    obtain ⟨ht15, h⟩ := h
    refine vv_callV (mi := mX9_firstShort) (pc := 36) (rest := [.inr (.inr x1)]) (As := [.inl (ddI M10 aq3 0), .inl (7 * x3)]) (ctX6_roomOf (X := X) h) dX9_firstShort_36 hs14 ht15 (Nat.le_of_ble_eq_true rfl) rfl mb_X6_roomOf rfl ml_X9_51 im_X6_roomOf se_X6_roomOf ⟨(Nat.le_of_ble_eq_true rfl), (Nat.le_of_ble_eq_true rfl)⟩ ⟨(Nat.le_of_ble_eq_true rfl), (Nat.le_of_ble_eq_true rfl)⟩ (Nat.le_of_ble_eq_true rfl) rfl (kL_ (F := fun st M' => VV X mX9_firstShort rX9_firstShort (pI_ post) 39 [(4, .inl r9), (0, .inr (.inr (some this))), (1, .inr (.inr x1)), (3, .inl x3)] st M' 0 0) (fun r16 M17 h => ?_))
    refine vv_iload_n (mi := mX9_firstShort) (pc := 39) 3 dX9_firstShort_39 rfl rfl ?_
    obtain ⟨ht18, h⟩ := h
    refine vv_callV (mi := mX9_firstShort) (pc := 40) (rest := []) (As := [.inr (.inl r16), .inl x3]) (ctX1_firstAbove (X := X) h) dX9_firstShort_40 hs4 ht18 (Nat.le_of_ble_eq_true rfl) rfl mb_X1_firstAbove rfl ml_X9_55 im_X1_firstAbove se_X1_firstAbove ⟨(Nat.le_of_ble_eq_true rfl), (Nat.le_of_ble_eq_true rfl)⟩ ⟨(Nat.le_of_ble_eq_true rfl), (Nat.le_of_ble_eq_true rfl)⟩ (Nat.le_of_ble_eq_true rfl) rfl (kI_ (F := fun st M' => VV X mX9_firstShort rX9_firstShort (pI_ post) 43 [(4, .inl r9), (0, .inr (.inr (some this))), (1, .inr (.inr x1)), (3, .inl x3)] st M' 0 0) (fun r19 M20 h => ?_))
    refine vv_istore (mi := mX9_firstShort) (pc := 43) [(5, .inl r19), (4, .inl r9), (0, .inr (.inr (some this))), (1, .inr (.inr x1)), (3, .inl x3)] dX9_firstShort_43 (Nat.le_of_ble_eq_true rfl) rfl ?_
    refine vv_iload (mi := mX9_firstShort) (pc := 45) 0 dX9_firstShort_45 rfl ?_
    refine vv_iload (mi := mX9_firstShort) (pc := 47) 1 dX9_firstShort_47 rfl ?_
    refine vv_icmp_ge (mi := mX9_firstShort) (pc := 49) 55 dX9_firstShort_49 rfl (fun c21 => ?_) (fun c21 => ?_)
    · replace h := h.1 c21
      refine vv_iload_n (mi := mX9_firstShort) (pc := 55) 4 dX9_firstShort_55 rfl rfl ?_
      refine vv_iconst (mi := mX9_firstShort) (pc := 56) 1 dX9_firstShort_56 rfl ?_
      refine vv_iadd (mi := mX9_firstShort) (pc := 57) dX9_firstShort_57 ?_
      refine vv_iload (mi := mX9_firstShort) (pc := 58) 1 dX9_firstShort_58 rfl ?_
      refine vv_callS (mi := mX9_firstShort) (pc := 60) (rest := []) (As := [.inl (x3 + 1), .inl r9]) (ctJ9_max_7cf53 (X := X) h) dX9_firstShort_60 mb_J9_max_7cf53 rfl ml_X9_59 sc_J9_max_7cf53 ⟨(Nat.le_of_ble_eq_true rfl), (Nat.le_of_ble_eq_true rfl)⟩ ⟨(Nat.le_of_ble_eq_true rfl), (Nat.le_of_ble_eq_true rfl)⟩ (Nat.le_of_ble_eq_true rfl) rfl (kI_ (F := fun st M' => VV X mX9_firstShort rX9_firstShort (pI_ post) 63 [(5, .inl r19), (4, .inl r9), (0, .inr (.inr (some this))), (1, .inr (.inr x1)), (3, .inl x3)] st M' 0 0) (fun r22 M23 h => ?_))
      refine vv_istore_n (mi := mX9_firstShort) (pc := 63) [(3, .inl r22), (5, .inl r19), (4, .inl r9), (0, .inr (.inr (some this))), (1, .inr (.inr x1))] dX9_firstShort_63 rfl (Nat.le_of_ble_eq_true rfl) rfl ?_
      refine vv_goto (mi := mX9_firstShort) (pc := 64) 2 dX9_firstShort_64 rfl ?_
      refine vv_sub (mi := mX9_firstShort) [(0, .inr (.inr (some this))), (1, .inr (.inr x1)), (3, .inl r22)] [3, 4, 0] rfl ?_
      exact hb2 _ _ _ _ h
    · replace h := h.2 c21
      refine vv_iload (mi := mX9_firstShort) (pc := 52) 0 dX9_firstShort_52 rfl ?_
      exact vv_iret (mi := mX9_firstShort) (pc := 54) dX9_firstShort_54 rfl (Nat.le_of_ble_eq_true rfl) (Nat.le_of_ble_eq_true rfl) h
theorem loX9_firstShort_2 {X : Cx_}  {post : Int32 → Mm → Prop}  : ∀ (fu : Nat) {this : Nat} {x1 : Option Nat} {x3 : Int32} {M : Mm}, DX9_firstShort_2  post fu this x1 x3 M → VV X mX9_firstShort rX9_firstShort (pI_ post) 2 [(0, .inr (.inr (some this))), (1, .inr (.inr x1)), (3, .inl x3)] [] M 0 0
  | 0, _, _, _, _, h => False.elim h
  | fu + 1, _, _, _, _, h => bX9_firstShort_2 (fun this x1 x3 M h => loX9_firstShort_2  fu h) h
set_option maxHeartbeats 4000000 in
set_option maxRecDepth 100000 in
theorem ctX9_firstShort {X : Cx_} {this : Nat} {a1 : Option Nat} {a2 : Int32} {M : Mm} {post : Int32 → Mm → Prop} (h : PX9_firstShort this a1 a2 M post) : CT X mX9_firstShort rX9_firstShort [.inr (.inr (some this)), .inr (.inr a1), .inl a2] M (pI_ post) := by
  unfold PX9_firstShort at h
  refine CT.of (by decide +kernel) (Nat.le_of_ble_eq_true rfl) ?_
  show VV X mX9_firstShort rX9_firstShort (pI_ post) 0 [(0, .inr (.inr (some this))), (1, .inr (.inr a1)), (2, .inl a2)] [] M 0 0
  refine vv_iload_n (mi := mX9_firstShort) (pc := 0) 2 dX9_firstShort_0 rfl rfl ?_
  refine vv_istore_n (mi := mX9_firstShort) (pc := 1) [(3, .inl a2), (0, .inr (.inr (some this))), (1, .inr (.inr a1)), (2, .inl a2)] dX9_firstShort_1 rfl (Nat.le_of_ble_eq_true rfl) rfl ?_
  refine vv_sub (mi := mX9_firstShort) [(0, .inr (.inr (some this))), (1, .inr (.inr a1)), (3, .inl a2)] [1, 2, 0] rfl ?_
  obtain ⟨fu, h⟩ := h
  exact loX9_firstShort_2 (X := X)  fu h
set_option maxHeartbeats 4000000 in
set_option maxRecDepth 100000 in
theorem bX9_nextTurnWithOptions_13 {X : Cx_} {kb13 : Nat → Int32 → Int32 → Int32 → Mm → Prop} {post : Int32 → Mm → Prop} (hb13 : ∀ (this : Nat) (x2 : Int32) (x3 : Int32) (x4 : Int32) (M : Mm), kb13 this x2 x3 x4 M → VV X mX9_nextTurnWithOptions rX9_nextTurnWithOptions (pI_ post) 13 [(0, .inr (.inr (some this))), (2, .inl x2), (3, .inl x3), (4, .inl x4)] [] M 0 0) {this : Nat} {x2 : Int32} {x3 : Int32} {x4 : Int32} {M : Mm} (h : BX9_nextTurnWithOptions_13 kb13 post this x2 x3 x4 M) : VV X mX9_nextTurnWithOptions rX9_nextTurnWithOptions (pI_ post) 13 [(0, .inr (.inr (some this))), (2, .inl x2), (3, .inl x3), (4, .inl x4)] [] M 0 0 := by
  unfold BX9_nextTurnWithOptions_13 at h
  refine vv_iload (mi := mX9_nextTurnWithOptions) (pc := 13) 3 dX9_nextTurnWithOptions_13 rfl ?_
  refine vv_aload_n (mi := mX9_nextTurnWithOptions) (pc := 15) 0 dX9_nextTurnWithOptions_15 rfl rfl ?_
  obtain ⟨ht7, h⟩ := h
  refine vv_getI (mi := mX9_nextTurnWithOptions) (pc := 16) 9 3 rfl ht7 fl_X9_38 (Nat.le_of_ble_eq_true rfl) dX9_nextTurnWithOptions_16 ?_
  refine vv_icmp_ge (mi := mX9_nextTurnWithOptions) (pc := 19) 58 dX9_nextTurnWithOptions_19 rfl (fun c8 => ?_) (fun c8 => ?_)
  · replace h := h.1 c8
    refine vv_iload_n (mi := mX9_nextTurnWithOptions) (pc := 58) 2 dX9_nextTurnWithOptions_58 rfl rfl ?_
    exact vv_iret (mi := mX9_nextTurnWithOptions) (pc := 59) dX9_nextTurnWithOptions_59 rfl (Nat.le_of_ble_eq_true rfl) (Nat.le_of_ble_eq_true rfl) h
  · replace h := h.2 c8
    refine vv_aload_n (mi := mX9_nextTurnWithOptions) (pc := 22) 0 dX9_nextTurnWithOptions_22 rfl rfl ?_
    refine vv_iload (mi := mX9_nextTurnWithOptions) (pc := 23) 3 dX9_nextTurnWithOptions_23 rfl ?_
    refine vv_callV (mi := mX9_nextTurnWithOptions) (pc := 25) (rest := []) (As := [.inl x4]) (ctX9_optionAt (X := X) h) dX9_nextTurnWithOptions_25 rfl ht7 (Nat.le_of_ble_eq_true rfl) rfl mb_X9_optionAt rfl ml_X9_107 im_X9_optionAt se_X9_optionAt ⟨(Nat.le_of_ble_eq_true rfl), (Nat.le_of_ble_eq_true rfl)⟩ ⟨(Nat.le_of_ble_eq_true rfl), (Nat.le_of_ble_eq_true rfl)⟩ (Nat.le_of_ble_eq_true rfl) rfl (kR_ (F := fun st M' => VV X mX9_nextTurnWithOptions rX9_nextTurnWithOptions (pI_ post) 28 [(0, .inr (.inr (some this))), (2, .inl x2), (3, .inl x3), (4, .inl x4)] st M' 0 0) (fun r9 M10 h => ?_))
    refine vv_astore (mi := mX9_nextTurnWithOptions) (pc := 28) [(5, .inr (.inr r9)), (0, .inr (.inr (some this))), (2, .inl x2), (3, .inl x3), (4, .inl x4)] dX9_nextTurnWithOptions_28 (Nat.le_of_ble_eq_true rfl) rfl ?_
    refine vv_aload (mi := mX9_nextTurnWithOptions) (pc := 30) 0 dX9_nextTurnWithOptions_30 rfl ?_
    refine vv_ifnull (mi := mX9_nextTurnWithOptions) (pc := 32) 52 dX9_nextTurnWithOptions_32 rfl (fun c11 => ?_) (fun aq12 c11 => ?_)
    · replace h := h.1 c11
      refine vv_iinc (mi := mX9_nextTurnWithOptions) (pc := 52) (x4 + 1) 4 [(4, .inl (x4 + 1)), (5, .inr (.inr r9)), (0, .inr (.inr (some this))), (2, .inl x2), (3, .inl x3)] dX9_nextTurnWithOptions_52 rfl rfl (Nat.le_of_ble_eq_true rfl) rfl ?_
      refine vv_goto (mi := mX9_nextTurnWithOptions) (pc := 55) 13 dX9_nextTurnWithOptions_55 rfl ?_
      refine vv_sub (mi := mX9_nextTurnWithOptions) [(0, .inr (.inr (some this))), (2, .inl x2), (3, .inl x3), (4, .inl (x4 + 1))] [2, 3, 4, 0] rfl ?_
      exact hb13 _ _ _ _ _ h
    · replace h := h.2 aq12 c11
      refine vv_iload_n (mi := mX9_nextTurnWithOptions) (pc := 35) 3 dX9_nextTurnWithOptions_35 rfl rfl ?_
      refine vv_aload (mi := mX9_nextTurnWithOptions) (pc := 36) 0 dX9_nextTurnWithOptions_36 rfl ?_
      obtain ⟨ht13, h⟩ := h
      refine vv_getR (mi := mX9_nextTurnWithOptions) (pc := 38) 5 0 c11 ht13 fl_X9_111 (Nat.le_of_ble_eq_true rfl) dX9_nextTurnWithOptions_38 ?_
      obtain ⟨aq14, hs15, h⟩ := h
      obtain ⟨ht16, h⟩ := h
      refine vv_getI (mi := mX9_nextTurnWithOptions) (pc := 41) 2 7 hs15 ht16 fl_X9_115 (Nat.le_of_ble_eq_true rfl) dX9_nextTurnWithOptions_41 ?_
      refine vv_callSN (mi := mX9_nextTurnWithOptions) (pc := 44) (rest := [.inl x3]) (As := [.inl (ddI M10 aq14 7)]) (ctX10_weekBehind (X := X) h) dX9_nextTurnWithOptions_44 mb_X10_weekBehind rfl mn_X9_120 sc_X10_weekBehind ⟨(Nat.le_of_ble_eq_true rfl), (Nat.le_of_ble_eq_true rfl)⟩ ⟨(Nat.le_of_ble_eq_true rfl), (Nat.le_of_ble_eq_true rfl)⟩ (Nat.le_of_ble_eq_true rfl) rfl (kI_ (F := fun st M' => VV X mX9_nextTurnWithOptions rX9_nextTurnWithOptions (pI_ post) 47 [(5, .inr (.inr r9)), (0, .inr (.inr (some this))), (2, .inl x2), (3, .inl x3), (4, .inl x4)] st M' 0 0) (fun r17 M18 h => ?_))
      refine vv_iload_n (mi := mX9_nextTurnWithOptions) (pc := 47) 2 dX9_nextTurnWithOptions_47 rfl rfl ?_
      refine vv_callS (mi := mX9_nextTurnWithOptions) (pc := 48) (rest := []) (As := [.inl x3, .inl r17, .inl x2]) (ctX6_sooner (X := X) h) dX9_nextTurnWithOptions_48 mb_X6_sooner rfl ml_X9_123 sc_X6_sooner ⟨(Nat.le_of_ble_eq_true rfl), (Nat.le_of_ble_eq_true rfl)⟩ ⟨(Nat.le_of_ble_eq_true rfl), (Nat.le_of_ble_eq_true rfl)⟩ (Nat.le_of_ble_eq_true rfl) rfl (kI_ (F := fun st M' => VV X mX9_nextTurnWithOptions rX9_nextTurnWithOptions (pI_ post) 51 [(5, .inr (.inr r9)), (0, .inr (.inr (some this))), (2, .inl x2), (3, .inl x3), (4, .inl x4)] st M' 0 0) (fun r19 M20 h => ?_))
      refine vv_istore_n (mi := mX9_nextTurnWithOptions) (pc := 51) [(3, .inl r19), (5, .inr (.inr r9)), (0, .inr (.inr (some this))), (2, .inl x2), (4, .inl x4)] dX9_nextTurnWithOptions_51 rfl (Nat.le_of_ble_eq_true rfl) rfl ?_
      refine vv_iinc (mi := mX9_nextTurnWithOptions) (pc := 52) (x4 + 1) 4 [(4, .inl (x4 + 1)), (3, .inl r19), (5, .inr (.inr r9)), (0, .inr (.inr (some this))), (2, .inl x2)] dX9_nextTurnWithOptions_52 rfl rfl (Nat.le_of_ble_eq_true rfl) rfl ?_
      refine vv_goto (mi := mX9_nextTurnWithOptions) (pc := 55) 13 dX9_nextTurnWithOptions_55 rfl ?_
      refine vv_sub (mi := mX9_nextTurnWithOptions) [(0, .inr (.inr (some this))), (2, .inl x2), (3, .inl r19), (4, .inl (x4 + 1))] [3, 4, 1, 0] rfl ?_
      exact hb13 _ _ _ _ _ h
theorem loX9_nextTurnWithOptions_13 {X : Cx_}  {post : Int32 → Mm → Prop}  : ∀ (fu : Nat) {this : Nat} {x2 : Int32} {x3 : Int32} {x4 : Int32} {M : Mm}, DX9_nextTurnWithOptions_13  post fu this x2 x3 x4 M → VV X mX9_nextTurnWithOptions rX9_nextTurnWithOptions (pI_ post) 13 [(0, .inr (.inr (some this))), (2, .inl x2), (3, .inl x3), (4, .inl x4)] [] M 0 0
  | 0, _, _, _, _, _, h => False.elim h
  | fu + 1, _, _, _, _, _, h => bX9_nextTurnWithOptions_13 (fun this x2 x3 x4 M h => loX9_nextTurnWithOptions_13  fu h) h
set_option maxHeartbeats 4000000 in
set_option maxRecDepth 100000 in
theorem ctX9_nextTurnWithOptions {X : Cx_} {this : Nat} {a1 : Int32} {a2 : Int32} {M : Mm} {post : Int32 → Mm → Prop} (h : PX9_nextTurnWithOptions this a1 a2 M post) : CT X mX9_nextTurnWithOptions rX9_nextTurnWithOptions [.inr (.inr (some this)), .inl a1, .inl a2] M (pI_ post) := by
  unfold PX9_nextTurnWithOptions at h
  refine CT.of (by decide +kernel) (Nat.le_of_ble_eq_true rfl) ?_
  show VV X mX9_nextTurnWithOptions rX9_nextTurnWithOptions (pI_ post) 0 [(0, .inr (.inr (some this))), (1, .inl a1), (2, .inl a2)] [] M 0 0
  refine vv_aload_n (mi := mX9_nextTurnWithOptions) (pc := 0) 0 dX9_nextTurnWithOptions_0 rfl rfl ?_
  obtain ⟨ht1, h⟩ := h
  refine vv_getR (mi := mX9_nextTurnWithOptions) (pc := 1) 9 0 rfl ht1 fl_X9_9 (Nat.le_of_ble_eq_true rfl) dX9_nextTurnWithOptions_1 ?_
  refine vv_iload_n (mi := mX9_nextTurnWithOptions) (pc := 4) 1 dX9_nextTurnWithOptions_4 rfl rfl ?_
  refine vv_iload_n (mi := mX9_nextTurnWithOptions) (pc := 5) 2 dX9_nextTurnWithOptions_5 rfl rfl ?_
  obtain ⟨aq2, hs3, h⟩ := h
  obtain ⟨ht4, h⟩ := h
  refine vv_callV (mi := mX9_nextTurnWithOptions) (pc := 6) (rest := []) (As := [.inl a1, .inl a2]) (ctX6_nextTurn (X := X) h) dX9_nextTurnWithOptions_6 hs3 ht4 (Nat.le_of_ble_eq_true rfl) rfl mb_X6_nextTurn rfl ml_X9_45 im_X6_nextTurn se_X6_nextTurn ⟨(Nat.le_of_ble_eq_true rfl), (Nat.le_of_ble_eq_true rfl)⟩ ⟨(Nat.le_of_ble_eq_true rfl), (Nat.le_of_ble_eq_true rfl)⟩ (Nat.le_of_ble_eq_true rfl) rfl (kI_ (F := fun st M' => VV X mX9_nextTurnWithOptions rX9_nextTurnWithOptions (pI_ post) 9 [(0, .inr (.inr (some this))), (1, .inl a1), (2, .inl a2)] st M' 0 0) (fun r5 M6 h => ?_))
  refine vv_istore_n (mi := mX9_nextTurnWithOptions) (pc := 9) [(3, .inl r5), (0, .inr (.inr (some this))), (1, .inl a1), (2, .inl a2)] dX9_nextTurnWithOptions_9 rfl (Nat.le_of_ble_eq_true rfl) rfl ?_
  refine vv_iconst (mi := mX9_nextTurnWithOptions) (pc := 10) 0 dX9_nextTurnWithOptions_10 rfl ?_
  refine vv_istore (mi := mX9_nextTurnWithOptions) (pc := 11) [(4, .inl 0), (3, .inl r5), (0, .inr (.inr (some this))), (1, .inl a1), (2, .inl a2)] dX9_nextTurnWithOptions_11 (Nat.le_of_ble_eq_true rfl) rfl ?_
  refine vv_sub (mi := mX9_nextTurnWithOptions) [(0, .inr (.inr (some this))), (2, .inl a2), (3, .inl r5), (4, .inl 0)] [2, 4, 1, 0] rfl ?_
  obtain ⟨fu, h⟩ := h
  exact loX9_nextTurnWithOptions_13 (X := X)  fu h
set_option maxHeartbeats 4000000 in
set_option maxRecDepth 100000 in
theorem bX9_noteLacks_8 {X : Cx_} {kb8 : Nat → (Option Nat) → Int32 → Int32 → Mm → Prop} {post : Mm → Prop} (hb8 : ∀ (this : Nat) (x1 : Option Nat) (x3 : Int32) (x4 : Int32) (M : Mm), kb8 this x1 x3 x4 M → VV X mX9_noteLacks rX9_noteLacks (pV_ post) 8 [(0, .inr (.inr (some this))), (1, .inr (.inr x1)), (3, .inl x3), (4, .inl x4)] [] M 0 0) {this : Nat} {x1 : Option Nat} {x3 : Int32} {x4 : Int32} {M : Mm} (h : BX9_noteLacks_8 kb8 post this x1 x3 x4 M) : VV X mX9_noteLacks rX9_noteLacks (pV_ post) 8 [(0, .inr (.inr (some this))), (1, .inr (.inr x1)), (3, .inl x3), (4, .inl x4)] [] M 0 0 := by
  unfold BX9_noteLacks_8 at h
  refine vv_iload (mi := mX9_noteLacks) (pc := 8) 3 dX9_noteLacks_8 rfl ?_
  refine vv_iload_n (mi := mX9_noteLacks) (pc := 10) 2 dX9_noteLacks_10 rfl rfl ?_
  refine vv_icmp_gt (mi := mX9_noteLacks) (pc := 11) 134 dX9_noteLacks_11 rfl (fun c3 => ?_) (fun c3 => ?_)
  · replace h := h.1 c3
    exact vv_vret (mi := mX9_noteLacks) (pc := 134) dX9_noteLacks_134 rfl (Nat.le_of_ble_eq_true rfl) (Nat.le_of_ble_eq_true rfl) h
  · replace h := h.2 c3
    refine vv_aload_n (mi := mX9_noteLacks) (pc := 14) 0 dX9_noteLacks_14 rfl rfl ?_
    refine vv_aload_n (mi := mX9_noteLacks) (pc := 15) 1 dX9_noteLacks_15 rfl rfl ?_
    obtain ⟨aq4, hs5, h⟩ := h
    obtain ⟨ht6, h⟩ := h
    refine vv_getI (mi := mX9_noteLacks) (pc := 16) 1 0 hs5 ht6 fl_X9_42 (Nat.le_of_ble_eq_true rfl) dX9_noteLacks_16 ?_
    refine vv_iload (mi := mX9_noteLacks) (pc := 19) 3 dX9_noteLacks_19 rfl ?_
    obtain ⟨ht7, h⟩ := h
    refine vv_callV (mi := mX9_noteLacks) (pc := 21) (rest := []) (As := [.inl (ddI M aq4 0), .inl x4]) (ctX9_nextTurnWithOptions (X := X) h) dX9_noteLacks_21 rfl ht7 (Nat.le_of_ble_eq_true rfl) rfl mb_X9_nextTurnWithOptions rfl ml_X9_100 im_X9_nextTurnWithOptions se_X9_nextTurnWithOptions ⟨(Nat.le_of_ble_eq_true rfl), (Nat.le_of_ble_eq_true rfl)⟩ ⟨(Nat.le_of_ble_eq_true rfl), (Nat.le_of_ble_eq_true rfl)⟩ (Nat.le_of_ble_eq_true rfl) rfl (kI_ (F := fun st M' => VV X mX9_noteLacks rX9_noteLacks (pV_ post) 24 [(0, .inr (.inr (some this))), (1, .inr (.inr x1)), (3, .inl x3), (4, .inl x4)] st M' 0 0) (fun r8 M9 h => ?_))
    refine vv_istore (mi := mX9_noteLacks) (pc := 24) [(5, .inl r8), (0, .inr (.inr (some this))), (1, .inr (.inr x1)), (3, .inl x3), (4, .inl x4)] dX9_noteLacks_24 (Nat.le_of_ble_eq_true rfl) rfl ?_
    refine vv_aload_n (mi := mX9_noteLacks) (pc := 26) 2 dX9_noteLacks_26 rfl rfl ?_
    refine vv_iload_n (mi := mX9_noteLacks) (pc := 27) 3 dX9_noteLacks_27 rfl rfl ?_
    refine vv_iload (mi := mX9_noteLacks) (pc := 28) 0 dX9_noteLacks_28 rfl ?_
    refine vv_iconst (mi := mX9_noteLacks) (pc := 30) 1 dX9_noteLacks_30 rfl ?_
    refine vv_isub (mi := mX9_noteLacks) (pc := 31) dX9_noteLacks_31 ?_
    refine vv_callS (mi := mX9_noteLacks) (pc := 32) (rest := [.inr (.inr x1)]) (As := [.inl x3, .inl (r8 - 1)]) (ctJ9_min_7cf53 (X := X) h) dX9_noteLacks_32 mb_J9_min_7cf53 rfl ml_X9_68 sc_J9_min_7cf53 ⟨(Nat.le_of_ble_eq_true rfl), (Nat.le_of_ble_eq_true rfl)⟩ ⟨(Nat.le_of_ble_eq_true rfl), (Nat.le_of_ble_eq_true rfl)⟩ (Nat.le_of_ble_eq_true rfl) rfl (kI_ (F := fun st M' => VV X mX9_noteLacks rX9_noteLacks (pV_ post) 35 [(5, .inl r8), (0, .inr (.inr (some this))), (1, .inr (.inr x1)), (3, .inl x3), (4, .inl x4)] st M' 0 0) (fun r10 M11 h => ?_))
    obtain ⟨ht12, h⟩ := h
    refine vv_callV (mi := mX9_noteLacks) (pc := 35) (rest := []) (As := [.inl r10]) (ctX1_askedIn (X := X) h) dX9_noteLacks_35 hs5 ht12 (Nat.le_of_ble_eq_true rfl) rfl mb_X1_askedIn rfl ml_X9_103 im_X1_askedIn se_X1_askedIn ⟨(Nat.le_of_ble_eq_true rfl), (Nat.le_of_ble_eq_true rfl)⟩ ⟨(Nat.le_of_ble_eq_true rfl), (Nat.le_of_ble_eq_true rfl)⟩ (Nat.le_of_ble_eq_true rfl) rfl (kL_ (F := fun st M' => VV X mX9_noteLacks rX9_noteLacks (pV_ post) 38 [(5, .inl r8), (0, .inr (.inr (some this))), (1, .inr (.inr x1)), (3, .inl x3), (4, .inl x4)] st M' 0 0) (fun r13 M14 h => ?_))
    refine vv_aload_n (mi := mX9_noteLacks) (pc := 38) 1 dX9_noteLacks_38 rfl rfl ?_
    obtain ⟨ht15, h⟩ := h
    refine vv_getR (mi := mX9_noteLacks) (pc := 39) 9 0 rfl ht15 fl_X9_9 (Nat.le_of_ble_eq_true rfl) dX9_noteLacks_39 ?_
    refine vv_aload_n (mi := mX9_noteLacks) (pc := 42) 2 dX9_noteLacks_42 rfl rfl ?_
    obtain ⟨ht16, h⟩ := h
    refine vv_getI (mi := mX9_noteLacks) (pc := 43) 1 0 hs5 ht16 fl_X9_42 (Nat.le_of_ble_eq_true rfl) dX9_noteLacks_43 ?_
    refine vv_bipush (mi := mX9_noteLacks) (pc := 46) 7 dX9_noteLacks_46 rfl ?_
    refine vv_iload (mi := mX9_noteLacks) (pc := 48) 4 dX9_noteLacks_48 rfl ?_
    refine vv_imul (mi := mX9_noteLacks) (pc := 50) dX9_noteLacks_50 ?_
    obtain ⟨aq17, hs18, h⟩ := h
    obtain ⟨ht19, h⟩ := h
    refine vv_callV (mi := mX9_noteLacks) (pc := 51) (rest := [.inr (.inl r13)]) (As := [.inl (ddI M14 aq4 0), .inl (7 * x4)]) (ctX6_roomOf (X := X) h) dX9_noteLacks_51 hs18 ht19 (Nat.le_of_ble_eq_true rfl) rfl mb_X6_roomOf rfl ml_X9_51 im_X6_roomOf se_X6_roomOf ⟨(Nat.le_of_ble_eq_true rfl), (Nat.le_of_ble_eq_true rfl)⟩ ⟨(Nat.le_of_ble_eq_true rfl), (Nat.le_of_ble_eq_true rfl)⟩ (Nat.le_of_ble_eq_true rfl) rfl (kL_ (F := fun st M' => VV X mX9_noteLacks rX9_noteLacks (pV_ post) 54 [(5, .inl r8), (0, .inr (.inr (some this))), (1, .inr (.inr x1)), (3, .inl x3), (4, .inl x4)] st M' 0 0) (fun r20 M21 h => ?_))
    refine vv_lsub (mi := mX9_noteLacks) (pc := 54) dX9_noteLacks_54 ?_
    obtain ⟨v22, ev22⟩ : ∃ z : Int64, z = (r13 - r20) := ⟨_, rfl⟩
    refine vv_namL ev22 ?_
    replace h := h _ ev22
    refine vv_lstore (mi := mX9_noteLacks) (pc := 55) [(6, .inr (.inl v22)), (5, .inl r8), (0, .inr (.inr (some this))), (1, .inr (.inr x1)), (3, .inl x3), (4, .inl x4)] dX9_noteLacks_55 (Nat.le_of_ble_eq_true rfl) rfl ?_
    refine vv_lload (mi := mX9_noteLacks) (pc := 57) 0 dX9_noteLacks_57 rfl ?_
    refine vv_lconst (mi := mX9_noteLacks) (pc := 59) 0 dX9_noteLacks_59 rfl ?_
    refine vv_lcmp (mi := mX9_noteLacks) (pc := 60) dX9_noteLacks_60 ?_
    refine vv_if_le (mi := mX9_noteLacks) (pc := 61) 120 dX9_noteLacks_61 rfl (fun c23 => ?_) (fun c23 => ?_)
    · replace h := h.1 c23
      refine vv_iload (mi := mX9_noteLacks) (pc := 120) 5 dX9_noteLacks_120 rfl ?_
      refine vv_iconst (mi := mX9_noteLacks) (pc := 122) 1 dX9_noteLacks_122 rfl ?_
      refine vv_iadd (mi := mX9_noteLacks) (pc := 123) dX9_noteLacks_123 ?_
      refine vv_iload (mi := mX9_noteLacks) (pc := 124) 1 dX9_noteLacks_124 rfl ?_
      refine vv_callS (mi := mX9_noteLacks) (pc := 126) (rest := []) (As := [.inl (x4 + 1), .inl r8]) (ctJ9_max_7cf53 (X := X) h) dX9_noteLacks_126 mb_J9_max_7cf53 rfl ml_X9_59 sc_J9_max_7cf53 ⟨(Nat.le_of_ble_eq_true rfl), (Nat.le_of_ble_eq_true rfl)⟩ ⟨(Nat.le_of_ble_eq_true rfl), (Nat.le_of_ble_eq_true rfl)⟩ (Nat.le_of_ble_eq_true rfl) rfl (kI_ (F := fun st M' => VV X mX9_noteLacks rX9_noteLacks (pV_ post) 129 [(6, .inr (.inl v22)), (5, .inl r8), (0, .inr (.inr (some this))), (1, .inr (.inr x1)), (3, .inl x3), (4, .inl x4)] st M' 0 0) (fun r24 M25 h => ?_))
      refine vv_istore (mi := mX9_noteLacks) (pc := 129) [(4, .inl r24), (6, .inr (.inl v22)), (5, .inl r8), (0, .inr (.inr (some this))), (1, .inr (.inr x1)), (3, .inl x3)] dX9_noteLacks_129 (Nat.le_of_ble_eq_true rfl) rfl ?_
      refine vv_goto (mi := mX9_noteLacks) (pc := 131) 8 dX9_noteLacks_131 rfl ?_
      refine vv_sub (mi := mX9_noteLacks) [(0, .inr (.inr (some this))), (1, .inr (.inr x1)), (3, .inl x3), (4, .inl r24)] [3, 4, 5, 0] rfl ?_
      exact hb8 _ _ _ _ _ h
    · replace h := h.2 c23
      refine vv_aload_n (mi := mX9_noteLacks) (pc := 64) 2 dX9_noteLacks_64 rfl rfl ?_
      obtain ⟨ht26, h⟩ := h
      refine vv_getI (mi := mX9_noteLacks) (pc := 65) 9 6 rfl ht26 fl_X9_97 (Nat.le_of_ble_eq_true rfl) dX9_noteLacks_65 ?_
      refine vv_aload_n (mi := mX9_noteLacks) (pc := 68) 2 dX9_noteLacks_68 rfl rfl ?_
      refine vv_getR (mi := mX9_noteLacks) (pc := 69) 9 5 rfl ht26 fl_X9_34 (Nat.le_of_ble_eq_true rfl) dX9_noteLacks_69 ?_
      obtain ⟨aq27, hs28, h⟩ := h
      obtain ⟨ht29, h⟩ := h
      refine vv_alen (mi := mX9_noteLacks) (pc := 72) (t := 21) (Nat.le_of_ble_eq_true rfl) (Nat.le_of_ble_eq_true rfl) rfl hs28 ht29 dX9_noteLacks_72 ?_
      refine vv_icmp_ge (mi := mX9_noteLacks) (pc := 73) 120 dX9_noteLacks_73 rfl (fun c30 => ?_) (fun c30 => ?_)
      · replace h := h.1 c30
        refine vv_iload (mi := mX9_noteLacks) (pc := 120) 5 dX9_noteLacks_120 rfl ?_
        refine vv_iconst (mi := mX9_noteLacks) (pc := 122) 1 dX9_noteLacks_122 rfl ?_
        refine vv_iadd (mi := mX9_noteLacks) (pc := 123) dX9_noteLacks_123 ?_
        refine vv_iload (mi := mX9_noteLacks) (pc := 124) 1 dX9_noteLacks_124 rfl ?_
        refine vv_callS (mi := mX9_noteLacks) (pc := 126) (rest := []) (As := [.inl (x4 + 1), .inl r8]) (ctJ9_max_7cf53 (X := X) h) dX9_noteLacks_126 mb_J9_max_7cf53 rfl ml_X9_59 sc_J9_max_7cf53 ⟨(Nat.le_of_ble_eq_true rfl), (Nat.le_of_ble_eq_true rfl)⟩ ⟨(Nat.le_of_ble_eq_true rfl), (Nat.le_of_ble_eq_true rfl)⟩ (Nat.le_of_ble_eq_true rfl) rfl (kI_ (F := fun st M' => VV X mX9_noteLacks rX9_noteLacks (pV_ post) 129 [(6, .inr (.inl v22)), (5, .inl r8), (0, .inr (.inr (some this))), (1, .inr (.inr x1)), (3, .inl x3), (4, .inl x4)] st M' 0 0) (fun r31 M32 h => ?_))
        refine vv_istore (mi := mX9_noteLacks) (pc := 129) [(4, .inl r31), (6, .inr (.inl v22)), (5, .inl r8), (0, .inr (.inr (some this))), (1, .inr (.inr x1)), (3, .inl x3)] dX9_noteLacks_129 (Nat.le_of_ble_eq_true rfl) rfl ?_
        refine vv_goto (mi := mX9_noteLacks) (pc := 131) 8 dX9_noteLacks_131 rfl ?_
        refine vv_sub (mi := mX9_noteLacks) [(0, .inr (.inr (some this))), (1, .inr (.inr x1)), (3, .inl x3), (4, .inl r31)] [3, 4, 5, 0] rfl ?_
        exact hb8 _ _ _ _ _ h
      · replace h := h.2 c30
        refine vv_aload_n (mi := mX9_noteLacks) (pc := 76) 2 dX9_noteLacks_76 rfl rfl ?_
        refine vv_getI (mi := mX9_noteLacks) (pc := 77) 9 6 rfl ht26 fl_X9_97 (Nat.le_of_ble_eq_true rfl) dX9_noteLacks_77 ?_
        refine vv_aload_n (mi := mX9_noteLacks) (pc := 80) 2 dX9_noteLacks_80 rfl rfl ?_
        refine vv_getR (mi := mX9_noteLacks) (pc := 81) 9 4 rfl ht26 fl_X9_30 (Nat.le_of_ble_eq_true rfl) dX9_noteLacks_81 ?_
        obtain ⟨aq33, hs34, h⟩ := h
        obtain ⟨ht35, h⟩ := h
        refine vv_alen (mi := mX9_noteLacks) (pc := 84) (t := 20) (Nat.le_of_ble_eq_true rfl) (Nat.le_of_ble_eq_true rfl) rfl hs34 ht35 dX9_noteLacks_84 ?_
        refine vv_icmp_ge (mi := mX9_noteLacks) (pc := 85) 120 dX9_noteLacks_85 rfl (fun c36 => ?_) (fun c36 => ?_)
        · replace h := h.1 c36
          refine vv_iload (mi := mX9_noteLacks) (pc := 120) 5 dX9_noteLacks_120 rfl ?_
          refine vv_iconst (mi := mX9_noteLacks) (pc := 122) 1 dX9_noteLacks_122 rfl ?_
          refine vv_iadd (mi := mX9_noteLacks) (pc := 123) dX9_noteLacks_123 ?_
          refine vv_iload (mi := mX9_noteLacks) (pc := 124) 1 dX9_noteLacks_124 rfl ?_
          refine vv_callS (mi := mX9_noteLacks) (pc := 126) (rest := []) (As := [.inl (x4 + 1), .inl r8]) (ctJ9_max_7cf53 (X := X) h) dX9_noteLacks_126 mb_J9_max_7cf53 rfl ml_X9_59 sc_J9_max_7cf53 ⟨(Nat.le_of_ble_eq_true rfl), (Nat.le_of_ble_eq_true rfl)⟩ ⟨(Nat.le_of_ble_eq_true rfl), (Nat.le_of_ble_eq_true rfl)⟩ (Nat.le_of_ble_eq_true rfl) rfl (kI_ (F := fun st M' => VV X mX9_noteLacks rX9_noteLacks (pV_ post) 129 [(6, .inr (.inl v22)), (5, .inl r8), (0, .inr (.inr (some this))), (1, .inr (.inr x1)), (3, .inl x3), (4, .inl x4)] st M' 0 0) (fun r37 M38 h => ?_))
          refine vv_istore (mi := mX9_noteLacks) (pc := 129) [(4, .inl r37), (6, .inr (.inl v22)), (5, .inl r8), (0, .inr (.inr (some this))), (1, .inr (.inr x1)), (3, .inl x3)] dX9_noteLacks_129 (Nat.le_of_ble_eq_true rfl) rfl ?_
          refine vv_goto (mi := mX9_noteLacks) (pc := 131) 8 dX9_noteLacks_131 rfl ?_
          refine vv_sub (mi := mX9_noteLacks) [(0, .inr (.inr (some this))), (1, .inr (.inr x1)), (3, .inl x3), (4, .inl r37)] [3, 4, 5, 0] rfl ?_
          exact hb8 _ _ _ _ _ h
        · replace h := h.2 c36
          refine vv_aload_n (mi := mX9_noteLacks) (pc := 88) 2 dX9_noteLacks_88 rfl rfl ?_
          refine vv_getR (mi := mX9_noteLacks) (pc := 89) 9 4 rfl ht26 fl_X9_30 (Nat.le_of_ble_eq_true rfl) dX9_noteLacks_89 ?_
          refine vv_aload_n (mi := mX9_noteLacks) (pc := 92) 2 dX9_noteLacks_92 rfl rfl ?_
          refine vv_getI (mi := mX9_noteLacks) (pc := 93) 9 6 rfl ht26 fl_X9_97 (Nat.le_of_ble_eq_true rfl) dX9_noteLacks_93 ?_
          refine vv_iload (mi := mX9_noteLacks) (pc := 96) 5 dX9_noteLacks_96 rfl ?_
          obtain ⟨hi39, h⟩ := h
          obtain ⟨M40, eM40⟩ : ∃ z : Mm, z = suI M21 aq33 (Int32.toNatClampNeg (ddI M21 this 6)) x4 := ⟨_, rfl⟩
          replace h := h _ eM40
          refine vv_iast (mi := mX9_noteLacks) (pc := 98) hs34 ht35 hi39 dX9_noteLacks_98 eM40 ?_
          refine vv_aload_n (mi := mX9_noteLacks) (pc := 99) 2 dX9_noteLacks_99 rfl rfl ?_
          refine vv_getR (mi := mX9_noteLacks) (pc := 100) 9 5 rfl (tgI_ eM40 ht26) fl_X9_34 (Nat.le_of_ble_eq_true rfl) dX9_noteLacks_100 ?_
          refine vv_aload_n (mi := mX9_noteLacks) (pc := 103) 2 dX9_noteLacks_103 rfl rfl ?_
          refine vv_getI (mi := mX9_noteLacks) (pc := 104) 9 6 rfl (tgI_ eM40 ht26) fl_X9_97 (Nat.le_of_ble_eq_true rfl) dX9_noteLacks_104 ?_
          refine vv_lload (mi := mX9_noteLacks) (pc := 107) 0 dX9_noteLacks_107 rfl ?_
          obtain ⟨aq41, hs42, h⟩ := h
          obtain ⟨ht43, h⟩ := h
          obtain ⟨hi44, h⟩ := h
          obtain ⟨M45, eM45⟩ : ∃ z : Mm, z = suL M40 aq41 (Int32.toNatClampNeg (ddI M40 this 6)) v22 := ⟨_, rfl⟩
          replace h := h _ eM45
          refine vv_last (mi := mX9_noteLacks) (pc := 109) hs42 ht43 hi44 dX9_noteLacks_109 eM45 ?_
          refine vv_aload_n (mi := mX9_noteLacks) (pc := 110) 2 dX9_noteLacks_110 rfl rfl ?_
          refine vv_dup (mi := mX9_noteLacks) (pc := 111) dX9_noteLacks_111 rfl ?_
          refine vv_getI (mi := mX9_noteLacks) (pc := 112) 9 6 rfl (tgL_ eM45 (tgI_ eM40 ht26)) fl_X9_97 (Nat.le_of_ble_eq_true rfl) dX9_noteLacks_112 ?_
          refine vv_iconst (mi := mX9_noteLacks) (pc := 115) 1 dX9_noteLacks_115 rfl ?_
          refine vv_iadd (mi := mX9_noteLacks) (pc := 116) dX9_noteLacks_116 ?_
          obtain ⟨M46, eM46⟩ : ∃ z : Mm, z = suI M45 this 6 ((ddI M45 this 6) + 1) := ⟨_, rfl⟩
          replace h := h _ eM46
          refine vv_putI (mi := mX9_noteLacks) (pc := 117) 9 6 rfl (tgL_ eM45 (tgI_ eM40 ht26)) fq_X9_97 (fun q => by cases q) rfl (Nat.le_of_ble_eq_true rfl) dX9_noteLacks_117 eM46 ?_
          refine vv_iload (mi := mX9_noteLacks) (pc := 120) 5 dX9_noteLacks_120 rfl ?_
          refine vv_iconst (mi := mX9_noteLacks) (pc := 122) 1 dX9_noteLacks_122 rfl ?_
          refine vv_iadd (mi := mX9_noteLacks) (pc := 123) dX9_noteLacks_123 ?_
          refine vv_iload (mi := mX9_noteLacks) (pc := 124) 1 dX9_noteLacks_124 rfl ?_
          refine vv_callS (mi := mX9_noteLacks) (pc := 126) (rest := []) (As := [.inl (x4 + 1), .inl r8]) (ctJ9_max_7cf53 (X := X) h) dX9_noteLacks_126 mb_J9_max_7cf53 rfl ml_X9_59 sc_J9_max_7cf53 ⟨(Nat.le_of_ble_eq_true rfl), (Nat.le_of_ble_eq_true rfl)⟩ ⟨(Nat.le_of_ble_eq_true rfl), (Nat.le_of_ble_eq_true rfl)⟩ (Nat.le_of_ble_eq_true rfl) rfl (kI_ (F := fun st M' => VV X mX9_noteLacks rX9_noteLacks (pV_ post) 129 [(6, .inr (.inl v22)), (5, .inl r8), (0, .inr (.inr (some this))), (1, .inr (.inr x1)), (3, .inl x3), (4, .inl x4)] st M' 0 0) (fun r47 M48 h => ?_))
          refine vv_istore (mi := mX9_noteLacks) (pc := 129) [(4, .inl r47), (6, .inr (.inl v22)), (5, .inl r8), (0, .inr (.inr (some this))), (1, .inr (.inr x1)), (3, .inl x3)] dX9_noteLacks_129 (Nat.le_of_ble_eq_true rfl) rfl ?_
          refine vv_goto (mi := mX9_noteLacks) (pc := 131) 8 dX9_noteLacks_131 rfl ?_
          refine vv_sub (mi := mX9_noteLacks) [(0, .inr (.inr (some this))), (1, .inr (.inr x1)), (3, .inl x3), (4, .inl r47)] [3, 4, 5, 0] rfl ?_
          exact hb8 _ _ _ _ _ h
theorem loX9_noteLacks_8 {X : Cx_}  {post : Mm → Prop}  : ∀ (fu : Nat) {this : Nat} {x1 : Option Nat} {x3 : Int32} {x4 : Int32} {M : Mm}, DX9_noteLacks_8  post fu this x1 x3 x4 M → VV X mX9_noteLacks rX9_noteLacks (pV_ post) 8 [(0, .inr (.inr (some this))), (1, .inr (.inr x1)), (3, .inl x3), (4, .inl x4)] [] M 0 0
  | 0, _, _, _, _, _, h => False.elim h
  | fu + 1, _, _, _, _, _, h => bX9_noteLacks_8 (fun this x1 x3 x4 M h => loX9_noteLacks_8  fu h) h
set_option maxHeartbeats 4000000 in
set_option maxRecDepth 100000 in
theorem ctX9_noteLacks {X : Cx_} {this : Nat} {a1 : Option Nat} {a2 : Int32} {a3 : Int32} {M : Mm} {post : Mm → Prop} (h : PX9_noteLacks this a1 a2 a3 M post) : CT X mX9_noteLacks rX9_noteLacks [.inr (.inr (some this)), .inr (.inr a1), .inl a2, .inl a3] M (pV_ post) := by
  unfold PX9_noteLacks at h
  refine CT.of (by decide +kernel) (Nat.le_of_ble_eq_true rfl) ?_
  show VV X mX9_noteLacks rX9_noteLacks (pV_ post) 0 [(0, .inr (.inr (some this))), (1, .inr (.inr a1)), (2, .inl a2), (3, .inl a3)] [] M 0 0
  refine vv_aload_n (mi := mX9_noteLacks) (pc := 0) 0 dX9_noteLacks_0 rfl rfl ?_
  refine vv_iconst (mi := mX9_noteLacks) (pc := 1) 0 dX9_noteLacks_1 rfl ?_
  obtain ⟨ht1, h⟩ := h
  obtain ⟨M2, eM2⟩ : ∃ z : Mm, z = suI M this 6 0 := ⟨_, rfl⟩
  replace h := h _ eM2
  refine vv_putI (mi := mX9_noteLacks) (pc := 2) 9 6 rfl ht1 fq_X9_97 (fun q => by cases q) rfl (Nat.le_of_ble_eq_true rfl) dX9_noteLacks_2 eM2 ?_
  refine vv_iload_n (mi := mX9_noteLacks) (pc := 5) 2 dX9_noteLacks_5 rfl rfl ?_
  refine vv_istore (mi := mX9_noteLacks) (pc := 6) [(4, .inl a2), (0, .inr (.inr (some this))), (1, .inr (.inr a1)), (2, .inl a2), (3, .inl a3)] dX9_noteLacks_6 (Nat.le_of_ble_eq_true rfl) rfl ?_
  refine vv_sub (mi := mX9_noteLacks) [(0, .inr (.inr (some this))), (1, .inr (.inr a1)), (3, .inl a3), (4, .inl a2)] [1, 2, 4, 0] rfl ?_
  obtain ⟨fu, h⟩ := h
  exact loX9_noteLacks_8 (X := X)  fu h
set_option maxHeartbeats 4000000 in
set_option maxRecDepth 100000 in
theorem bX9_usableFor_5 {X : Cx_} {kb5 : Nat → Int32 → Int32 → Int32 → Int32 → Mm → Prop} {post : Int32 → Mm → Prop} (hb5 : ∀ (this : Nat) (x1 : Int32) (x2 : Int32) (x3 : Int32) (x4 : Int32) (M : Mm), kb5 this x1 x2 x3 x4 M → VV X mX9_usableFor rX9_usableFor (pI_ post) 5 [(0, .inr (.inr (some this))), (1, .inl x1), (2, .inl x2), (3, .inl x3), (4, .inl x4)] [] M 0 0) {this : Nat} {x1 : Int32} {x2 : Int32} {x3 : Int32} {x4 : Int32} {M : Mm} (h : BX9_usableFor_5 kb5 post this x1 x2 x3 x4 M) : VV X mX9_usableFor rX9_usableFor (pI_ post) 5 [(0, .inr (.inr (some this))), (1, .inl x1), (2, .inl x2), (3, .inl x3), (4, .inl x4)] [] M 0 0 := by
  unfold BX9_usableFor_5 at h
  refine vv_iload (mi := mX9_usableFor) (pc := 5) 4 dX9_usableFor_5 rfl ?_
  refine vv_aload_n (mi := mX9_usableFor) (pc := 7) 0 dX9_usableFor_7 rfl rfl ?_
  obtain ⟨ht1, h⟩ := h
  refine vv_getI (mi := mX9_usableFor) (pc := 8) 9 3 rfl ht1 fl_X9_38 (Nat.le_of_ble_eq_true rfl) dX9_usableFor_8 ?_
  refine vv_icmp_ge (mi := mX9_usableFor) (pc := 11) 87 dX9_usableFor_11 rfl (fun c2 => ?_) (fun c2 => ?_)
  · replace h := h.1 c2
    refine vv_iload_n (mi := mX9_usableFor) (pc := 87) 3 dX9_usableFor_87 rfl rfl ?_
    exact vv_iret (mi := mX9_usableFor) (pc := 88) dX9_usableFor_88 rfl (Nat.le_of_ble_eq_true rfl) (Nat.le_of_ble_eq_true rfl) h
  · replace h := h.2 c2
    refine vv_aload_n (mi := mX9_usableFor) (pc := 14) 0 dX9_usableFor_14 rfl rfl ?_
    refine vv_iload (mi := mX9_usableFor) (pc := 15) 4 dX9_usableFor_15 rfl ?_
    refine vv_callV (mi := mX9_usableFor) (pc := 17) (rest := []) (As := [.inl x4]) (ctX9_optionAt (X := X) h) dX9_usableFor_17 rfl ht1 (Nat.le_of_ble_eq_true rfl) rfl mb_X9_optionAt rfl ml_X9_107 im_X9_optionAt se_X9_optionAt ⟨(Nat.le_of_ble_eq_true rfl), (Nat.le_of_ble_eq_true rfl)⟩ ⟨(Nat.le_of_ble_eq_true rfl), (Nat.le_of_ble_eq_true rfl)⟩ (Nat.le_of_ble_eq_true rfl) rfl (kR_ (F := fun st M' => VV X mX9_usableFor rX9_usableFor (pI_ post) 20 [(0, .inr (.inr (some this))), (1, .inl x1), (2, .inl x2), (3, .inl x3), (4, .inl x4)] st M' 0 0) (fun r3 M4 h => ?_))
    refine vv_astore (mi := mX9_usableFor) (pc := 20) [(5, .inr (.inr r3)), (0, .inr (.inr (some this))), (1, .inl x1), (2, .inl x2), (3, .inl x3), (4, .inl x4)] dX9_usableFor_20 (Nat.le_of_ble_eq_true rfl) rfl ?_
    refine vv_aload (mi := mX9_usableFor) (pc := 22) 0 dX9_usableFor_22 rfl ?_
    refine vv_ifnull (mi := mX9_usableFor) (pc := 24) 81 dX9_usableFor_24 rfl (fun c5 => ?_) (fun aq6 c5 => ?_)
    · replace h := h.1 c5
      refine vv_iinc (mi := mX9_usableFor) (pc := 81) (x4 + 1) 5 [(4, .inl (x4 + 1)), (5, .inr (.inr r3)), (0, .inr (.inr (some this))), (1, .inl x1), (2, .inl x2), (3, .inl x3)] dX9_usableFor_81 rfl rfl (Nat.le_of_ble_eq_true rfl) rfl ?_
      refine vv_goto (mi := mX9_usableFor) (pc := 84) 5 dX9_usableFor_84 rfl ?_
      refine vv_sub (mi := mX9_usableFor) [(0, .inr (.inr (some this))), (1, .inl x1), (2, .inl x2), (3, .inl x3), (4, .inl (x4 + 1))] [2, 3, 4, 5, 0] rfl ?_
      exact hb5 _ _ _ _ _ _ h
    · replace h := h.2 aq6 c5
      refine vv_aload (mi := mX9_usableFor) (pc := 27) 0 dX9_usableFor_27 rfl ?_
      obtain ⟨ht7, h⟩ := h
      refine vv_getR (mi := mX9_usableFor) (pc := 29) 5 0 c5 ht7 fl_X9_111 (Nat.le_of_ble_eq_true rfl) dX9_usableFor_29 ?_
      obtain ⟨aq8, hs9, h⟩ := h
      obtain ⟨ht10, h⟩ := h
      refine vv_getI (mi := mX9_usableFor) (pc := 32) 2 1 hs9 ht10 fl_X9_127 (Nat.le_of_ble_eq_true rfl) dX9_usableFor_32 ?_
      refine vv_iload_n (mi := mX9_usableFor) (pc := 35) 2 dX9_usableFor_35 rfl rfl ?_
      refine vv_icmp_ne (mi := mX9_usableFor) (pc := 36) 81 dX9_usableFor_36 rfl (fun c11 => ?_) (fun c11 => ?_)
      · replace h := h.1 c11
        refine vv_iinc (mi := mX9_usableFor) (pc := 81) (x4 + 1) 5 [(4, .inl (x4 + 1)), (5, .inr (.inr r3)), (0, .inr (.inr (some this))), (1, .inl x1), (2, .inl x2), (3, .inl x3)] dX9_usableFor_81 rfl rfl (Nat.le_of_ble_eq_true rfl) rfl ?_
        refine vv_goto (mi := mX9_usableFor) (pc := 84) 5 dX9_usableFor_84 rfl ?_
        refine vv_sub (mi := mX9_usableFor) [(0, .inr (.inr (some this))), (1, .inl x1), (2, .inl x2), (3, .inl x3), (4, .inl (x4 + 1))] [2, 3, 4, 5, 0] rfl ?_
        exact hb5 _ _ _ _ _ _ h
      · replace h := h.2 c11
        refine vv_aload (mi := mX9_usableFor) (pc := 39) 0 dX9_usableFor_39 rfl ?_
        refine vv_getR (mi := mX9_usableFor) (pc := 41) 5 0 c5 ht7 fl_X9_111 (Nat.le_of_ble_eq_true rfl) dX9_usableFor_41 ?_
        refine vv_getI (mi := mX9_usableFor) (pc := 44) 2 7 hs9 ht10 fl_X9_115 (Nat.le_of_ble_eq_true rfl) dX9_usableFor_44 ?_
        refine vv_iload_n (mi := mX9_usableFor) (pc := 47) 3 dX9_usableFor_47 rfl rfl ?_
        refine vv_icmp_lt (mi := mX9_usableFor) (pc := 48) 81 dX9_usableFor_48 rfl (fun c12 => ?_) (fun c12 => ?_)
        · replace h := h.1 c12
          refine vv_iinc (mi := mX9_usableFor) (pc := 81) (x4 + 1) 5 [(4, .inl (x4 + 1)), (5, .inr (.inr r3)), (0, .inr (.inr (some this))), (1, .inl x1), (2, .inl x2), (3, .inl x3)] dX9_usableFor_81 rfl rfl (Nat.le_of_ble_eq_true rfl) rfl ?_
          refine vv_goto (mi := mX9_usableFor) (pc := 84) 5 dX9_usableFor_84 rfl ?_
          refine vv_sub (mi := mX9_usableFor) [(0, .inr (.inr (some this))), (1, .inl x1), (2, .inl x2), (3, .inl x3), (4, .inl (x4 + 1))] [2, 3, 4, 5, 0] rfl ?_
          exact hb5 _ _ _ _ _ _ h
        · replace h := h.2 c12
          refine vv_aload_n (mi := mX9_usableFor) (pc := 51) 1 dX9_usableFor_51 rfl rfl ?_
          obtain ⟨ht13, h⟩ := h
          refine vv_getR (mi := mX9_usableFor) (pc := 52) 9 0 rfl ht13 fl_X9_9 (Nat.le_of_ble_eq_true rfl) dX9_usableFor_52 ?_
          refine vv_aload (mi := mX9_usableFor) (pc := 55) 0 dX9_usableFor_55 rfl ?_
          refine vv_getR (mi := mX9_usableFor) (pc := 57) 5 0 c5 ht7 fl_X9_111 (Nat.le_of_ble_eq_true rfl) dX9_usableFor_57 ?_
          refine vv_aload (mi := mX9_usableFor) (pc := 60) 0 dX9_usableFor_60 rfl ?_
          refine vv_getR (mi := mX9_usableFor) (pc := 62) 5 0 c5 ht7 fl_X9_111 (Nat.le_of_ble_eq_true rfl) dX9_usableFor_62 ?_
          refine vv_getI (mi := mX9_usableFor) (pc := 65) 2 7 hs9 ht10 fl_X9_115 (Nat.le_of_ble_eq_true rfl) dX9_usableFor_65 ?_
          obtain ⟨aq14, hs15, h⟩ := h
          obtain ⟨ht16, h⟩ := h
          refine vv_callV (mi := mX9_usableFor) (pc := 68) (rest := []) (As := [.inr (.inr (ddR M4 aq6 0)), .inl (ddI M4 aq8 7)]) (ctX6_clashesOn (X := X) h) dX9_usableFor_68 hs15 ht16 (Nat.le_of_ble_eq_true rfl) rfl mb_X6_clashesOn rfl ml_X9_130 im_X6_clashesOn se_X6_clashesOn ⟨(Nat.le_of_ble_eq_true rfl), (Nat.le_of_ble_eq_true rfl)⟩ ⟨(Nat.le_of_ble_eq_true rfl), (Nat.le_of_ble_eq_true rfl)⟩ (Nat.le_of_ble_eq_true rfl) rfl (kI_ (F := fun st M' => VV X mX9_usableFor rX9_usableFor (pI_ post) 71 [(5, .inr (.inr r3)), (0, .inr (.inr (some this))), (1, .inl x1), (2, .inl x2), (3, .inl x3), (4, .inl x4)] st M' 0 0) (fun r17 M18 h => ?_))
          refine vv_if_ne (mi := mX9_usableFor) (pc := 71) 81 dX9_usableFor_71 rfl (fun c19 => ?_) (fun c19 => ?_)
          · replace h := h.1 c19
            refine vv_iinc (mi := mX9_usableFor) (pc := 81) (x4 + 1) 5 [(4, .inl (x4 + 1)), (5, .inr (.inr r3)), (0, .inr (.inr (some this))), (1, .inl x1), (2, .inl x2), (3, .inl x3)] dX9_usableFor_81 rfl rfl (Nat.le_of_ble_eq_true rfl) rfl ?_
            refine vv_goto (mi := mX9_usableFor) (pc := 84) 5 dX9_usableFor_84 rfl ?_
            refine vv_sub (mi := mX9_usableFor) [(0, .inr (.inr (some this))), (1, .inl x1), (2, .inl x2), (3, .inl x3), (4, .inl (x4 + 1))] [2, 3, 4, 5, 0] rfl ?_
            exact hb5 _ _ _ _ _ _ h
          · replace h := h.2 c19
            refine vv_iload_n (mi := mX9_usableFor) (pc := 74) 4 dX9_usableFor_74 rfl rfl ?_
            refine vv_iconst (mi := mX9_usableFor) (pc := 75) 1 dX9_usableFor_75 rfl ?_
            refine vv_iload (mi := mX9_usableFor) (pc := 76) 5 dX9_usableFor_76 rfl ?_
            refine vv_ishl (mi := mX9_usableFor) (pc := 78) dX9_usableFor_78 ?_
            refine vv_ior (mi := mX9_usableFor) (pc := 79) dX9_usableFor_79 ?_
            obtain ⟨v20, ev20⟩ : ∃ z : Int32, z = (x3 ||| (1 <<< (x4 &&& 31))) := ⟨_, rfl⟩
            refine vv_namI ev20 ?_
            replace h := h _ ev20
            refine vv_istore_n (mi := mX9_usableFor) (pc := 80) [(3, .inl v20), (5, .inr (.inr r3)), (0, .inr (.inr (some this))), (1, .inl x1), (2, .inl x2), (4, .inl x4)] dX9_usableFor_80 rfl (Nat.le_of_ble_eq_true rfl) rfl ?_
            refine vv_iinc (mi := mX9_usableFor) (pc := 81) (x4 + 1) 5 [(4, .inl (x4 + 1)), (3, .inl v20), (5, .inr (.inr r3)), (0, .inr (.inr (some this))), (1, .inl x1), (2, .inl x2)] dX9_usableFor_81 rfl rfl (Nat.le_of_ble_eq_true rfl) rfl ?_
            refine vv_goto (mi := mX9_usableFor) (pc := 84) 5 dX9_usableFor_84 rfl ?_
            refine vv_sub (mi := mX9_usableFor) [(0, .inr (.inr (some this))), (1, .inl x1), (2, .inl x2), (3, .inl v20), (4, .inl (x4 + 1))] [3, 4, 5, 1, 0] rfl ?_
            exact hb5 _ _ _ _ _ _ h
theorem loX9_usableFor_5 {X : Cx_}  {post : Int32 → Mm → Prop}  : ∀ (fu : Nat) {this : Nat} {x1 : Int32} {x2 : Int32} {x3 : Int32} {x4 : Int32} {M : Mm}, DX9_usableFor_5  post fu this x1 x2 x3 x4 M → VV X mX9_usableFor rX9_usableFor (pI_ post) 5 [(0, .inr (.inr (some this))), (1, .inl x1), (2, .inl x2), (3, .inl x3), (4, .inl x4)] [] M 0 0
  | 0, _, _, _, _, _, _, h => False.elim h
  | fu + 1, _, _, _, _, _, _, h => bX9_usableFor_5 (fun this x1 x2 x3 x4 M h => loX9_usableFor_5  fu h) h
set_option maxHeartbeats 4000000 in
set_option maxRecDepth 100000 in
theorem ctX9_usableFor {X : Cx_} {this : Nat} {a1 : Int32} {a2 : Int32} {M : Mm} {post : Int32 → Mm → Prop} (h : PX9_usableFor this a1 a2 M post) : CT X mX9_usableFor rX9_usableFor [.inr (.inr (some this)), .inl a1, .inl a2] M (pI_ post) := by
  unfold PX9_usableFor at h
  refine CT.of (by decide +kernel) (Nat.le_of_ble_eq_true rfl) ?_
  show VV X mX9_usableFor rX9_usableFor (pI_ post) 0 [(0, .inr (.inr (some this))), (1, .inl a1), (2, .inl a2)] [] M 0 0
  refine vv_iconst (mi := mX9_usableFor) (pc := 0) 0 dX9_usableFor_0 rfl ?_
  refine vv_istore_n (mi := mX9_usableFor) (pc := 1) [(3, .inl 0), (0, .inr (.inr (some this))), (1, .inl a1), (2, .inl a2)] dX9_usableFor_1 rfl (Nat.le_of_ble_eq_true rfl) rfl ?_
  refine vv_iconst (mi := mX9_usableFor) (pc := 2) 0 dX9_usableFor_2 rfl ?_
  refine vv_istore (mi := mX9_usableFor) (pc := 3) [(4, .inl 0), (3, .inl 0), (0, .inr (.inr (some this))), (1, .inl a1), (2, .inl a2)] dX9_usableFor_3 (Nat.le_of_ble_eq_true rfl) rfl ?_
  refine vv_sub (mi := mX9_usableFor) [(0, .inr (.inr (some this))), (1, .inl a1), (2, .inl a2), (3, .inl 0), (4, .inl 0)] [2, 3, 4, 1, 0] rfl ?_
  obtain ⟨fu, h⟩ := h
  exact loX9_usableFor_5 (X := X)  fu h
set_option maxHeartbeats 4000000 in
set_option maxRecDepth 100000 in
theorem bX9_costOf_4 {X : Cx_} {kb4 : Nat → Int32 → Int32 → Int32 → Mm → Prop} {post : Int32 → Mm → Prop} (hb4 : ∀ (this : Nat) (x1 : Int32) (x2 : Int32) (x3 : Int32) (M : Mm), kb4 this x1 x2 x3 M → VV X mX9_costOf rX9_costOf (pI_ post) 4 [(0, .inr (.inr (some this))), (1, .inl x1), (2, .inl x2), (3, .inl x3)] [] M 0 0) {this : Nat} {x1 : Int32} {x2 : Int32} {x3 : Int32} {M : Mm} (h : BX9_costOf_4 kb4 post this x1 x2 x3 M) : VV X mX9_costOf rX9_costOf (pI_ post) 4 [(0, .inr (.inr (some this))), (1, .inl x1), (2, .inl x2), (3, .inl x3)] [] M 0 0 := by
  unfold BX9_costOf_4 at h
  refine vv_iload_n (mi := mX9_costOf) (pc := 4) 3 dX9_costOf_4 rfl rfl ?_
  refine vv_aload_n (mi := mX9_costOf) (pc := 5) 0 dX9_costOf_5 rfl rfl ?_
  obtain ⟨ht1, h⟩ := h
  refine vv_getI (mi := mX9_costOf) (pc := 6) 9 3 rfl ht1 fl_X9_38 (Nat.le_of_ble_eq_true rfl) dX9_costOf_6 ?_
  refine vv_icmp_ge (mi := mX9_costOf) (pc := 9) 46 dX9_costOf_9 rfl (fun c2 => ?_) (fun c2 => ?_)
  · replace h := h.1 c2
    refine vv_iload_n (mi := mX9_costOf) (pc := 46) 2 dX9_costOf_46 rfl rfl ?_
    exact vv_iret (mi := mX9_costOf) (pc := 47) dX9_costOf_47 rfl (Nat.le_of_ble_eq_true rfl) (Nat.le_of_ble_eq_true rfl) h
  · replace h := h.2 c2
    refine vv_aload_n (mi := mX9_costOf) (pc := 12) 0 dX9_costOf_12 rfl rfl ?_
    refine vv_iload_n (mi := mX9_costOf) (pc := 13) 3 dX9_costOf_13 rfl rfl ?_
    refine vv_callV (mi := mX9_costOf) (pc := 14) (rest := []) (As := [.inl x3]) (ctX9_optionAt (X := X) h) dX9_costOf_14 rfl ht1 (Nat.le_of_ble_eq_true rfl) rfl mb_X9_optionAt rfl ml_X9_107 im_X9_optionAt se_X9_optionAt ⟨(Nat.le_of_ble_eq_true rfl), (Nat.le_of_ble_eq_true rfl)⟩ ⟨(Nat.le_of_ble_eq_true rfl), (Nat.le_of_ble_eq_true rfl)⟩ (Nat.le_of_ble_eq_true rfl) rfl (kR_ (F := fun st M' => VV X mX9_costOf rX9_costOf (pI_ post) 17 [(0, .inr (.inr (some this))), (1, .inl x1), (2, .inl x2), (3, .inl x3)] st M' 0 0) (fun r3 M4 h => ?_))
    refine vv_astore (mi := mX9_costOf) (pc := 17) [(4, .inr (.inr r3)), (0, .inr (.inr (some this))), (1, .inl x1), (2, .inl x2), (3, .inl x3)] dX9_costOf_17 (Nat.le_of_ble_eq_true rfl) rfl ?_
    refine vv_aload (mi := mX9_costOf) (pc := 19) 0 dX9_costOf_19 rfl ?_
    refine vv_ifnull (mi := mX9_costOf) (pc := 21) 40 dX9_costOf_21 rfl (fun c5 => ?_) (fun aq6 c5 => ?_)
    · replace h := h.1 c5
      refine vv_iinc (mi := mX9_costOf) (pc := 40) (x3 + 1) 4 [(3, .inl (x3 + 1)), (4, .inr (.inr r3)), (0, .inr (.inr (some this))), (1, .inl x1), (2, .inl x2)] dX9_costOf_40 rfl rfl (Nat.le_of_ble_eq_true rfl) rfl ?_
      refine vv_goto (mi := mX9_costOf) (pc := 43) 4 dX9_costOf_43 rfl ?_
      refine vv_sub (mi := mX9_costOf) [(0, .inr (.inr (some this))), (1, .inl x1), (2, .inl x2), (3, .inl (x3 + 1))] [2, 3, 4, 0] rfl ?_
      exact hb4 _ _ _ _ _ h
    · replace h := h.2 aq6 c5
      refine vv_iload_n (mi := mX9_costOf) (pc := 24) 2 dX9_costOf_24 rfl rfl ?_
      refine vv_iload_n (mi := mX9_costOf) (pc := 25) 4 dX9_costOf_25 rfl rfl ?_
      refine vv_ishr (mi := mX9_costOf) (pc := 26) dX9_costOf_26 ?_
      refine vv_iconst (mi := mX9_costOf) (pc := 27) 1 dX9_costOf_27 rfl ?_
      refine vv_iand (mi := mX9_costOf) (pc := 28) dX9_costOf_28 ?_
      refine vv_if_eq (mi := mX9_costOf) (pc := 29) 40 dX9_costOf_29 rfl (fun c7 => ?_) (fun c7 => ?_)
      · replace h := h.1 c7
        refine vv_iinc (mi := mX9_costOf) (pc := 40) (x3 + 1) 4 [(3, .inl (x3 + 1)), (4, .inr (.inr r3)), (0, .inr (.inr (some this))), (1, .inl x1), (2, .inl x2)] dX9_costOf_40 rfl rfl (Nat.le_of_ble_eq_true rfl) rfl ?_
        refine vv_goto (mi := mX9_costOf) (pc := 43) 4 dX9_costOf_43 rfl ?_
        refine vv_sub (mi := mX9_costOf) [(0, .inr (.inr (some this))), (1, .inl x1), (2, .inl x2), (3, .inl (x3 + 1))] [2, 3, 4, 0] rfl ?_
        exact hb4 _ _ _ _ _ h
      · replace h := h.2 c7
        refine vv_iload_n (mi := mX9_costOf) (pc := 32) 3 dX9_costOf_32 rfl rfl ?_
        refine vv_aload (mi := mX9_costOf) (pc := 33) 0 dX9_costOf_33 rfl ?_
        obtain ⟨ht8, h⟩ := h
        refine vv_getI (mi := mX9_costOf) (pc := 35) 5 1 c5 ht8 fl_X9_134 (Nat.le_of_ble_eq_true rfl) dX9_costOf_35 ?_
        refine vv_iadd (mi := mX9_costOf) (pc := 38) dX9_costOf_38 ?_
        obtain ⟨v9, ev9⟩ : ∃ z : Int32, z = (x2 + (ddI M4 aq6 1)) := ⟨_, rfl⟩
        refine vv_namI ev9 ?_
        replace h := h _ ev9
        refine vv_istore_n (mi := mX9_costOf) (pc := 39) [(2, .inl v9), (4, .inr (.inr r3)), (0, .inr (.inr (some this))), (1, .inl x1), (3, .inl x3)] dX9_costOf_39 rfl (Nat.le_of_ble_eq_true rfl) rfl ?_
        refine vv_iinc (mi := mX9_costOf) (pc := 40) (x3 + 1) 4 [(3, .inl (x3 + 1)), (2, .inl v9), (4, .inr (.inr r3)), (0, .inr (.inr (some this))), (1, .inl x1)] dX9_costOf_40 rfl rfl (Nat.le_of_ble_eq_true rfl) rfl ?_
        refine vv_goto (mi := mX9_costOf) (pc := 43) 4 dX9_costOf_43 rfl ?_
        refine vv_sub (mi := mX9_costOf) [(0, .inr (.inr (some this))), (1, .inl x1), (2, .inl v9), (3, .inl (x3 + 1))] [3, 4, 1, 0] rfl ?_
        exact hb4 _ _ _ _ _ h
theorem loX9_costOf_4 {X : Cx_}  {post : Int32 → Mm → Prop}  : ∀ (fu : Nat) {this : Nat} {x1 : Int32} {x2 : Int32} {x3 : Int32} {M : Mm}, DX9_costOf_4  post fu this x1 x2 x3 M → VV X mX9_costOf rX9_costOf (pI_ post) 4 [(0, .inr (.inr (some this))), (1, .inl x1), (2, .inl x2), (3, .inl x3)] [] M 0 0
  | 0, _, _, _, _, _, h => False.elim h
  | fu + 1, _, _, _, _, _, h => bX9_costOf_4 (fun this x1 x2 x3 M h => loX9_costOf_4  fu h) h
set_option maxHeartbeats 4000000 in
set_option maxRecDepth 100000 in
theorem ctX9_costOf {X : Cx_} {this : Nat} {a1 : Int32} {M : Mm} {post : Int32 → Mm → Prop} (h : PX9_costOf this a1 M post) : CT X mX9_costOf rX9_costOf [.inr (.inr (some this)), .inl a1] M (pI_ post) := by
  unfold PX9_costOf at h
  refine CT.of (by decide +kernel) (Nat.le_of_ble_eq_true rfl) ?_
  show VV X mX9_costOf rX9_costOf (pI_ post) 0 [(0, .inr (.inr (some this))), (1, .inl a1)] [] M 0 0
  refine vv_iconst (mi := mX9_costOf) (pc := 0) 0 dX9_costOf_0 rfl ?_
  refine vv_istore_n (mi := mX9_costOf) (pc := 1) [(2, .inl 0), (0, .inr (.inr (some this))), (1, .inl a1)] dX9_costOf_1 rfl (Nat.le_of_ble_eq_true rfl) rfl ?_
  refine vv_iconst (mi := mX9_costOf) (pc := 2) 0 dX9_costOf_2 rfl ?_
  refine vv_istore_n (mi := mX9_costOf) (pc := 3) [(3, .inl 0), (2, .inl 0), (0, .inr (.inr (some this))), (1, .inl a1)] dX9_costOf_3 rfl (Nat.le_of_ble_eq_true rfl) rfl ?_
  refine vv_sub (mi := mX9_costOf) [(0, .inr (.inr (some this))), (1, .inl a1), (2, .inl 0), (3, .inl 0)] [2, 3, 1, 0] rfl ?_
  obtain ⟨fu, h⟩ := h
  exact loX9_costOf_4 (X := X)  fu h
set_option maxHeartbeats 4000000 in
set_option maxRecDepth 100000 in
theorem bX9_roomBy_5 {X : Cx_} {kb5 : Nat → Int32 → Int32 → Int64 → Int32 → Mm → Prop} {post : Int64 → Mm → Prop} (hb5 : ∀ (this : Nat) (x1 : Int32) (x2 : Int32) (x3 : Int64) (x5 : Int32) (M : Mm), kb5 this x1 x2 x3 x5 M → VV X mX9_roomBy rX9_roomBy (pL_ post) 5 [(0, .inr (.inr (some this))), (1, .inl x1), (2, .inl x2), (3, .inr (.inl x3)), (5, .inl x5)] [] M 0 0) {this : Nat} {x1 : Int32} {x2 : Int32} {x3 : Int64} {x5 : Int32} {M : Mm} (h : BX9_roomBy_5 kb5 post this x1 x2 x3 x5 M) : VV X mX9_roomBy rX9_roomBy (pL_ post) 5 [(0, .inr (.inr (some this))), (1, .inl x1), (2, .inl x2), (3, .inr (.inl x3)), (5, .inl x5)] [] M 0 0 := by
  unfold BX9_roomBy_5 at h
  refine vv_iload (mi := mX9_roomBy) (pc := 5) 4 dX9_roomBy_5 rfl ?_
  refine vv_aload_n (mi := mX9_roomBy) (pc := 7) 0 dX9_roomBy_7 rfl rfl ?_
  obtain ⟨ht1, h⟩ := h
  refine vv_getI (mi := mX9_roomBy) (pc := 8) 9 3 rfl ht1 fl_X9_38 (Nat.le_of_ble_eq_true rfl) dX9_roomBy_8 ?_
  refine vv_icmp_ge (mi := mX9_roomBy) (pc := 11) 54 dX9_roomBy_11 rfl (fun c2 => ?_) (fun c2 => ?_)
  · replace h := h.1 c2
    refine vv_lload_n (mi := mX9_roomBy) (pc := 54) 3 dX9_roomBy_54 rfl rfl ?_
    exact vv_lret (mi := mX9_roomBy) (pc := 55) dX9_roomBy_55 rfl (Nat.le_of_ble_eq_true rfl) (Nat.le_of_ble_eq_true rfl) h
  · replace h := h.2 c2
    refine vv_aload_n (mi := mX9_roomBy) (pc := 14) 0 dX9_roomBy_14 rfl rfl ?_
    refine vv_iload (mi := mX9_roomBy) (pc := 15) 4 dX9_roomBy_15 rfl ?_
    refine vv_callV (mi := mX9_roomBy) (pc := 17) (rest := []) (As := [.inl x5]) (ctX9_optionAt (X := X) h) dX9_roomBy_17 rfl ht1 (Nat.le_of_ble_eq_true rfl) rfl mb_X9_optionAt rfl ml_X9_107 im_X9_optionAt se_X9_optionAt ⟨(Nat.le_of_ble_eq_true rfl), (Nat.le_of_ble_eq_true rfl)⟩ ⟨(Nat.le_of_ble_eq_true rfl), (Nat.le_of_ble_eq_true rfl)⟩ (Nat.le_of_ble_eq_true rfl) rfl (kR_ (F := fun st M' => VV X mX9_roomBy rX9_roomBy (pL_ post) 20 [(0, .inr (.inr (some this))), (1, .inl x1), (2, .inl x2), (3, .inr (.inl x3)), (5, .inl x5)] st M' 0 0) (fun r3 M4 h => ?_))
    refine vv_astore (mi := mX9_roomBy) (pc := 20) [(6, .inr (.inr r3)), (0, .inr (.inr (some this))), (1, .inl x1), (2, .inl x2), (3, .inr (.inl x3)), (5, .inl x5)] dX9_roomBy_20 (Nat.le_of_ble_eq_true rfl) rfl ?_
    refine vv_aload (mi := mX9_roomBy) (pc := 22) 0 dX9_roomBy_22 rfl ?_
    refine vv_ifnull (mi := mX9_roomBy) (pc := 24) 48 dX9_roomBy_24 rfl (fun c5 => ?_) (fun aq6 c5 => ?_)
    · replace h := h.1 c5
      refine vv_iinc (mi := mX9_roomBy) (pc := 48) (x5 + 1) 5 [(5, .inl (x5 + 1)), (6, .inr (.inr r3)), (0, .inr (.inr (some this))), (1, .inl x1), (2, .inl x2), (3, .inr (.inl x3))] dX9_roomBy_48 rfl rfl (Nat.le_of_ble_eq_true rfl) rfl ?_
      refine vv_goto (mi := mX9_roomBy) (pc := 51) 5 dX9_roomBy_51 rfl ?_
      refine vv_sub (mi := mX9_roomBy) [(0, .inr (.inr (some this))), (1, .inl x1), (2, .inl x2), (3, .inr (.inl x3)), (5, .inl (x5 + 1))] [2, 3, 4, 5, 0] rfl ?_
      exact hb5 _ _ _ _ _ _ h
    · replace h := h.2 aq6 c5
      refine vv_iload_n (mi := mX9_roomBy) (pc := 27) 2 dX9_roomBy_27 rfl rfl ?_
      refine vv_iload (mi := mX9_roomBy) (pc := 28) 5 dX9_roomBy_28 rfl ?_
      refine vv_ishr (mi := mX9_roomBy) (pc := 30) dX9_roomBy_30 ?_
      refine vv_iconst (mi := mX9_roomBy) (pc := 31) 1 dX9_roomBy_31 rfl ?_
      refine vv_iand (mi := mX9_roomBy) (pc := 32) dX9_roomBy_32 ?_
      refine vv_if_eq (mi := mX9_roomBy) (pc := 33) 48 dX9_roomBy_33 rfl (fun c7 => ?_) (fun c7 => ?_)
      · replace h := h.1 c7
        refine vv_iinc (mi := mX9_roomBy) (pc := 48) (x5 + 1) 5 [(5, .inl (x5 + 1)), (6, .inr (.inr r3)), (0, .inr (.inr (some this))), (1, .inl x1), (2, .inl x2), (3, .inr (.inl x3))] dX9_roomBy_48 rfl rfl (Nat.le_of_ble_eq_true rfl) rfl ?_
        refine vv_goto (mi := mX9_roomBy) (pc := 51) 5 dX9_roomBy_51 rfl ?_
        refine vv_sub (mi := mX9_roomBy) [(0, .inr (.inr (some this))), (1, .inl x1), (2, .inl x2), (3, .inr (.inl x3)), (5, .inl (x5 + 1))] [2, 3, 4, 5, 0] rfl ?_
        exact hb5 _ _ _ _ _ _ h
      · replace h := h.2 c7
        refine vv_lload_n (mi := mX9_roomBy) (pc := 36) 4 dX9_roomBy_36 rfl rfl ?_
        refine vv_aload (mi := mX9_roomBy) (pc := 37) 0 dX9_roomBy_37 rfl ?_
        obtain ⟨ht8, h⟩ := h
        refine vv_getR (mi := mX9_roomBy) (pc := 39) 5 0 c5 ht8 fl_X9_111 (Nat.le_of_ble_eq_true rfl) dX9_roomBy_39 ?_
        refine vv_iload_n (mi := mX9_roomBy) (pc := 42) 3 dX9_roomBy_42 rfl rfl ?_
        obtain ⟨aq9, hs10, h⟩ := h
        obtain ⟨ht11, h⟩ := h
        refine vv_callV (mi := mX9_roomBy) (pc := 43) (rest := [.inr (.inl x3)]) (As := [.inl x2]) (ctX2_roomOn (X := X) h) dX9_roomBy_43 hs10 ht11 (Nat.le_of_ble_eq_true rfl) rfl mb_X2_roomOn rfl ml_X9_144 im_X2_roomOn se_X2_roomOn ⟨(Nat.le_of_ble_eq_true rfl), (Nat.le_of_ble_eq_true rfl)⟩ ⟨(Nat.le_of_ble_eq_true rfl), (Nat.le_of_ble_eq_true rfl)⟩ (Nat.le_of_ble_eq_true rfl) rfl (kL_ (F := fun st M' => VV X mX9_roomBy rX9_roomBy (pL_ post) 46 [(6, .inr (.inr r3)), (0, .inr (.inr (some this))), (1, .inl x1), (2, .inl x2), (3, .inr (.inl x3)), (5, .inl x5)] st M' 0 0) (fun r12 M13 h => ?_))
        refine vv_ladd (mi := mX9_roomBy) (pc := 46) dX9_roomBy_46 ?_
        obtain ⟨v14, ev14⟩ : ∃ z : Int64, z = (x3 + r12) := ⟨_, rfl⟩
        refine vv_namL ev14 ?_
        replace h := h _ ev14
        refine vv_lstore_n (mi := mX9_roomBy) (pc := 47) [(3, .inr (.inl v14)), (6, .inr (.inr r3)), (0, .inr (.inr (some this))), (1, .inl x1), (2, .inl x2), (5, .inl x5)] dX9_roomBy_47 rfl (Nat.le_of_ble_eq_true rfl) rfl ?_
        refine vv_iinc (mi := mX9_roomBy) (pc := 48) (x5 + 1) 5 [(5, .inl (x5 + 1)), (3, .inr (.inl v14)), (6, .inr (.inr r3)), (0, .inr (.inr (some this))), (1, .inl x1), (2, .inl x2)] dX9_roomBy_48 rfl rfl (Nat.le_of_ble_eq_true rfl) rfl ?_
        refine vv_goto (mi := mX9_roomBy) (pc := 51) 5 dX9_roomBy_51 rfl ?_
        refine vv_sub (mi := mX9_roomBy) [(0, .inr (.inr (some this))), (1, .inl x1), (2, .inl x2), (3, .inr (.inl v14)), (5, .inl (x5 + 1))] [3, 4, 5, 1, 0] rfl ?_
        exact hb5 _ _ _ _ _ _ h
theorem loX9_roomBy_5 {X : Cx_}  {post : Int64 → Mm → Prop}  : ∀ (fu : Nat) {this : Nat} {x1 : Int32} {x2 : Int32} {x3 : Int64} {x5 : Int32} {M : Mm}, DX9_roomBy_5  post fu this x1 x2 x3 x5 M → VV X mX9_roomBy rX9_roomBy (pL_ post) 5 [(0, .inr (.inr (some this))), (1, .inl x1), (2, .inl x2), (3, .inr (.inl x3)), (5, .inl x5)] [] M 0 0
  | 0, _, _, _, _, _, _, h => False.elim h
  | fu + 1, _, _, _, _, _, _, h => bX9_roomBy_5 (fun this x1 x2 x3 x5 M h => loX9_roomBy_5  fu h) h
set_option maxHeartbeats 4000000 in
set_option maxRecDepth 100000 in
theorem ctX9_roomBy {X : Cx_} {this : Nat} {a1 : Int32} {a2 : Int32} {M : Mm} {post : Int64 → Mm → Prop} (h : PX9_roomBy this a1 a2 M post) : CT X mX9_roomBy rX9_roomBy [.inr (.inr (some this)), .inl a1, .inl a2] M (pL_ post) := by
  unfold PX9_roomBy at h
  refine CT.of (by decide +kernel) (Nat.le_of_ble_eq_true rfl) ?_
  show VV X mX9_roomBy rX9_roomBy (pL_ post) 0 [(0, .inr (.inr (some this))), (1, .inl a1), (2, .inl a2)] [] M 0 0
  refine vv_lconst (mi := mX9_roomBy) (pc := 0) 0 dX9_roomBy_0 rfl ?_
  refine vv_lstore_n (mi := mX9_roomBy) (pc := 1) [(3, .inr (.inl 0)), (0, .inr (.inr (some this))), (1, .inl a1), (2, .inl a2)] dX9_roomBy_1 rfl (Nat.le_of_ble_eq_true rfl) rfl ?_
  refine vv_iconst (mi := mX9_roomBy) (pc := 2) 0 dX9_roomBy_2 rfl ?_
  refine vv_istore (mi := mX9_roomBy) (pc := 3) [(5, .inl 0), (3, .inr (.inl 0)), (0, .inr (.inr (some this))), (1, .inl a1), (2, .inl a2)] dX9_roomBy_3 (Nat.le_of_ble_eq_true rfl) rfl ?_
  refine vv_sub (mi := mX9_roomBy) [(0, .inr (.inr (some this))), (1, .inl a1), (2, .inl a2), (3, .inr (.inl 0)), (5, .inl 0)] [2, 3, 4, 1, 0] rfl ?_
  obtain ⟨fu, h⟩ := h
  exact loX9_roomBy_5 (X := X)  fu h
set_option maxHeartbeats 4000000 in
set_option maxRecDepth 100000 in
theorem bX9_coversLacks_2 {X : Cx_} {kb2 : Nat → Int32 → Int32 → Mm → Prop} {post : Int32 → Mm → Prop} (hb2 : ∀ (this : Nat) (x1 : Int32) (x2 : Int32) (M : Mm), kb2 this x1 x2 M → VV X mX9_coversLacks rX9_coversLacks (pI_ post) 2 [(0, .inr (.inr (some this))), (1, .inl x1), (2, .inl x2)] [] M 0 0) {this : Nat} {x1 : Int32} {x2 : Int32} {M : Mm} (h : BX9_coversLacks_2 kb2 post this x1 x2 M) : VV X mX9_coversLacks rX9_coversLacks (pI_ post) 2 [(0, .inr (.inr (some this))), (1, .inl x1), (2, .inl x2)] [] M 0 0 := by
  unfold BX9_coversLacks_2 at h
  refine vv_iload_n (mi := mX9_coversLacks) (pc := 2) 2 dX9_coversLacks_2 rfl rfl ?_
  refine vv_aload_n (mi := mX9_coversLacks) (pc := 3) 0 dX9_coversLacks_3 rfl rfl ?_
  obtain ⟨ht1, h⟩ := h
  refine vv_getI (mi := mX9_coversLacks) (pc := 4) 9 6 rfl ht1 fl_X9_97 (Nat.le_of_ble_eq_true rfl) dX9_coversLacks_4 ?_
  refine vv_icmp_ge (mi := mX9_coversLacks) (pc := 7) 60 dX9_coversLacks_7 rfl (fun c2 => ?_) (fun c2 => ?_)
  · replace h := h.1 c2
    refine vv_iconst (mi := mX9_coversLacks) (pc := 60) 1 dX9_coversLacks_60 rfl ?_
    exact vv_zret (mi := mX9_coversLacks) (pc := 61) dX9_coversLacks_61 rfl (Or.inr rfl) (Nat.le_of_ble_eq_true rfl) (Nat.le_of_ble_eq_true rfl) h
  · replace h := h.2 c2
    refine vv_iload_n (mi := mX9_coversLacks) (pc := 10) 2 dX9_coversLacks_10 rfl rfl ?_
    refine vv_aload_n (mi := mX9_coversLacks) (pc := 11) 0 dX9_coversLacks_11 rfl rfl ?_
    refine vv_getR (mi := mX9_coversLacks) (pc := 12) 9 5 rfl ht1 fl_X9_34 (Nat.le_of_ble_eq_true rfl) dX9_coversLacks_12 ?_
    obtain ⟨aq3, hs4, h⟩ := h
    obtain ⟨ht5, h⟩ := h
    refine vv_alen (mi := mX9_coversLacks) (pc := 15) (t := 21) (Nat.le_of_ble_eq_true rfl) (Nat.le_of_ble_eq_true rfl) rfl hs4 ht5 dX9_coversLacks_15 ?_
    refine vv_icmp_ge (mi := mX9_coversLacks) (pc := 16) 60 dX9_coversLacks_16 rfl (fun c6 => ?_) (fun c6 => ?_)
    · replace h := h.1 c6
      refine vv_iconst (mi := mX9_coversLacks) (pc := 60) 1 dX9_coversLacks_60 rfl ?_
      exact vv_zret (mi := mX9_coversLacks) (pc := 61) dX9_coversLacks_61 rfl (Or.inr rfl) (Nat.le_of_ble_eq_true rfl) (Nat.le_of_ble_eq_true rfl) h
    · replace h := h.2 c6
      refine vv_iload_n (mi := mX9_coversLacks) (pc := 19) 2 dX9_coversLacks_19 rfl rfl ?_
      refine vv_aload_n (mi := mX9_coversLacks) (pc := 20) 0 dX9_coversLacks_20 rfl rfl ?_
      refine vv_getR (mi := mX9_coversLacks) (pc := 21) 9 4 rfl ht1 fl_X9_30 (Nat.le_of_ble_eq_true rfl) dX9_coversLacks_21 ?_
      obtain ⟨aq7, hs8, h⟩ := h
      obtain ⟨ht9, h⟩ := h
      refine vv_alen (mi := mX9_coversLacks) (pc := 24) (t := 20) (Nat.le_of_ble_eq_true rfl) (Nat.le_of_ble_eq_true rfl) rfl hs8 ht9 dX9_coversLacks_24 ?_
      refine vv_icmp_ge (mi := mX9_coversLacks) (pc := 25) 60 dX9_coversLacks_25 rfl (fun c10 => ?_) (fun c10 => ?_)
      · replace h := h.1 c10
        refine vv_iconst (mi := mX9_coversLacks) (pc := 60) 1 dX9_coversLacks_60 rfl ?_
        exact vv_zret (mi := mX9_coversLacks) (pc := 61) dX9_coversLacks_61 rfl (Or.inr rfl) (Nat.le_of_ble_eq_true rfl) (Nat.le_of_ble_eq_true rfl) h
      · replace h := h.2 c10
        refine vv_aload_n (mi := mX9_coversLacks) (pc := 28) 0 dX9_coversLacks_28 rfl rfl ?_
        refine vv_iload_n (mi := mX9_coversLacks) (pc := 29) 1 dX9_coversLacks_29 rfl rfl ?_
        refine vv_bipush (mi := mX9_coversLacks) (pc := 30) 7 dX9_coversLacks_30 rfl ?_
        refine vv_aload_n (mi := mX9_coversLacks) (pc := 32) 0 dX9_coversLacks_32 rfl rfl ?_
        refine vv_getR (mi := mX9_coversLacks) (pc := 33) 9 4 rfl ht1 fl_X9_30 (Nat.le_of_ble_eq_true rfl) dX9_coversLacks_33 ?_
        refine vv_iload_n (mi := mX9_coversLacks) (pc := 36) 2 dX9_coversLacks_36 rfl rfl ?_
        obtain ⟨hi11, h⟩ := h
        refine vv_iald (mi := mX9_coversLacks) (pc := 37) hs8 ht9 hi11 dX9_coversLacks_37 ?_
        refine vv_imul (mi := mX9_coversLacks) (pc := 38) dX9_coversLacks_38 ?_
        refine vv_callV (mi := mX9_coversLacks) (pc := 39) (rest := []) (As := [.inl x1, .inl (7 * (ddI M aq7 (Int32.toNatClampNeg x2)))]) (ctX9_roomBy (X := X) h) dX9_coversLacks_39 rfl ht1 (Nat.le_of_ble_eq_true rfl) rfl mb_X9_roomBy rfl ml_X9_141 im_X9_roomBy se_X9_roomBy ⟨(Nat.le_of_ble_eq_true rfl), (Nat.le_of_ble_eq_true rfl)⟩ ⟨(Nat.le_of_ble_eq_true rfl), (Nat.le_of_ble_eq_true rfl)⟩ (Nat.le_of_ble_eq_true rfl) rfl (kL_ (F := fun st M' => VV X mX9_coversLacks rX9_coversLacks (pI_ post) 42 [(0, .inr (.inr (some this))), (1, .inl x1), (2, .inl x2)] st M' 0 0) (fun r12 M13 h => ?_))
        refine vv_aload_n (mi := mX9_coversLacks) (pc := 42) 0 dX9_coversLacks_42 rfl rfl ?_
        obtain ⟨ht14, h⟩ := h
        refine vv_getR (mi := mX9_coversLacks) (pc := 43) 9 5 rfl ht14 fl_X9_34 (Nat.le_of_ble_eq_true rfl) dX9_coversLacks_43 ?_
        refine vv_iload_n (mi := mX9_coversLacks) (pc := 46) 2 dX9_coversLacks_46 rfl rfl ?_
        obtain ⟨aq15, hs16, h⟩ := h
        obtain ⟨ht17, h⟩ := h
        obtain ⟨hi18, h⟩ := h
        refine vv_lald (mi := mX9_coversLacks) (pc := 47) hs16 ht17 hi18 dX9_coversLacks_47 ?_
        refine vv_lcmp (mi := mX9_coversLacks) (pc := 48) dX9_coversLacks_48 ?_
        refine vv_if_ge (mi := mX9_coversLacks) (pc := 49) 54 dX9_coversLacks_49 rfl (fun c19 => ?_) (fun c19 => ?_)
        · replace h := h.1 c19
          refine vv_iinc (mi := mX9_coversLacks) (pc := 54) (x2 + 1) 2 [(2, .inl (x2 + 1)), (0, .inr (.inr (some this))), (1, .inl x1)] dX9_coversLacks_54 rfl rfl (Nat.le_of_ble_eq_true rfl) rfl ?_
          refine vv_goto (mi := mX9_coversLacks) (pc := 57) 2 dX9_coversLacks_57 rfl ?_
          refine vv_sub (mi := mX9_coversLacks) [(0, .inr (.inr (some this))), (1, .inl x1), (2, .inl (x2 + 1))] [1, 2, 0] rfl ?_
          exact hb2 _ _ _ _ h
        · replace h := h.2 c19
          refine vv_iconst (mi := mX9_coversLacks) (pc := 52) 0 dX9_coversLacks_52 rfl ?_
          exact vv_zret (mi := mX9_coversLacks) (pc := 53) dX9_coversLacks_53 rfl (Or.inl rfl) (Nat.le_of_ble_eq_true rfl) (Nat.le_of_ble_eq_true rfl) h
theorem loX9_coversLacks_2 {X : Cx_}  {post : Int32 → Mm → Prop}  : ∀ (fu : Nat) {this : Nat} {x1 : Int32} {x2 : Int32} {M : Mm}, DX9_coversLacks_2  post fu this x1 x2 M → VV X mX9_coversLacks rX9_coversLacks (pI_ post) 2 [(0, .inr (.inr (some this))), (1, .inl x1), (2, .inl x2)] [] M 0 0
  | 0, _, _, _, _, h => False.elim h
  | fu + 1, _, _, _, _, h => bX9_coversLacks_2 (fun this x1 x2 M h => loX9_coversLacks_2  fu h) h
set_option maxHeartbeats 4000000 in
set_option maxRecDepth 100000 in
theorem ctX9_coversLacks {X : Cx_} {this : Nat} {a1 : Int32} {M : Mm} {post : Int32 → Mm → Prop} (h : PX9_coversLacks this a1 M post) : CT X mX9_coversLacks rX9_coversLacks [.inr (.inr (some this)), .inl a1] M (pI_ post) := by
  unfold PX9_coversLacks at h
  refine CT.of (by decide +kernel) (Nat.le_of_ble_eq_true rfl) ?_
  show VV X mX9_coversLacks rX9_coversLacks (pI_ post) 0 [(0, .inr (.inr (some this))), (1, .inl a1)] [] M 0 0
  refine vv_iconst (mi := mX9_coversLacks) (pc := 0) 0 dX9_coversLacks_0 rfl ?_
  refine vv_istore_n (mi := mX9_coversLacks) (pc := 1) [(2, .inl 0), (0, .inr (.inr (some this))), (1, .inl a1)] dX9_coversLacks_1 rfl (Nat.le_of_ble_eq_true rfl) rfl ?_
  refine vv_sub (mi := mX9_coversLacks) [(0, .inr (.inr (some this))), (1, .inl a1), (2, .inl 0)] [1, 2, 0] rfl ?_
  obtain ⟨fu, h⟩ := h
  exact loX9_coversLacks_2 (X := X)  fu h
set_option maxHeartbeats 4000000 in
set_option maxRecDepth 100000 in
theorem bX9_isWithoutPair_21 {X : Cx_} {kb2 : Nat → Int32 → Int32 → Mm → Prop} {kb21 : Nat → Int32 → Int32 → (Option Nat) → Int32 → Mm → Prop} {post : Int32 → Mm → Prop} (hb2 : ∀ (this : Nat) (x1 : Int32) (x2 : Int32) (M : Mm), kb2 this x1 x2 M → VV X mX9_isWithoutPair rX9_isWithoutPair (pI_ post) 2 [(0, .inr (.inr (some this))), (1, .inl x1), (2, .inl x2)] [] M 0 0) (hb21 : ∀ (this : Nat) (x1 : Int32) (x2 : Int32) (x3 : Option Nat) (x4 : Int32) (M : Mm), kb21 this x1 x2 x3 x4 M → VV X mX9_isWithoutPair rX9_isWithoutPair (pI_ post) 21 [(0, .inr (.inr (some this))), (1, .inl x1), (2, .inl x2), (3, .inr (.inr x3)), (4, .inl x4)] [] M 0 0) {this : Nat} {x1 : Int32} {x2 : Int32} {x3 : Option Nat} {x4 : Int32} {M : Mm} (h : BX9_isWithoutPair_21 kb2 kb21 post this x1 x2 x3 x4 M) : VV X mX9_isWithoutPair rX9_isWithoutPair (pI_ post) 21 [(0, .inr (.inr (some this))), (1, .inl x1), (2, .inl x2), (3, .inr (.inr x3)), (4, .inl x4)] [] M 0 0 := by
  unfold BX9_isWithoutPair_21 at h
  refine vv_iload (mi := mX9_isWithoutPair) (pc := 21) 4 dX9_isWithoutPair_21 rfl ?_
  refine vv_aload_n (mi := mX9_isWithoutPair) (pc := 23) 0 dX9_isWithoutPair_23 rfl rfl ?_
  obtain ⟨ht6, h⟩ := h
  refine vv_getI (mi := mX9_isWithoutPair) (pc := 24) 9 3 rfl ht6 fl_X9_38 (Nat.le_of_ble_eq_true rfl) dX9_isWithoutPair_24 ?_
  refine vv_icmp_ge (mi := mX9_isWithoutPair) (pc := 27) 87 dX9_isWithoutPair_27 rfl (fun c7 => ?_) (fun c7 => ?_)
  · replace h := h.1 c7
    refine vv_iinc (mi := mX9_isWithoutPair) (pc := 87) (x2 + 1) 2 [(2, .inl (x2 + 1)), (0, .inr (.inr (some this))), (1, .inl x1), (3, .inr (.inr x3)), (4, .inl x4)] dX9_isWithoutPair_87 rfl rfl (Nat.le_of_ble_eq_true rfl) rfl ?_
    refine vv_goto (mi := mX9_isWithoutPair) (pc := 90) 2 dX9_isWithoutPair_90 rfl ?_
    refine vv_sub (mi := mX9_isWithoutPair) [(0, .inr (.inr (some this))), (1, .inl x1), (2, .inl (x2 + 1))] [1, 2, 0] rfl ?_
    exact hb2 _ _ _ _ h
  · replace h := h.2 c7
    refine vv_aload_n (mi := mX9_isWithoutPair) (pc := 30) 0 dX9_isWithoutPair_30 rfl rfl ?_
    refine vv_iload (mi := mX9_isWithoutPair) (pc := 31) 4 dX9_isWithoutPair_31 rfl ?_
    refine vv_callV (mi := mX9_isWithoutPair) (pc := 33) (rest := []) (As := [.inl x4]) (ctX9_optionAt (X := X) h) dX9_isWithoutPair_33 rfl ht6 (Nat.le_of_ble_eq_true rfl) rfl mb_X9_optionAt rfl ml_X9_107 im_X9_optionAt se_X9_optionAt ⟨(Nat.le_of_ble_eq_true rfl), (Nat.le_of_ble_eq_true rfl)⟩ ⟨(Nat.le_of_ble_eq_true rfl), (Nat.le_of_ble_eq_true rfl)⟩ (Nat.le_of_ble_eq_true rfl) rfl (kR_ (F := fun st M' => VV X mX9_isWithoutPair rX9_isWithoutPair (pI_ post) 36 [(0, .inr (.inr (some this))), (1, .inl x1), (2, .inl x2), (3, .inr (.inr x3)), (4, .inl x4)] st M' 0 0) (fun r8 M9 h => ?_))
    refine vv_astore (mi := mX9_isWithoutPair) (pc := 36) [(5, .inr (.inr r8)), (0, .inr (.inr (some this))), (1, .inl x1), (2, .inl x2), (3, .inr (.inr x3)), (4, .inl x4)] dX9_isWithoutPair_36 (Nat.le_of_ble_eq_true rfl) rfl ?_
    refine vv_aload_n (mi := mX9_isWithoutPair) (pc := 38) 4 dX9_isWithoutPair_38 rfl rfl ?_
    refine vv_ifnull (mi := mX9_isWithoutPair) (pc := 39) 81 dX9_isWithoutPair_39 rfl (fun c10 => ?_) (fun aq11 c10 => ?_)
    · replace h := h.1 c10
      refine vv_iinc (mi := mX9_isWithoutPair) (pc := 81) (x4 + 1) 5 [(4, .inl (x4 + 1)), (5, .inr (.inr r8)), (0, .inr (.inr (some this))), (1, .inl x1), (2, .inl x2), (3, .inr (.inr x3))] dX9_isWithoutPair_81 rfl rfl (Nat.le_of_ble_eq_true rfl) rfl ?_
      refine vv_goto (mi := mX9_isWithoutPair) (pc := 84) 21 dX9_isWithoutPair_84 rfl ?_
      refine vv_sub (mi := mX9_isWithoutPair) [(0, .inr (.inr (some this))), (1, .inl x1), (2, .inl x2), (3, .inr (.inr x3)), (4, .inl (x4 + 1))] [2, 3, 4, 5, 0] rfl ?_
      exact hb21 _ _ _ _ _ _ h
    · replace h := h.2 aq11 c10
      refine vv_aload (mi := mX9_isWithoutPair) (pc := 42) 0 dX9_isWithoutPair_42 rfl ?_
      refine vv_ifnull (mi := mX9_isWithoutPair) (pc := 44) 81 dX9_isWithoutPair_44 rfl (fun c12 => ?_) (fun aq13 c12 => ?_)
      · replace h := h.1 c12
        refine vv_iinc (mi := mX9_isWithoutPair) (pc := 81) (x4 + 1) 5 [(4, .inl (x4 + 1)), (5, .inr (.inr r8)), (0, .inr (.inr (some this))), (1, .inl x1), (2, .inl x2), (3, .inr (.inr x3))] dX9_isWithoutPair_81 rfl rfl (Nat.le_of_ble_eq_true rfl) rfl ?_
        refine vv_goto (mi := mX9_isWithoutPair) (pc := 84) 21 dX9_isWithoutPair_84 rfl ?_
        refine vv_sub (mi := mX9_isWithoutPair) [(0, .inr (.inr (some this))), (1, .inl x1), (2, .inl x2), (3, .inr (.inr x3)), (4, .inl (x4 + 1))] [2, 3, 4, 5, 0] rfl ?_
        exact hb21 _ _ _ _ _ _ h
      · replace h := h.2 aq13 c12
        refine vv_iload_n (mi := mX9_isWithoutPair) (pc := 47) 2 dX9_isWithoutPair_47 rfl rfl ?_
        refine vv_iload_n (mi := mX9_isWithoutPair) (pc := 48) 3 dX9_isWithoutPair_48 rfl rfl ?_
        refine vv_ishr (mi := mX9_isWithoutPair) (pc := 49) dX9_isWithoutPair_49 ?_
        refine vv_iconst (mi := mX9_isWithoutPair) (pc := 50) 1 dX9_isWithoutPair_50 rfl ?_
        refine vv_iand (mi := mX9_isWithoutPair) (pc := 51) dX9_isWithoutPair_51 ?_
        refine vv_if_eq (mi := mX9_isWithoutPair) (pc := 52) 81 dX9_isWithoutPair_52 rfl (fun c14 => ?_) (fun c14 => ?_)
        · replace h := h.1 c14
          refine vv_iinc (mi := mX9_isWithoutPair) (pc := 81) (x4 + 1) 5 [(4, .inl (x4 + 1)), (5, .inr (.inr r8)), (0, .inr (.inr (some this))), (1, .inl x1), (2, .inl x2), (3, .inr (.inr x3))] dX9_isWithoutPair_81 rfl rfl (Nat.le_of_ble_eq_true rfl) rfl ?_
          refine vv_goto (mi := mX9_isWithoutPair) (pc := 84) 21 dX9_isWithoutPair_84 rfl ?_
          refine vv_sub (mi := mX9_isWithoutPair) [(0, .inr (.inr (some this))), (1, .inl x1), (2, .inl x2), (3, .inr (.inr x3)), (4, .inl (x4 + 1))] [2, 3, 4, 5, 0] rfl ?_
          exact hb21 _ _ _ _ _ _ h
        · replace h := h.2 c14
          refine vv_iload_n (mi := mX9_isWithoutPair) (pc := 55) 2 dX9_isWithoutPair_55 rfl rfl ?_
          refine vv_iload (mi := mX9_isWithoutPair) (pc := 56) 5 dX9_isWithoutPair_56 rfl ?_
          refine vv_ishr (mi := mX9_isWithoutPair) (pc := 58) dX9_isWithoutPair_58 ?_
          refine vv_iconst (mi := mX9_isWithoutPair) (pc := 59) 1 dX9_isWithoutPair_59 rfl ?_
          refine vv_iand (mi := mX9_isWithoutPair) (pc := 60) dX9_isWithoutPair_60 ?_
          refine vv_if_eq (mi := mX9_isWithoutPair) (pc := 61) 81 dX9_isWithoutPair_61 rfl (fun c15 => ?_) (fun c15 => ?_)
          · replace h := h.1 c15
            refine vv_iinc (mi := mX9_isWithoutPair) (pc := 81) (x4 + 1) 5 [(4, .inl (x4 + 1)), (5, .inr (.inr r8)), (0, .inr (.inr (some this))), (1, .inl x1), (2, .inl x2), (3, .inr (.inr x3))] dX9_isWithoutPair_81 rfl rfl (Nat.le_of_ble_eq_true rfl) rfl ?_
            refine vv_goto (mi := mX9_isWithoutPair) (pc := 84) 21 dX9_isWithoutPair_84 rfl ?_
            refine vv_sub (mi := mX9_isWithoutPair) [(0, .inr (.inr (some this))), (1, .inl x1), (2, .inl x2), (3, .inr (.inr x3)), (4, .inl (x4 + 1))] [2, 3, 4, 5, 0] rfl ?_
            exact hb21 _ _ _ _ _ _ h
          · replace h := h.2 c15
            refine vv_aload_n (mi := mX9_isWithoutPair) (pc := 64) 4 dX9_isWithoutPair_64 rfl rfl ?_
            obtain ⟨ht16, h⟩ := h
            refine vv_getR (mi := mX9_isWithoutPair) (pc := 65) 5 0 c10 ht16 fl_X9_111 (Nat.le_of_ble_eq_true rfl) dX9_isWithoutPair_65 ?_
            refine vv_aload (mi := mX9_isWithoutPair) (pc := 68) 0 dX9_isWithoutPair_68 rfl ?_
            obtain ⟨ht17, h⟩ := h
            refine vv_getR (mi := mX9_isWithoutPair) (pc := 70) 5 0 c12 ht17 fl_X9_111 (Nat.le_of_ble_eq_true rfl) dX9_isWithoutPair_70 ?_
            obtain ⟨aq18, hs19, h⟩ := h
            obtain ⟨ht20, h⟩ := h
            refine vv_callV (mi := mX9_isWithoutPair) (pc := 73) (rest := []) (As := [.inr (.inr (ddR M9 aq13 0))]) (ctX2_clashesWith (X := X) h) dX9_isWithoutPair_73 hs19 ht20 (Nat.le_of_ble_eq_true rfl) rfl mb_X2_clashesWith rfl ml_X9_137 im_X2_clashesWith se_X2_clashesWith ⟨(Nat.le_of_ble_eq_true rfl), (Nat.le_of_ble_eq_true rfl)⟩ ⟨(Nat.le_of_ble_eq_true rfl), (Nat.le_of_ble_eq_true rfl)⟩ (Nat.le_of_ble_eq_true rfl) rfl (kI_ (F := fun st M' => VV X mX9_isWithoutPair rX9_isWithoutPair (pI_ post) 76 [(5, .inr (.inr r8)), (0, .inr (.inr (some this))), (1, .inl x1), (2, .inl x2), (3, .inr (.inr x3)), (4, .inl x4)] st M' 0 0) (fun r21 M22 h => ?_))
            refine vv_if_eq (mi := mX9_isWithoutPair) (pc := 76) 81 dX9_isWithoutPair_76 rfl (fun c23 => ?_) (fun c23 => ?_)
            · replace h := h.1 c23
              refine vv_iinc (mi := mX9_isWithoutPair) (pc := 81) (x4 + 1) 5 [(4, .inl (x4 + 1)), (5, .inr (.inr r8)), (0, .inr (.inr (some this))), (1, .inl x1), (2, .inl x2), (3, .inr (.inr x3))] dX9_isWithoutPair_81 rfl rfl (Nat.le_of_ble_eq_true rfl) rfl ?_
              refine vv_goto (mi := mX9_isWithoutPair) (pc := 84) 21 dX9_isWithoutPair_84 rfl ?_
              refine vv_sub (mi := mX9_isWithoutPair) [(0, .inr (.inr (some this))), (1, .inl x1), (2, .inl x2), (3, .inr (.inr x3)), (4, .inl (x4 + 1))] [2, 3, 4, 5, 0] rfl ?_
              exact hb21 _ _ _ _ _ _ h
            · replace h := h.2 c23
              refine vv_iconst (mi := mX9_isWithoutPair) (pc := 79) 0 dX9_isWithoutPair_79 rfl ?_
              exact vv_zret (mi := mX9_isWithoutPair) (pc := 80) dX9_isWithoutPair_80 rfl (Or.inl rfl) (Nat.le_of_ble_eq_true rfl) (Nat.le_of_ble_eq_true rfl) h
theorem loX9_isWithoutPair_21 {X : Cx_} {kb2 : Nat → Int32 → Int32 → Mm → Prop} {post : Int32 → Mm → Prop} (hb2 : ∀ (this : Nat) (x1 : Int32) (x2 : Int32) (M : Mm), kb2 this x1 x2 M → VV X mX9_isWithoutPair rX9_isWithoutPair (pI_ post) 2 [(0, .inr (.inr (some this))), (1, .inl x1), (2, .inl x2)] [] M 0 0) : ∀ (fu : Nat) {this : Nat} {x1 : Int32} {x2 : Int32} {x3 : Option Nat} {x4 : Int32} {M : Mm}, DX9_isWithoutPair_21 kb2 post fu this x1 x2 x3 x4 M → VV X mX9_isWithoutPair rX9_isWithoutPair (pI_ post) 21 [(0, .inr (.inr (some this))), (1, .inl x1), (2, .inl x2), (3, .inr (.inr x3)), (4, .inl x4)] [] M 0 0
  | 0, _, _, _, _, _, _, h => False.elim h
  | fu + 1, _, _, _, _, _, _, h => bX9_isWithoutPair_21 hb2 (fun this x1 x2 x3 x4 M h => loX9_isWithoutPair_21 hb2 fu h) h
set_option maxHeartbeats 4000000 in
set_option maxRecDepth 100000 in
theorem bX9_isWithoutPair_2 {X : Cx_} {kb2 : Nat → Int32 → Int32 → Mm → Prop} {post : Int32 → Mm → Prop} (hb2 : ∀ (this : Nat) (x1 : Int32) (x2 : Int32) (M : Mm), kb2 this x1 x2 M → VV X mX9_isWithoutPair rX9_isWithoutPair (pI_ post) 2 [(0, .inr (.inr (some this))), (1, .inl x1), (2, .inl x2)] [] M 0 0) {this : Nat} {x1 : Int32} {x2 : Int32} {M : Mm} (h : BX9_isWithoutPair_2 kb2 post this x1 x2 M) : VV X mX9_isWithoutPair rX9_isWithoutPair (pI_ post) 2 [(0, .inr (.inr (some this))), (1, .inl x1), (2, .inl x2)] [] M 0 0 := by
  unfold BX9_isWithoutPair_2 at h
  refine vv_iload_n (mi := mX9_isWithoutPair) (pc := 2) 2 dX9_isWithoutPair_2 rfl rfl ?_
  refine vv_aload_n (mi := mX9_isWithoutPair) (pc := 3) 0 dX9_isWithoutPair_3 rfl rfl ?_
  obtain ⟨ht1, h⟩ := h
  refine vv_getI (mi := mX9_isWithoutPair) (pc := 4) 9 3 rfl ht1 fl_X9_38 (Nat.le_of_ble_eq_true rfl) dX9_isWithoutPair_4 ?_
  refine vv_icmp_ge (mi := mX9_isWithoutPair) (pc := 7) 93 dX9_isWithoutPair_7 rfl (fun c2 => ?_) (fun c2 => ?_)
  · replace h := h.1 c2
    refine vv_iconst (mi := mX9_isWithoutPair) (pc := 93) 1 dX9_isWithoutPair_93 rfl ?_
    exact vv_zret (mi := mX9_isWithoutPair) (pc := 94) dX9_isWithoutPair_94 rfl (Or.inr rfl) (Nat.le_of_ble_eq_true rfl) (Nat.le_of_ble_eq_true rfl) h
  · replace h := h.2 c2
    refine vv_aload_n (mi := mX9_isWithoutPair) (pc := 10) 0 dX9_isWithoutPair_10 rfl rfl ?_
    refine vv_iload_n (mi := mX9_isWithoutPair) (pc := 11) 2 dX9_isWithoutPair_11 rfl rfl ?_
    refine vv_callV (mi := mX9_isWithoutPair) (pc := 12) (rest := []) (As := [.inl x2]) (ctX9_optionAt (X := X) h) dX9_isWithoutPair_12 rfl ht1 (Nat.le_of_ble_eq_true rfl) rfl mb_X9_optionAt rfl ml_X9_107 im_X9_optionAt se_X9_optionAt ⟨(Nat.le_of_ble_eq_true rfl), (Nat.le_of_ble_eq_true rfl)⟩ ⟨(Nat.le_of_ble_eq_true rfl), (Nat.le_of_ble_eq_true rfl)⟩ (Nat.le_of_ble_eq_true rfl) rfl (kR_ (F := fun st M' => VV X mX9_isWithoutPair rX9_isWithoutPair (pI_ post) 15 [(0, .inr (.inr (some this))), (1, .inl x1), (2, .inl x2)] st M' 0 0) (fun r3 M4 h => ?_))
    refine vv_astore_n (mi := mX9_isWithoutPair) (pc := 15) [(3, .inr (.inr r3)), (0, .inr (.inr (some this))), (1, .inl x1), (2, .inl x2)] dX9_isWithoutPair_15 rfl (Nat.le_of_ble_eq_true rfl) rfl ?_
    refine vv_iload_n (mi := mX9_isWithoutPair) (pc := 16) 3 dX9_isWithoutPair_16 rfl rfl ?_
    refine vv_iconst (mi := mX9_isWithoutPair) (pc := 17) 1 dX9_isWithoutPair_17 rfl ?_
    refine vv_iadd (mi := mX9_isWithoutPair) (pc := 18) dX9_isWithoutPair_18 ?_
    obtain ⟨v5, ev5⟩ : ∃ z : Int32, z = (x2 + 1) := ⟨_, rfl⟩
    refine vv_namI ev5 ?_
    replace h := h _ ev5
    refine vv_istore (mi := mX9_isWithoutPair) (pc := 19) [(4, .inl v5), (3, .inr (.inr r3)), (0, .inr (.inr (some this))), (1, .inl x1), (2, .inl x2)] dX9_isWithoutPair_19 (Nat.le_of_ble_eq_true rfl) rfl ?_
    refine vv_sub (mi := mX9_isWithoutPair) [(0, .inr (.inr (some this))), (1, .inl x1), (2, .inl x2), (3, .inr (.inr r3)), (4, .inl v5)] [2, 3, 4, 1, 0] rfl ?_
    obtain ⟨fu, h⟩ := h
    exact loX9_isWithoutPair_21 (X := X) hb2 fu h
theorem loX9_isWithoutPair_2 {X : Cx_}  {post : Int32 → Mm → Prop}  : ∀ (fu : Nat) {this : Nat} {x1 : Int32} {x2 : Int32} {M : Mm}, DX9_isWithoutPair_2  post fu this x1 x2 M → VV X mX9_isWithoutPair rX9_isWithoutPair (pI_ post) 2 [(0, .inr (.inr (some this))), (1, .inl x1), (2, .inl x2)] [] M 0 0
  | 0, _, _, _, _, h => False.elim h
  | fu + 1, _, _, _, _, h => bX9_isWithoutPair_2 (fun this x1 x2 M h => loX9_isWithoutPair_2  fu h) h
set_option maxHeartbeats 4000000 in
set_option maxRecDepth 100000 in
theorem ctX9_isWithoutPair {X : Cx_} {this : Nat} {a1 : Int32} {M : Mm} {post : Int32 → Mm → Prop} (h : PX9_isWithoutPair this a1 M post) : CT X mX9_isWithoutPair rX9_isWithoutPair [.inr (.inr (some this)), .inl a1] M (pI_ post) := by
  unfold PX9_isWithoutPair at h
  refine CT.of (by decide +kernel) (Nat.le_of_ble_eq_true rfl) ?_
  show VV X mX9_isWithoutPair rX9_isWithoutPair (pI_ post) 0 [(0, .inr (.inr (some this))), (1, .inl a1)] [] M 0 0
  refine vv_iconst (mi := mX9_isWithoutPair) (pc := 0) 0 dX9_isWithoutPair_0 rfl ?_
  refine vv_istore_n (mi := mX9_isWithoutPair) (pc := 1) [(2, .inl 0), (0, .inr (.inr (some this))), (1, .inl a1)] dX9_isWithoutPair_1 rfl (Nat.le_of_ble_eq_true rfl) rfl ?_
  refine vv_sub (mi := mX9_isWithoutPair) [(0, .inr (.inr (some this))), (1, .inl a1), (2, .inl 0)] [1, 2, 0] rfl ?_
  obtain ⟨fu, h⟩ := h
  exact loX9_isWithoutPair_2 (X := X)  fu h
set_option maxHeartbeats 4000000 in
set_option maxRecDepth 100000 in
theorem bX9_cheapestRelief_100 {X : Cx_} {kb58 : Nat → Int32 → Int32 → Int32 → Int32 → Mm → Prop} {post : Int32 → Mm → Prop} (hb58 : ∀ (this : Nat) (x5 : Int32) (x6 : Int32) (x7 : Int32) (x8 : Int32) (M : Mm), kb58 this x5 x6 x7 x8 M → VV X mX9_cheapestRelief rX9_cheapestRelief (pI_ post) 58 [(0, .inr (.inr (some this))), (5, .inl x5), (6, .inl x6), (7, .inl x7), (8, .inl x8)] [] M 0 0) {this : Nat} {x5 : Int32} {x6 : Int32} {x7 : Int32} {x8 : Int32} {x9 : Int32} {M : Mm} (h : BX9_cheapestRelief_100 kb58 post this x5 x6 x7 x8 x9 M) : VV X mX9_cheapestRelief rX9_cheapestRelief (pI_ post) 100 [(0, .inr (.inr (some this))), (5, .inl x5), (6, .inl x6), (7, .inl x7), (8, .inl x8), (9, .inl x9)] [] M 0 0 := by
  unfold BX9_cheapestRelief_100 at h
  refine vv_aload_n (mi := mX9_cheapestRelief) (pc := 100) 0 dX9_cheapestRelief_100 rfl rfl ?_
  obtain ⟨ht23, h⟩ := h
  refine vv_getR (mi := mX9_cheapestRelief) (pc := 101) 9 0 rfl ht23 fl_X9_9 (Nat.le_of_ble_eq_true rfl) dX9_cheapestRelief_101 ?_
  refine vv_iload (mi := mX9_cheapestRelief) (pc := 104) 4 dX9_cheapestRelief_104 rfl ?_
  refine vv_callS (mi := mX9_cheapestRelief) (pc := 106) (rest := [.inr (.inr (ddR M this 0))]) (As := [.inl x8]) (ctJ6_bitCount_0f7a4 (X := X) h) dX9_cheapestRelief_106 mb_J6_bitCount_0f7a4 rfl ml_X9_82 sc_J6_bitCount_0f7a4 ⟨(Nat.le_of_ble_eq_true rfl), (Nat.le_of_ble_eq_true rfl)⟩ ⟨(Nat.le_of_ble_eq_true rfl), (Nat.le_of_ble_eq_true rfl)⟩ (Nat.le_of_ble_eq_true rfl) rfl (kI_ (F := fun st M' => VV X mX9_cheapestRelief rX9_cheapestRelief (pI_ post) 109 [(0, .inr (.inr (some this))), (5, .inl x5), (6, .inl x6), (7, .inl x7), (8, .inl x8), (9, .inl x9)] st M' 0 0) (fun r24 M25 h => ?_))
  obtain ⟨aq26, hs27, h⟩ := h
  obtain ⟨ht28, h⟩ := h
  refine vv_callV (mi := mX9_cheapestRelief) (pc := 109) (rest := []) (As := [.inl r24]) (ctX6_hasRoomFor (X := X) h) dX9_cheapestRelief_109 hs27 ht28 (Nat.le_of_ble_eq_true rfl) rfl mb_X6_hasRoomFor rfl ml_X9_87 im_X6_hasRoomFor se_X6_hasRoomFor ⟨(Nat.le_of_ble_eq_true rfl), (Nat.le_of_ble_eq_true rfl)⟩ ⟨(Nat.le_of_ble_eq_true rfl), (Nat.le_of_ble_eq_true rfl)⟩ (Nat.le_of_ble_eq_true rfl) rfl (kI_ (F := fun st M' => VV X mX9_cheapestRelief rX9_cheapestRelief (pI_ post) 112 [(0, .inr (.inr (some this))), (5, .inl x5), (6, .inl x6), (7, .inl x7), (8, .inl x8), (9, .inl x9)] st M' 0 0) (fun r29 M30 h => ?_))
  refine vv_if_eq (mi := mX9_cheapestRelief) (pc := 112) 141 dX9_cheapestRelief_112 rfl (fun c31 => ?_) (fun c31 => ?_)
  · replace h := h.1 c31
    refine vv_iinc (mi := mX9_cheapestRelief) (pc := 141) (x8 + 1) 4 [(8, .inl (x8 + 1)), (0, .inr (.inr (some this))), (5, .inl x5), (6, .inl x6), (7, .inl x7), (9, .inl x9)] dX9_cheapestRelief_141 rfl rfl (Nat.le_of_ble_eq_true rfl) rfl ?_
    refine vv_goto (mi := mX9_cheapestRelief) (pc := 144) 58 dX9_cheapestRelief_144 rfl ?_
    refine vv_sub (mi := mX9_cheapestRelief) [(0, .inr (.inr (some this))), (5, .inl x5), (6, .inl x6), (7, .inl x7), (8, .inl (x8 + 1))] [1, 2, 3, 4, 0] rfl ?_
    exact hb58 _ _ _ _ _ _ h
  · replace h := h.2 c31
    refine vv_aload_n (mi := mX9_cheapestRelief) (pc := 115) 0 dX9_cheapestRelief_115 rfl rfl ?_
    refine vv_iload (mi := mX9_cheapestRelief) (pc := 116) 4 dX9_cheapestRelief_116 rfl ?_
    obtain ⟨ht32, h⟩ := h
    refine vv_callV (mi := mX9_cheapestRelief) (pc := 118) (rest := []) (As := [.inl x8]) (ctX9_coversLacks (X := X) h) dX9_cheapestRelief_118 rfl ht32 (Nat.le_of_ble_eq_true rfl) rfl mb_X9_coversLacks rfl ml_X9_91 im_X9_coversLacks se_X9_coversLacks ⟨(Nat.le_of_ble_eq_true rfl), (Nat.le_of_ble_eq_true rfl)⟩ ⟨(Nat.le_of_ble_eq_true rfl), (Nat.le_of_ble_eq_true rfl)⟩ (Nat.le_of_ble_eq_true rfl) rfl (kI_ (F := fun st M' => VV X mX9_cheapestRelief rX9_cheapestRelief (pI_ post) 121 [(0, .inr (.inr (some this))), (5, .inl x5), (6, .inl x6), (7, .inl x7), (8, .inl x8), (9, .inl x9)] st M' 0 0) (fun r33 M34 h => ?_))
    refine vv_if_eq (mi := mX9_cheapestRelief) (pc := 121) 141 dX9_cheapestRelief_121 rfl (fun c35 => ?_) (fun c35 => ?_)
    · replace h := h.1 c35
      refine vv_iinc (mi := mX9_cheapestRelief) (pc := 141) (x8 + 1) 4 [(8, .inl (x8 + 1)), (0, .inr (.inr (some this))), (5, .inl x5), (6, .inl x6), (7, .inl x7), (9, .inl x9)] dX9_cheapestRelief_141 rfl rfl (Nat.le_of_ble_eq_true rfl) rfl ?_
      refine vv_goto (mi := mX9_cheapestRelief) (pc := 144) 58 dX9_cheapestRelief_144 rfl ?_
      refine vv_sub (mi := mX9_cheapestRelief) [(0, .inr (.inr (some this))), (5, .inl x5), (6, .inl x6), (7, .inl x7), (8, .inl (x8 + 1))] [1, 2, 3, 4, 0] rfl ?_
      exact hb58 _ _ _ _ _ _ h
    · replace h := h.2 c35
      refine vv_aload_n (mi := mX9_cheapestRelief) (pc := 124) 0 dX9_cheapestRelief_124 rfl rfl ?_
      refine vv_iload (mi := mX9_cheapestRelief) (pc := 125) 4 dX9_cheapestRelief_125 rfl ?_
      obtain ⟨ht36, h⟩ := h
      refine vv_callV (mi := mX9_cheapestRelief) (pc := 127) (rest := []) (As := [.inl x8]) (ctX9_isWithoutPair (X := X) h) dX9_cheapestRelief_127 rfl ht36 (Nat.le_of_ble_eq_true rfl) rfl mb_X9_isWithoutPair rfl ml_X9_94 im_X9_isWithoutPair se_X9_isWithoutPair ⟨(Nat.le_of_ble_eq_true rfl), (Nat.le_of_ble_eq_true rfl)⟩ ⟨(Nat.le_of_ble_eq_true rfl), (Nat.le_of_ble_eq_true rfl)⟩ (Nat.le_of_ble_eq_true rfl) rfl (kI_ (F := fun st M' => VV X mX9_cheapestRelief rX9_cheapestRelief (pI_ post) 130 [(0, .inr (.inr (some this))), (5, .inl x5), (6, .inl x6), (7, .inl x7), (8, .inl x8), (9, .inl x9)] st M' 0 0) (fun r37 M38 h => ?_))
      refine vv_if_eq (mi := mX9_cheapestRelief) (pc := 130) 141 dX9_cheapestRelief_130 rfl (fun c39 => ?_) (fun c39 => ?_)
      · replace h := h.1 c39
        refine vv_iinc (mi := mX9_cheapestRelief) (pc := 141) (x8 + 1) 4 [(8, .inl (x8 + 1)), (0, .inr (.inr (some this))), (5, .inl x5), (6, .inl x6), (7, .inl x7), (9, .inl x9)] dX9_cheapestRelief_141 rfl rfl (Nat.le_of_ble_eq_true rfl) rfl ?_
        refine vv_goto (mi := mX9_cheapestRelief) (pc := 144) 58 dX9_cheapestRelief_144 rfl ?_
        refine vv_sub (mi := mX9_cheapestRelief) [(0, .inr (.inr (some this))), (5, .inl x5), (6, .inl x6), (7, .inl x7), (8, .inl (x8 + 1))] [1, 2, 3, 4, 0] rfl ?_
        exact hb58 _ _ _ _ _ _ h
      · replace h := h.2 c39
        refine vv_iload (mi := mX9_cheapestRelief) (pc := 133) 4 dX9_cheapestRelief_133 rfl ?_
        refine vv_istore (mi := mX9_cheapestRelief) (pc := 135) [(6, .inl x8), (0, .inr (.inr (some this))), (5, .inl x5), (7, .inl x7), (8, .inl x8), (9, .inl x9)] dX9_cheapestRelief_135 (Nat.le_of_ble_eq_true rfl) rfl ?_
        refine vv_iload (mi := mX9_cheapestRelief) (pc := 137) 5 dX9_cheapestRelief_137 rfl ?_
        refine vv_istore (mi := mX9_cheapestRelief) (pc := 139) [(7, .inl x9), (6, .inl x8), (0, .inr (.inr (some this))), (5, .inl x5), (8, .inl x8), (9, .inl x9)] dX9_cheapestRelief_139 (Nat.le_of_ble_eq_true rfl) rfl ?_
        refine vv_iinc (mi := mX9_cheapestRelief) (pc := 141) (x8 + 1) 4 [(8, .inl (x8 + 1)), (7, .inl x9), (6, .inl x8), (0, .inr (.inr (some this))), (5, .inl x5), (9, .inl x9)] dX9_cheapestRelief_141 rfl rfl (Nat.le_of_ble_eq_true rfl) rfl ?_
        refine vv_goto (mi := mX9_cheapestRelief) (pc := 144) 58 dX9_cheapestRelief_144 rfl ?_
        refine vv_sub (mi := mX9_cheapestRelief) [(0, .inr (.inr (some this))), (5, .inl x5), (6, .inl x8), (7, .inl x9), (8, .inl (x8 + 1))] [3, 4, 2, 1, 0] rfl ?_
        exact hb58 _ _ _ _ _ _ h
set_option maxHeartbeats 4000000 in
set_option maxRecDepth 100000 in
theorem bX9_cheapestRelief_58 {X : Cx_} {kb58 : Nat → Int32 → Int32 → Int32 → Int32 → Mm → Prop} {post : Int32 → Mm → Prop} (hb58 : ∀ (this : Nat) (x5 : Int32) (x6 : Int32) (x7 : Int32) (x8 : Int32) (M : Mm), kb58 this x5 x6 x7 x8 M → VV X mX9_cheapestRelief rX9_cheapestRelief (pI_ post) 58 [(0, .inr (.inr (some this))), (5, .inl x5), (6, .inl x6), (7, .inl x7), (8, .inl x8)] [] M 0 0) {this : Nat} {x5 : Int32} {x6 : Int32} {x7 : Int32} {x8 : Int32} {M : Mm} (h : BX9_cheapestRelief_58 kb58 post this x5 x6 x7 x8 M) : VV X mX9_cheapestRelief rX9_cheapestRelief (pI_ post) 58 [(0, .inr (.inr (some this))), (5, .inl x5), (6, .inl x6), (7, .inl x7), (8, .inl x8)] [] M 0 0 := by
  unfold BX9_cheapestRelief_58 at h
  refine vv_iload (mi := mX9_cheapestRelief) (pc := 58) 4 dX9_cheapestRelief_58 rfl ?_
  refine vv_iconst (mi := mX9_cheapestRelief) (pc := 60) 1 dX9_cheapestRelief_60 rfl ?_
  refine vv_aload_n (mi := mX9_cheapestRelief) (pc := 61) 0 dX9_cheapestRelief_61 rfl rfl ?_
  obtain ⟨ht16, h⟩ := h
  refine vv_getI (mi := mX9_cheapestRelief) (pc := 62) 9 3 rfl ht16 fl_X9_38 (Nat.le_of_ble_eq_true rfl) dX9_cheapestRelief_62 ?_
  refine vv_ishl (mi := mX9_cheapestRelief) (pc := 65) dX9_cheapestRelief_65 ?_
  refine vv_icmp_ge (mi := mX9_cheapestRelief) (pc := 66) 147 dX9_cheapestRelief_66 rfl (fun c17 => ?_) (fun c17 => ?_)
  · replace h := h.1 c17
    refine vv_iload (mi := mX9_cheapestRelief) (pc := 147) 2 dX9_cheapestRelief_147 rfl ?_
    exact vv_iret (mi := mX9_cheapestRelief) (pc := 149) dX9_cheapestRelief_149 rfl (Nat.le_of_ble_eq_true rfl) (Nat.le_of_ble_eq_true rfl) h
  · replace h := h.2 c17
    refine vv_iload (mi := mX9_cheapestRelief) (pc := 69) 4 dX9_cheapestRelief_69 rfl ?_
    refine vv_iload (mi := mX9_cheapestRelief) (pc := 71) 1 dX9_cheapestRelief_71 rfl ?_
    refine vv_iconst (mi := mX9_cheapestRelief) (pc := 73) (-1) dX9_cheapestRelief_73 rfl ?_
    refine vv_ixor (mi := mX9_cheapestRelief) (pc := 74) dX9_cheapestRelief_74 ?_
    refine vv_iand (mi := mX9_cheapestRelief) (pc := 75) dX9_cheapestRelief_75 ?_
    refine vv_if_ne (mi := mX9_cheapestRelief) (pc := 76) 141 dX9_cheapestRelief_76 rfl (fun c18 => ?_) (fun c18 => ?_)
    · replace h := h.1 c18
      refine vv_iinc (mi := mX9_cheapestRelief) (pc := 141) (x8 + 1) 4 [(8, .inl (x8 + 1)), (0, .inr (.inr (some this))), (5, .inl x5), (6, .inl x6), (7, .inl x7)] dX9_cheapestRelief_141 rfl rfl (Nat.le_of_ble_eq_true rfl) rfl ?_
      refine vv_goto (mi := mX9_cheapestRelief) (pc := 144) 58 dX9_cheapestRelief_144 rfl ?_
      refine vv_sub (mi := mX9_cheapestRelief) [(0, .inr (.inr (some this))), (5, .inl x5), (6, .inl x6), (7, .inl x7), (8, .inl (x8 + 1))] [1, 2, 3, 4, 0] rfl ?_
      exact hb58 _ _ _ _ _ _ h
    · replace h := h.2 c18
      refine vv_aload_n (mi := mX9_cheapestRelief) (pc := 79) 0 dX9_cheapestRelief_79 rfl rfl ?_
      refine vv_iload (mi := mX9_cheapestRelief) (pc := 80) 4 dX9_cheapestRelief_80 rfl ?_
      refine vv_callV (mi := mX9_cheapestRelief) (pc := 82) (rest := []) (As := [.inl x8]) (ctX9_costOf (X := X) h) dX9_cheapestRelief_82 rfl ht16 (Nat.le_of_ble_eq_true rfl) rfl mb_X9_costOf rfl ml_X9_78 im_X9_costOf se_X9_costOf ⟨(Nat.le_of_ble_eq_true rfl), (Nat.le_of_ble_eq_true rfl)⟩ ⟨(Nat.le_of_ble_eq_true rfl), (Nat.le_of_ble_eq_true rfl)⟩ (Nat.le_of_ble_eq_true rfl) rfl (kI_ (F := fun st M' => VV X mX9_cheapestRelief rX9_cheapestRelief (pI_ post) 85 [(0, .inr (.inr (some this))), (5, .inl x5), (6, .inl x6), (7, .inl x7), (8, .inl x8)] st M' 0 0) (fun r19 M20 h => ?_))
      refine vv_istore (mi := mX9_cheapestRelief) (pc := 85) [(9, .inl r19), (0, .inr (.inr (some this))), (5, .inl x5), (6, .inl x6), (7, .inl x7), (8, .inl x8)] dX9_cheapestRelief_85 (Nat.le_of_ble_eq_true rfl) rfl ?_
      refine vv_iload (mi := mX9_cheapestRelief) (pc := 87) 3 dX9_cheapestRelief_87 rfl ?_
      refine vv_iconst (mi := mX9_cheapestRelief) (pc := 89) (-1) dX9_cheapestRelief_89 rfl ?_
      refine vv_icmp_eq (mi := mX9_cheapestRelief) (pc := 90) 100 dX9_cheapestRelief_90 rfl (fun c21 => ?_) (fun c21 => ?_)
      · replace h := h.1 c21
        refine vv_sub (mi := mX9_cheapestRelief) [(0, .inr (.inr (some this))), (5, .inl x5), (6, .inl x6), (7, .inl x7), (8, .inl x8), (9, .inl r19)] [1, 2, 3, 4, 5, 0] rfl ?_
        exact bX9_cheapestRelief_100 (X := X) hb58 h
      · replace h := h.2 c21
        refine vv_iload (mi := mX9_cheapestRelief) (pc := 93) 0 dX9_cheapestRelief_93 rfl ?_
        refine vv_iload (mi := mX9_cheapestRelief) (pc := 95) 4 dX9_cheapestRelief_95 rfl ?_
        refine vv_icmp_ge (mi := mX9_cheapestRelief) (pc := 97) 141 dX9_cheapestRelief_97 rfl (fun c22 => ?_) (fun c22 => ?_)
        · replace h := h.1 c22
          refine vv_iinc (mi := mX9_cheapestRelief) (pc := 141) (x8 + 1) 5 [(8, .inl (x8 + 1)), (9, .inl r19), (0, .inr (.inr (some this))), (5, .inl x5), (6, .inl x6), (7, .inl x7)] dX9_cheapestRelief_141 rfl rfl (Nat.le_of_ble_eq_true rfl) rfl ?_
          refine vv_goto (mi := mX9_cheapestRelief) (pc := 144) 58 dX9_cheapestRelief_144 rfl ?_
          refine vv_sub (mi := mX9_cheapestRelief) [(0, .inr (.inr (some this))), (5, .inl x5), (6, .inl x6), (7, .inl x7), (8, .inl (x8 + 1))] [2, 3, 4, 5, 0] rfl ?_
          exact hb58 _ _ _ _ _ _ h
        · replace h := h.2 c22
          refine vv_sub (mi := mX9_cheapestRelief) [(0, .inr (.inr (some this))), (5, .inl x5), (6, .inl x6), (7, .inl x7), (8, .inl x8), (9, .inl r19)] [1, 2, 3, 4, 5, 0] rfl ?_
          exact bX9_cheapestRelief_100 (X := X) hb58 h
theorem loX9_cheapestRelief_58 {X : Cx_}  {post : Int32 → Mm → Prop}  : ∀ (fu : Nat) {this : Nat} {x5 : Int32} {x6 : Int32} {x7 : Int32} {x8 : Int32} {M : Mm}, DX9_cheapestRelief_58  post fu this x5 x6 x7 x8 M → VV X mX9_cheapestRelief rX9_cheapestRelief (pI_ post) 58 [(0, .inr (.inr (some this))), (5, .inl x5), (6, .inl x6), (7, .inl x7), (8, .inl x8)] [] M 0 0
  | 0, _, _, _, _, _, _, h => False.elim h
  | fu + 1, _, _, _, _, _, _, h => bX9_cheapestRelief_58 (fun this x5 x6 x7 x8 M h => loX9_cheapestRelief_58  fu h) h
set_option maxHeartbeats 4000000 in
set_option maxRecDepth 100000 in
theorem ctX9_cheapestRelief {X : Cx_} {this : Nat} {a1 : Option Nat} {a2 : Int32} {a3 : Int32} {M : Mm} {post : Int32 → Mm → Prop} (h : PX9_cheapestRelief this a1 a2 a3 M post) : CT X mX9_cheapestRelief rX9_cheapestRelief [.inr (.inr (some this)), .inr (.inr a1), .inl a2, .inl a3] M (pI_ post) := by
  unfold PX9_cheapestRelief at h
  refine CT.of (by decide +kernel) (Nat.le_of_ble_eq_true rfl) ?_
  show VV X mX9_cheapestRelief rX9_cheapestRelief (pI_ post) 0 [(0, .inr (.inr (some this))), (1, .inr (.inr a1)), (2, .inl a2), (3, .inl a3)] [] M 0 0
  refine vv_aload_n (mi := mX9_cheapestRelief) (pc := 0) 0 dX9_cheapestRelief_0 rfl rfl ?_
  refine vv_aload_n (mi := mX9_cheapestRelief) (pc := 1) 1 dX9_cheapestRelief_1 rfl rfl ?_
  refine vv_iload_n (mi := mX9_cheapestRelief) (pc := 2) 3 dX9_cheapestRelief_2 rfl rfl ?_
  refine vv_bipush (mi := mX9_cheapestRelief) (pc := 3) 7 dX9_cheapestRelief_3 rfl ?_
  refine vv_idiv (mi := mX9_cheapestRelief) (pc := 5) nzI_7 dX9_cheapestRelief_5 ?_
  obtain ⟨ht1, h⟩ := h
  refine vv_callV (mi := mX9_cheapestRelief) (pc := 6) (rest := []) (As := [.inr (.inr a1), .inl (a3 / 7)]) (ctX9_firstShort (X := X) h) dX9_cheapestRelief_6 rfl ht1 (Nat.le_of_ble_eq_true rfl) rfl mb_X9_firstShort rfl ml_X9_64 im_X9_firstShort se_X9_firstShort ⟨(Nat.le_of_ble_eq_true rfl), (Nat.le_of_ble_eq_true rfl)⟩ ⟨(Nat.le_of_ble_eq_true rfl), (Nat.le_of_ble_eq_true rfl)⟩ (Nat.le_of_ble_eq_true rfl) rfl (kI_ (F := fun st M' => VV X mX9_cheapestRelief rX9_cheapestRelief (pI_ post) 9 [(0, .inr (.inr (some this))), (1, .inr (.inr a1)), (2, .inl a2), (3, .inl a3)] st M' 0 0) (fun r2 M3 h => ?_))
  refine vv_istore (mi := mX9_cheapestRelief) (pc := 9) [(4, .inl r2), (0, .inr (.inr (some this))), (1, .inr (.inr a1)), (2, .inl a2), (3, .inl a3)] dX9_cheapestRelief_9 (Nat.le_of_ble_eq_true rfl) rfl ?_
  refine vv_iload (mi := mX9_cheapestRelief) (pc := 11) 0 dX9_cheapestRelief_11 rfl ?_
  refine vv_iconst (mi := mX9_cheapestRelief) (pc := 13) (-1) dX9_cheapestRelief_13 rfl ?_
  refine vv_icmp_ne (mi := mX9_cheapestRelief) (pc := 14) 19 dX9_cheapestRelief_14 rfl (fun c4 => ?_) (fun c4 => ?_)
  · replace h := h.1 c4
    refine vv_aload_n (mi := mX9_cheapestRelief) (pc := 19) 1 dX9_cheapestRelief_19 rfl rfl ?_
    refine vv_aload_n (mi := mX9_cheapestRelief) (pc := 20) 2 dX9_cheapestRelief_20 rfl rfl ?_
    refine vv_iload (mi := mX9_cheapestRelief) (pc := 21) 0 dX9_cheapestRelief_21 rfl ?_
    refine vv_sipush (mi := mX9_cheapestRelief) (pc := 23) 2000 dX9_cheapestRelief_23 rfl ?_
    refine vv_iload (mi := mX9_cheapestRelief) (pc := 26) 0 dX9_cheapestRelief_26 rfl ?_
    refine vv_iload_n (mi := mX9_cheapestRelief) (pc := 28) 3 dX9_cheapestRelief_28 rfl rfl ?_
    refine vv_iadd (mi := mX9_cheapestRelief) (pc := 29) dX9_cheapestRelief_29 ?_
    refine vv_iconst (mi := mX9_cheapestRelief) (pc := 30) 1 dX9_cheapestRelief_30 rfl ?_
    refine vv_isub (mi := mX9_cheapestRelief) (pc := 31) dX9_cheapestRelief_31 ?_
    refine vv_callS (mi := mX9_cheapestRelief) (pc := 32) (rest := [.inl r2, .inr (.inr a1), .inr (.inr (some this))]) (As := [.inl 2000, .inl ((r2 + a2) - 1)]) (ctJ9_min_7cf53 (X := X) h) dX9_cheapestRelief_32 mb_J9_min_7cf53 rfl ml_X9_68 sc_J9_min_7cf53 ⟨(Nat.le_of_ble_eq_true rfl), (Nat.le_of_ble_eq_true rfl)⟩ ⟨(Nat.le_of_ble_eq_true rfl), (Nat.le_of_ble_eq_true rfl)⟩ (Nat.le_of_ble_eq_true rfl) rfl (kI_ (F := fun st M' => VV X mX9_cheapestRelief rX9_cheapestRelief (pI_ post) 35 [(4, .inl r2), (0, .inr (.inr (some this))), (1, .inr (.inr a1)), (2, .inl a2), (3, .inl a3)] st M' 0 0) (fun r5 M6 h => ?_))
    obtain ⟨ht7, h⟩ := h
    refine vv_callV (mi := mX9_cheapestRelief) (pc := 35) (rest := []) (As := [.inr (.inr a1), .inl r2, .inl r5]) (ctX9_noteLacks (X := X) h) dX9_cheapestRelief_35 rfl ht7 (Nat.le_of_ble_eq_true rfl) rfl mb_X9_noteLacks rfl ml_X9_71 im_X9_noteLacks se_X9_noteLacks ⟨(Nat.le_of_ble_eq_true rfl), (Nat.le_of_ble_eq_true rfl)⟩ ⟨(Nat.le_of_ble_eq_true rfl), (Nat.le_of_ble_eq_true rfl)⟩ (Nat.le_of_ble_eq_true rfl) rfl (kV_ (F := fun st M' => VV X mX9_cheapestRelief rX9_cheapestRelief (pI_ post) 38 [(4, .inl r2), (0, .inr (.inr (some this))), (1, .inr (.inr a1)), (2, .inl a2), (3, .inl a3)] st M' 0 0) (fun M9 h => ?_))
    refine vv_aload_n (mi := mX9_cheapestRelief) (pc := 38) 1 dX9_cheapestRelief_38 rfl rfl ?_
    refine vv_aload_n (mi := mX9_cheapestRelief) (pc := 39) 2 dX9_cheapestRelief_39 rfl rfl ?_
    obtain ⟨aq10, hs11, h⟩ := h
    obtain ⟨ht12, h⟩ := h
    refine vv_getI (mi := mX9_cheapestRelief) (pc := 40) 1 0 hs11 ht12 fl_X9_42 (Nat.le_of_ble_eq_true rfl) dX9_cheapestRelief_40 ?_
    refine vv_iload_n (mi := mX9_cheapestRelief) (pc := 43) 4 dX9_cheapestRelief_43 rfl rfl ?_
    obtain ⟨ht13, h⟩ := h
    refine vv_callV (mi := mX9_cheapestRelief) (pc := 44) (rest := []) (As := [.inl (ddI M9 aq10 0), .inl a3]) (ctX9_usableFor (X := X) h) dX9_cheapestRelief_44 rfl ht13 (Nat.le_of_ble_eq_true rfl) rfl mb_X9_usableFor rfl ml_X9_75 im_X9_usableFor se_X9_usableFor ⟨(Nat.le_of_ble_eq_true rfl), (Nat.le_of_ble_eq_true rfl)⟩ ⟨(Nat.le_of_ble_eq_true rfl), (Nat.le_of_ble_eq_true rfl)⟩ (Nat.le_of_ble_eq_true rfl) rfl (kI_ (F := fun st M' => VV X mX9_cheapestRelief rX9_cheapestRelief (pI_ post) 47 [(4, .inl r2), (0, .inr (.inr (some this))), (1, .inr (.inr a1)), (2, .inl a2), (3, .inl a3)] st M' 0 0) (fun r14 M15 h => ?_))
    refine vv_istore (mi := mX9_cheapestRelief) (pc := 47) [(5, .inl r14), (4, .inl r2), (0, .inr (.inr (some this))), (1, .inr (.inr a1)), (2, .inl a2), (3, .inl a3)] dX9_cheapestRelief_47 (Nat.le_of_ble_eq_true rfl) rfl ?_
    refine vv_iconst (mi := mX9_cheapestRelief) (pc := 49) (-1) dX9_cheapestRelief_49 rfl ?_
    refine vv_istore (mi := mX9_cheapestRelief) (pc := 50) [(6, .inl (-1)), (5, .inl r14), (4, .inl r2), (0, .inr (.inr (some this))), (1, .inr (.inr a1)), (2, .inl a2), (3, .inl a3)] dX9_cheapestRelief_50 (Nat.le_of_ble_eq_true rfl) rfl ?_
    refine vv_iconst (mi := mX9_cheapestRelief) (pc := 52) 0 dX9_cheapestRelief_52 rfl ?_
    refine vv_istore (mi := mX9_cheapestRelief) (pc := 53) [(7, .inl 0), (6, .inl (-1)), (5, .inl r14), (4, .inl r2), (0, .inr (.inr (some this))), (1, .inr (.inr a1)), (2, .inl a2), (3, .inl a3)] dX9_cheapestRelief_53 (Nat.le_of_ble_eq_true rfl) rfl ?_
    refine vv_iconst (mi := mX9_cheapestRelief) (pc := 55) 1 dX9_cheapestRelief_55 rfl ?_
    refine vv_istore (mi := mX9_cheapestRelief) (pc := 56) [(8, .inl 1), (7, .inl 0), (6, .inl (-1)), (5, .inl r14), (4, .inl r2), (0, .inr (.inr (some this))), (1, .inr (.inr a1)), (2, .inl a2), (3, .inl a3)] dX9_cheapestRelief_56 (Nat.le_of_ble_eq_true rfl) rfl ?_
    refine vv_sub (mi := mX9_cheapestRelief) [(0, .inr (.inr (some this))), (5, .inl r14), (6, .inl (-1)), (7, .inl 0), (8, .inl 1)] [5, 3, 2, 1, 0] rfl ?_
    obtain ⟨fu, h⟩ := h
    exact loX9_cheapestRelief_58 (X := X)  fu h
  · replace h := h.2 c4
    refine vv_iconst (mi := mX9_cheapestRelief) (pc := 17) (-1) dX9_cheapestRelief_17 rfl ?_
    exact vv_iret (mi := mX9_cheapestRelief) (pc := 18) dX9_cheapestRelief_18 rfl (Nat.le_of_ble_eq_true rfl) (Nat.le_of_ble_eq_true rfl) h
set_option maxHeartbeats 4000000 in
set_option maxRecDepth 100000 in
theorem ctX10_init {X : Cx_} {this : Nat} {M : Mm} {post : Mm → Prop} (h : PX10_init this M post) : CT X mX10_init rX10_init [.inr (.inr (some this))] M (pV_ post) := by
  unfold PX10_init at h
  refine CT.of (by decide +kernel) (Nat.le_of_ble_eq_true rfl) ?_
  show VV X mX10_init rX10_init (pV_ post) 0 [(0, .inr (.inr (some this)))] [] M 0 0
  refine vv_aload_n (mi := mX10_init) (pc := 0) 0 dX10_init_0 rfl rfl ?_
  refine vv_objInit (mi := mX10_init) (pc := 1) dX10_init_1 oi_X10_1 im_obj co_obj (Nat.le_of_ble_eq_true rfl) (Nat.le_of_ble_eq_true rfl) (Nat.le_of_ble_eq_true rfl) ?_
  refine vv_aload_n (mi := mX10_init) (pc := 4) 0 dX10_init_4 rfl rfl ?_
  obtain ⟨n1, en1⟩ : ∃ z : Nat, z = ddZ M := ⟨_, rfl⟩
  replace h := h _ en1
  obtain ⟨M2, eM2⟩ : ∃ z : Mm, z = suN M 7 0 := ⟨_, rfl⟩
  replace h := h _ eM2
  refine vv_new (mi := mX10_init) (pc := 5) 6 (r := (RX6, TX6, 5)) rfl (Nat.le_of_ble_eq_true rfl) rfl nw_6 cl_X10_7 it_6 iz_6 (Nat.le_of_ble_eq_true rfl) (Nat.le_of_ble_eq_true rfl) dX10_init_5 en1 eM2 ?_
  refine vv_dup (mi := mX10_init) (pc := 8) dX10_init_8 rfl ?_
  refine vv_callI (mi := mX10_init) (pc := 9) (rest := [.inr (.inr (some n1)), .inr (.inr (some this))]) (As := []) (ctX6_init (X := X) h) dX10_init_9 rfl rfl rfl mb_X6_init rfl ml_X10_9 im_X6_init ⟨(Nat.le_of_ble_eq_true rfl), (Nat.le_of_ble_eq_true rfl)⟩ ⟨(Nat.le_of_ble_eq_true rfl), (Nat.le_of_ble_eq_true rfl)⟩ (Nat.le_of_ble_eq_true rfl) rfl (kV_ (F := fun st M' => VV X mX10_init rX10_init (pV_ post) 12 [(0, .inr (.inr (some this)))] st M' 3 129) (fun M4 h => ?_))
  obtain ⟨ht5, h⟩ := h
  obtain ⟨M6, eM6⟩ : ∃ z : Mm, z = suR M4 this 0 (some n1) := ⟨_, rfl⟩
  replace h := h _ eM6
  refine vv_putR (mi := mX10_init) (pc := 12) 10 0 (.object "DialDesk$Plan") rfl rfl ht5 fq_X10_10 (fun _ => rfl) rfl (Nat.le_of_ble_eq_true rfl) dX10_init_12 eM6 ?_
  refine vv_aload_n (mi := mX10_init) (pc := 15) 0 dX10_init_15 rfl rfl ?_
  obtain ⟨n7, en7⟩ : ∃ z : Nat, z = ddZ M6 := ⟨_, rfl⟩
  replace h := h _ en7
  obtain ⟨M8, eM8⟩ : ∃ z : Mm, z = suN M6 5 0 := ⟨_, rfl⟩
  replace h := h _ eM8
  refine vv_new (mi := mX10_init) (pc := 16) 4 (r := (RX4, TX4, 3)) rfl (Nat.le_of_ble_eq_true rfl) rfl nw_4 cl_X10_16 it_4 iz_4 (Nat.le_of_ble_eq_true rfl) (Nat.le_of_ble_eq_true rfl) dX10_init_16 en7 eM8 ?_
  refine vv_dup (mi := mX10_init) (pc := 19) dX10_init_19 rfl ?_
  refine vv_callI (mi := mX10_init) (pc := 20) (rest := [.inr (.inr (some n7)), .inr (.inr (some this))]) (As := []) (ctX4_init (X := X) h) dX10_init_20 rfl rfl rfl mb_X4_init rfl ml_X10_18 im_X4_init ⟨(Nat.le_of_ble_eq_true rfl), (Nat.le_of_ble_eq_true rfl)⟩ ⟨(Nat.le_of_ble_eq_true rfl), (Nat.le_of_ble_eq_true rfl)⟩ (Nat.le_of_ble_eq_true rfl) rfl (kV_ (F := fun st M' => VV X mX10_init rX10_init (pV_ post) 23 [(0, .inr (.inr (some this)))] st M' 5 432) (fun M10 h => ?_))
  obtain ⟨ht11, h⟩ := h
  obtain ⟨M12, eM12⟩ : ∃ z : Mm, z = suR M10 this 1 (some n7) := ⟨_, rfl⟩
  replace h := h _ eM12
  refine vv_putR (mi := mX10_init) (pc := 23) 10 1 (.object "DialDesk$Lines") rfl rfl ht11 fq_X10_19 (fun _ => rfl) rfl (Nat.le_of_ble_eq_true rfl) dX10_init_23 eM12 ?_
  refine vv_aload_n (mi := mX10_init) (pc := 26) 0 dX10_init_26 rfl rfl ?_
  refine vv_iconst (mi := mX10_init) (pc := 27) 4 dX10_init_27 rfl ?_
  obtain ⟨n13, en13⟩ : ∃ z : Nat, z = ddZ M12 := ⟨_, rfl⟩
  replace h := h _ en13
  obtain ⟨M14, eM14⟩ : ∃ z : Mm, z = suN M12 23 4 := ⟨_, rfl⟩
  replace h := h _ eM14
  refine vv_anew (mi := mX10_init) (pc := 28) 23 4 "DialDesk$Call" (Nat.le_of_ble_eq_true rfl) rfl cl_X10_23 ao_23 (by decide +kernel) rfl (Nat.le_of_ble_eq_true rfl) (Nat.le_of_ble_eq_true rfl) (Nat.le_of_ble_eq_true rfl) dX10_init_28 en13 eM14 ?_
  obtain ⟨ht15, h⟩ := h
  obtain ⟨M16, eM16⟩ : ∃ z : Mm, z = suR M14 this 2 (some n13) := ⟨_, rfl⟩
  replace h := h _ eM16
  refine vv_putR (mi := mX10_init) (pc := 31) 10 2 (.array (.object "DialDesk$Call")) rfl rfl ht15 fq_X10_25 (fun _ => rfl) rfl (Nat.le_of_ble_eq_true rfl) dX10_init_31 eM16 ?_
  refine vv_iconst (mi := mX10_init) (pc := 34) 0 dX10_init_34 rfl ?_
  refine vv_istore_n (mi := mX10_init) (pc := 35) [(1, .inl 0), (0, .inr (.inr (some this)))] dX10_init_35 rfl (Nat.le_of_ble_eq_true rfl) rfl ?_
  refine vv_iload_n (mi := mX10_init) (pc := 36) 0 dX10_init_36 rfl rfl ?_
  refine vv_iconst (mi := mX10_init) (pc := 37) 4 dX10_init_37 rfl ?_
  refine vv_icmp_ge (mi := mX10_init) (pc := 38) 60 dX10_init_38 rfl (fun q => absurd q (by decide +kernel)) (fun c17 => ?_)
  refine vv_aload_n (mi := mX10_init) (pc := 41) 1 dX10_init_41 rfl rfl ?_
  refine vv_getR (mi := mX10_init) (pc := 42) 10 2 rfl (tgR_ eM16 ht15) fl_X10_25 (Nat.le_of_ble_eq_true rfl) dX10_init_42 ?_
  refine vv_iload_n (mi := mX10_init) (pc := 45) 0 dX10_init_45 rfl rfl ?_
  obtain ⟨n18, en18⟩ : ∃ z : Nat, z = ddZ M16 := ⟨_, rfl⟩
  replace h := h _ en18
  obtain ⟨M19, eM19⟩ : ∃ z : Mm, z = suN M16 1 0 := ⟨_, rfl⟩
  replace h := h _ eM19
  refine vv_new (mi := mX10_init) (pc := 46) 0 (r := (RX0, TX0, 6)) rfl (Nat.le_of_ble_eq_true rfl) rfl nw_0 cl_X10_23 it_0 iz_0 (Nat.le_of_ble_eq_true rfl) (Nat.le_of_ble_eq_true rfl) dX10_init_46 en18 eM19 ?_
  refine vv_dup (mi := mX10_init) (pc := 49) dX10_init_49 rfl ?_
  refine vv_callIN (mi := mX10_init) (pc := 50) (rest := [.inr (.inr (some n18)), .inl 0, .inr (.inr (ddR M16 this 2))]) (As := []) (ctX0_init (X := X) h) dX10_init_50 rfl rfl rfl mb_X0_init rfl mn_X10_29 im_X0_init ⟨(Nat.le_of_ble_eq_true rfl), (Nat.le_of_ble_eq_true rfl)⟩ ⟨(Nat.le_of_ble_eq_true rfl), (Nat.le_of_ble_eq_true rfl)⟩ (Nat.le_of_ble_eq_true rfl) rfl (kV_ (F := fun st M' => VV X mX10_init rX10_init (pV_ post) 53 [(1, .inl 0), (0, .inr (.inr (some this)))] st M' 7 442) (fun M21 h => ?_))
  obtain ⟨aq22, hs23, h⟩ := h
  obtain ⟨ht24, h⟩ := h
  obtain ⟨hi25, h⟩ := h
  obtain ⟨ht26, h⟩ := h
  obtain ⟨M27, eM27⟩ : ∃ z : Mm, z = suR M21 aq22 (Int32.toNatClampNeg 0) (some n18) := ⟨_, rfl⟩
  replace h := h _ eM27
  refine vv_aast (mi := mX10_init) (pc := 53) (t := 23) (ci := 0) (r := (RX0, TX0, 6)) (Nat.le_of_ble_eq_true rfl) (Nat.le_of_ble_eq_true rfl) rfl rfl rfl ht26 hs23 ht24 hi25 dX10_init_53 eM27 ?_
  refine vv_iinc (mi := mX10_init) (pc := 54) 1 0 [(1, .inl 1), (0, .inr (.inr (some this)))] dX10_init_54 rfl rfl (Nat.le_of_ble_eq_true rfl) rfl ?_
  refine vv_goto (mi := mX10_init) (pc := 57) 36 dX10_init_57 rfl ?_
  refine vv_iload_n (mi := mX10_init) (pc := 36) 0 dX10_init_36 rfl rfl ?_
  refine vv_iconst (mi := mX10_init) (pc := 37) 4 dX10_init_37 rfl ?_
  refine vv_icmp_ge (mi := mX10_init) (pc := 38) 60 dX10_init_38 rfl (fun q => absurd q (by decide +kernel)) (fun c28 => ?_)
  refine vv_aload_n (mi := mX10_init) (pc := 41) 1 dX10_init_41 rfl rfl ?_
  obtain ⟨ht29, h⟩ := h
  refine vv_getR (mi := mX10_init) (pc := 42) 10 2 rfl ht29 fl_X10_25 (Nat.le_of_ble_eq_true rfl) dX10_init_42 ?_
  refine vv_iload_n (mi := mX10_init) (pc := 45) 0 dX10_init_45 rfl rfl ?_
  obtain ⟨n30, en30⟩ : ∃ z : Nat, z = ddZ M27 := ⟨_, rfl⟩
  replace h := h _ en30
  obtain ⟨M31, eM31⟩ : ∃ z : Mm, z = suN M27 1 0 := ⟨_, rfl⟩
  replace h := h _ eM31
  refine vv_new (mi := mX10_init) (pc := 46) 0 (r := (RX0, TX0, 6)) rfl (Nat.le_of_ble_eq_true rfl) rfl nw_0 cl_X10_23 it_0 iz_0 (Nat.le_of_ble_eq_true rfl) (Nat.le_of_ble_eq_true rfl) dX10_init_46 en30 eM31 ?_
  refine vv_dup (mi := mX10_init) (pc := 49) dX10_init_49 rfl ?_
  refine vv_callIN (mi := mX10_init) (pc := 50) (rest := [.inr (.inr (some n30)), .inl 1, .inr (.inr (ddR M27 this 2))]) (As := []) (ctX0_init (X := X) h) dX10_init_50 rfl rfl rfl mb_X0_init rfl mn_X10_29 im_X0_init ⟨(Nat.le_of_ble_eq_true rfl), (Nat.le_of_ble_eq_true rfl)⟩ ⟨(Nat.le_of_ble_eq_true rfl), (Nat.le_of_ble_eq_true rfl)⟩ (Nat.le_of_ble_eq_true rfl) rfl (kV_ (F := fun st M' => VV X mX10_init rX10_init (pV_ post) 53 [(1, .inl 1), (0, .inr (.inr (some this)))] st M' 8 448) (fun M33 h => ?_))
  obtain ⟨aq34, hs35, h⟩ := h
  obtain ⟨ht36, h⟩ := h
  obtain ⟨hi37, h⟩ := h
  obtain ⟨ht38, h⟩ := h
  obtain ⟨M39, eM39⟩ : ∃ z : Mm, z = suR M33 aq34 (Int32.toNatClampNeg 1) (some n30) := ⟨_, rfl⟩
  replace h := h _ eM39
  refine vv_aast (mi := mX10_init) (pc := 53) (t := 23) (ci := 0) (r := (RX0, TX0, 6)) (Nat.le_of_ble_eq_true rfl) (Nat.le_of_ble_eq_true rfl) rfl rfl rfl ht38 hs35 ht36 hi37 dX10_init_53 eM39 ?_
  refine vv_iinc (mi := mX10_init) (pc := 54) 2 0 [(1, .inl 2), (0, .inr (.inr (some this)))] dX10_init_54 rfl rfl (Nat.le_of_ble_eq_true rfl) rfl ?_
  refine vv_goto (mi := mX10_init) (pc := 57) 36 dX10_init_57 rfl ?_
  refine vv_iload_n (mi := mX10_init) (pc := 36) 0 dX10_init_36 rfl rfl ?_
  refine vv_iconst (mi := mX10_init) (pc := 37) 4 dX10_init_37 rfl ?_
  refine vv_icmp_ge (mi := mX10_init) (pc := 38) 60 dX10_init_38 rfl (fun q => absurd q (by decide +kernel)) (fun c40 => ?_)
  refine vv_aload_n (mi := mX10_init) (pc := 41) 1 dX10_init_41 rfl rfl ?_
  obtain ⟨ht41, h⟩ := h
  refine vv_getR (mi := mX10_init) (pc := 42) 10 2 rfl ht41 fl_X10_25 (Nat.le_of_ble_eq_true rfl) dX10_init_42 ?_
  refine vv_iload_n (mi := mX10_init) (pc := 45) 0 dX10_init_45 rfl rfl ?_
  obtain ⟨n42, en42⟩ : ∃ z : Nat, z = ddZ M39 := ⟨_, rfl⟩
  replace h := h _ en42
  obtain ⟨M43, eM43⟩ : ∃ z : Mm, z = suN M39 1 0 := ⟨_, rfl⟩
  replace h := h _ eM43
  refine vv_new (mi := mX10_init) (pc := 46) 0 (r := (RX0, TX0, 6)) rfl (Nat.le_of_ble_eq_true rfl) rfl nw_0 cl_X10_23 it_0 iz_0 (Nat.le_of_ble_eq_true rfl) (Nat.le_of_ble_eq_true rfl) dX10_init_46 en42 eM43 ?_
  refine vv_dup (mi := mX10_init) (pc := 49) dX10_init_49 rfl ?_
  refine vv_callIN (mi := mX10_init) (pc := 50) (rest := [.inr (.inr (some n42)), .inl 2, .inr (.inr (ddR M39 this 2))]) (As := []) (ctX0_init (X := X) h) dX10_init_50 rfl rfl rfl mb_X0_init rfl mn_X10_29 im_X0_init ⟨(Nat.le_of_ble_eq_true rfl), (Nat.le_of_ble_eq_true rfl)⟩ ⟨(Nat.le_of_ble_eq_true rfl), (Nat.le_of_ble_eq_true rfl)⟩ (Nat.le_of_ble_eq_true rfl) rfl (kV_ (F := fun st M' => VV X mX10_init rX10_init (pV_ post) 53 [(1, .inl 2), (0, .inr (.inr (some this)))] st M' 9 454) (fun M45 h => ?_))
  obtain ⟨aq46, hs47, h⟩ := h
  obtain ⟨ht48, h⟩ := h
  obtain ⟨hi49, h⟩ := h
  obtain ⟨ht50, h⟩ := h
  obtain ⟨M51, eM51⟩ : ∃ z : Mm, z = suR M45 aq46 (Int32.toNatClampNeg 2) (some n42) := ⟨_, rfl⟩
  replace h := h _ eM51
  refine vv_aast (mi := mX10_init) (pc := 53) (t := 23) (ci := 0) (r := (RX0, TX0, 6)) (Nat.le_of_ble_eq_true rfl) (Nat.le_of_ble_eq_true rfl) rfl rfl rfl ht50 hs47 ht48 hi49 dX10_init_53 eM51 ?_
  refine vv_iinc (mi := mX10_init) (pc := 54) 3 0 [(1, .inl 3), (0, .inr (.inr (some this)))] dX10_init_54 rfl rfl (Nat.le_of_ble_eq_true rfl) rfl ?_
  refine vv_goto (mi := mX10_init) (pc := 57) 36 dX10_init_57 rfl ?_
  refine vv_iload_n (mi := mX10_init) (pc := 36) 0 dX10_init_36 rfl rfl ?_
  refine vv_iconst (mi := mX10_init) (pc := 37) 4 dX10_init_37 rfl ?_
  refine vv_icmp_ge (mi := mX10_init) (pc := 38) 60 dX10_init_38 rfl (fun q => absurd q (by decide +kernel)) (fun c52 => ?_)
  refine vv_aload_n (mi := mX10_init) (pc := 41) 1 dX10_init_41 rfl rfl ?_
  obtain ⟨ht53, h⟩ := h
  refine vv_getR (mi := mX10_init) (pc := 42) 10 2 rfl ht53 fl_X10_25 (Nat.le_of_ble_eq_true rfl) dX10_init_42 ?_
  refine vv_iload_n (mi := mX10_init) (pc := 45) 0 dX10_init_45 rfl rfl ?_
  obtain ⟨n54, en54⟩ : ∃ z : Nat, z = ddZ M51 := ⟨_, rfl⟩
  replace h := h _ en54
  obtain ⟨M55, eM55⟩ : ∃ z : Mm, z = suN M51 1 0 := ⟨_, rfl⟩
  replace h := h _ eM55
  refine vv_new (mi := mX10_init) (pc := 46) 0 (r := (RX0, TX0, 6)) rfl (Nat.le_of_ble_eq_true rfl) rfl nw_0 cl_X10_23 it_0 iz_0 (Nat.le_of_ble_eq_true rfl) (Nat.le_of_ble_eq_true rfl) dX10_init_46 en54 eM55 ?_
  refine vv_dup (mi := mX10_init) (pc := 49) dX10_init_49 rfl ?_
  refine vv_callIN (mi := mX10_init) (pc := 50) (rest := [.inr (.inr (some n54)), .inl 3, .inr (.inr (ddR M51 this 2))]) (As := []) (ctX0_init (X := X) h) dX10_init_50 rfl rfl rfl mb_X0_init rfl mn_X10_29 im_X0_init ⟨(Nat.le_of_ble_eq_true rfl), (Nat.le_of_ble_eq_true rfl)⟩ ⟨(Nat.le_of_ble_eq_true rfl), (Nat.le_of_ble_eq_true rfl)⟩ (Nat.le_of_ble_eq_true rfl) rfl (kV_ (F := fun st M' => VV X mX10_init rX10_init (pV_ post) 53 [(1, .inl 3), (0, .inr (.inr (some this)))] st M' 10 460) (fun M57 h => ?_))
  obtain ⟨aq58, hs59, h⟩ := h
  obtain ⟨ht60, h⟩ := h
  obtain ⟨hi61, h⟩ := h
  obtain ⟨ht62, h⟩ := h
  obtain ⟨M63, eM63⟩ : ∃ z : Mm, z = suR M57 aq58 (Int32.toNatClampNeg 3) (some n54) := ⟨_, rfl⟩
  replace h := h _ eM63
  refine vv_aast (mi := mX10_init) (pc := 53) (t := 23) (ci := 0) (r := (RX0, TX0, 6)) (Nat.le_of_ble_eq_true rfl) (Nat.le_of_ble_eq_true rfl) rfl rfl rfl ht62 hs59 ht60 hi61 dX10_init_53 eM63 ?_
  refine vv_iinc (mi := mX10_init) (pc := 54) 4 0 [(1, .inl 4), (0, .inr (.inr (some this)))] dX10_init_54 rfl rfl (Nat.le_of_ble_eq_true rfl) rfl ?_
  refine vv_goto (mi := mX10_init) (pc := 57) 36 dX10_init_57 rfl ?_
  refine vv_iload_n (mi := mX10_init) (pc := 36) 0 dX10_init_36 rfl rfl ?_
  refine vv_iconst (mi := mX10_init) (pc := 37) 4 dX10_init_37 rfl ?_
  refine vv_icmp_ge (mi := mX10_init) (pc := 38) 60 dX10_init_38 rfl (fun c64 => ?_) (fun q => absurd q (by decide +kernel))
  refine vv_aload_n (mi := mX10_init) (pc := 60) 1 dX10_init_60 rfl rfl ?_
  obtain ⟨n65, en65⟩ : ∃ z : Nat, z = ddZ M63 := ⟨_, rfl⟩
  replace h := h _ en65
  obtain ⟨M66, eM66⟩ : ∃ z : Mm, z = suN M63 10 0 := ⟨_, rfl⟩
  replace h := h _ eM66
  refine vv_new (mi := mX10_init) (pc := 61) 9 (r := (RX9, TX9, 7)) rfl (Nat.le_of_ble_eq_true rfl) rfl nw_9 cl_X10_30 it_9 iz_9 (Nat.le_of_ble_eq_true rfl) (Nat.le_of_ble_eq_true rfl) dX10_init_61 en65 eM66 ?_
  refine vv_dup (mi := mX10_init) (pc := 64) dX10_init_64 rfl ?_
  refine vv_aload_n (mi := mX10_init) (pc := 65) 1 dX10_init_65 rfl rfl ?_
  obtain ⟨ht67, h⟩ := h
  refine vv_getR (mi := mX10_init) (pc := 66) 10 0 rfl ht67 fl_X10_10 (Nat.le_of_ble_eq_true rfl) dX10_init_66 ?_
  refine vv_callI (mi := mX10_init) (pc := 69) (rest := [.inr (.inr (some n65)), .inr (.inr (some this))]) (As := [.inr (.inr (ddR M66 this 0))]) (ctX9_init (X := X) h) dX10_init_69 rfl rfl rfl mb_X9_init rfl ml_X10_32 im_X9_init ⟨(Nat.le_of_ble_eq_true rfl), (Nat.le_of_ble_eq_true rfl)⟩ ⟨(Nat.le_of_ble_eq_true rfl), (Nat.le_of_ble_eq_true rfl)⟩ (Nat.le_of_ble_eq_true rfl) rfl (kV_ (F := fun st M' => VV X mX10_init rX10_init (pV_ post) 72 [(1, .inl 4), (0, .inr (.inr (some this)))] st M' 31 1037) (fun M69 h => ?_))
  obtain ⟨ht70, h⟩ := h
  obtain ⟨M71, eM71⟩ : ∃ z : Mm, z = suR M69 this 3 (some n65) := ⟨_, rfl⟩
  replace h := h _ eM71
  refine vv_putR (mi := mX10_init) (pc := 72) 10 3 (.object "DialDesk$Supply") rfl rfl ht70 fq_X10_35 (fun _ => rfl) rfl (Nat.le_of_ble_eq_true rfl) dX10_init_72 eM71 ?_
  refine vv_aload_n (mi := mX10_init) (pc := 75) 1 dX10_init_75 rfl rfl ?_
  refine vv_iconst (mi := mX10_init) (pc := 76) 0 dX10_init_76 rfl ?_
  obtain ⟨M72, eM72⟩ : ∃ z : Mm, z = suI M71 this 4 0 := ⟨_, rfl⟩
  replace h := h _ eM72
  refine vv_putI (mi := mX10_init) (pc := 77) 10 4 rfl (tgR_ eM71 ht70) fq_X10_39 (fun q => by cases q) rfl (Nat.le_of_ble_eq_true rfl) dX10_init_77 eM72 ?_
  exact vv_vret (mi := mX10_init) (pc := 80) dX10_init_80 rfl (Nat.le_of_ble_eq_true rfl) (Nat.le_of_ble_eq_true rfl) h
set_option maxHeartbeats 4000000 in
set_option maxRecDepth 100000 in
theorem ctX10_isWithin {X : Cx_} {a1 : Int32} {a2 : Int32} {a3 : Int32} {M : Mm} {post : Int32 → Mm → Prop} (h : PX10_isWithin a1 a2 a3 M post) : CT X mX10_isWithin rX10_isWithin [.inl a1, .inl a2, .inl a3] M (pI_ post) := by
  unfold PX10_isWithin at h
  refine CT.of (by decide +kernel) (Nat.le_of_ble_eq_true rfl) ?_
  show VV X mX10_isWithin rX10_isWithin (pI_ post) 0 [(0, .inl a1), (1, .inl a2), (2, .inl a3)] [] M 0 0
  refine vv_iload_n (mi := mX10_isWithin) (pc := 0) 0 dX10_isWithin_0 rfl rfl ?_
  refine vv_iload_n (mi := mX10_isWithin) (pc := 1) 1 dX10_isWithin_1 rfl rfl ?_
  refine vv_icmp_lt (mi := mX10_isWithin) (pc := 2) 14 dX10_isWithin_2 rfl (fun c1 => ?_) (fun c1 => ?_)
  · replace h := h.1 c1
    refine vv_iconst (mi := mX10_isWithin) (pc := 14) 0 dX10_isWithin_14 rfl ?_
    exact vv_zret (mi := mX10_isWithin) (pc := 15) dX10_isWithin_15 rfl (Or.inl rfl) (Nat.le_of_ble_eq_true rfl) (Nat.le_of_ble_eq_true rfl) h
  · replace h := h.2 c1
    refine vv_iload_n (mi := mX10_isWithin) (pc := 5) 0 dX10_isWithin_5 rfl rfl ?_
    refine vv_iload_n (mi := mX10_isWithin) (pc := 6) 2 dX10_isWithin_6 rfl rfl ?_
    refine vv_icmp_gt (mi := mX10_isWithin) (pc := 7) 14 dX10_isWithin_7 rfl (fun c2 => ?_) (fun c2 => ?_)
    · replace h := h.1 c2
      refine vv_iconst (mi := mX10_isWithin) (pc := 14) 0 dX10_isWithin_14 rfl ?_
      exact vv_zret (mi := mX10_isWithin) (pc := 15) dX10_isWithin_15 rfl (Or.inl rfl) (Nat.le_of_ble_eq_true rfl) (Nat.le_of_ble_eq_true rfl) h
    · replace h := h.2 c2
      refine vv_iconst (mi := mX10_isWithin) (pc := 10) 1 dX10_isWithin_10 rfl ?_
      refine vv_goto (mi := mX10_isWithin) (pc := 11) 15 dX10_isWithin_11 rfl ?_
      exact vv_zret (mi := mX10_isWithin) (pc := 15) dX10_isWithin_15 rfl (Or.inr rfl) (Nat.le_of_ble_eq_true rfl) (Nat.le_of_ble_eq_true rfl) h
set_option maxHeartbeats 4000000 in
set_option maxRecDepth 100000 in
theorem ctX10_isDayToCome {X : Cx_} {this : Nat} {a1 : Int32} {M : Mm} {post : Int32 → Mm → Prop} (h : PX10_isDayToCome this a1 M post) : CT X mX10_isDayToCome rX10_isDayToCome [.inr (.inr (some this)), .inl a1] M (pI_ post) := by
  unfold PX10_isDayToCome at h
  refine CT.of (by decide +kernel) (Nat.le_of_ble_eq_true rfl) ?_
  show VV X mX10_isDayToCome rX10_isDayToCome (pI_ post) 0 [(0, .inr (.inr (some this))), (1, .inl a1)] [] M 0 0
  refine vv_iload_n (mi := mX10_isDayToCome) (pc := 0) 1 dX10_isDayToCome_0 rfl rfl ?_
  refine vv_aload_n (mi := mX10_isDayToCome) (pc := 1) 0 dX10_isDayToCome_1 rfl rfl ?_
  obtain ⟨ht1, h⟩ := h
  refine vv_getI (mi := mX10_isDayToCome) (pc := 2) 10 4 rfl ht1 fl_X10_39 (Nat.le_of_ble_eq_true rfl) dX10_isDayToCome_2 ?_
  refine vv_sipush (mi := mX10_isDayToCome) (pc := 5) 20000 dX10_isDayToCome_5 rfl ?_
  refine vv_callS (mi := mX10_isDayToCome) (pc := 8) (rest := []) (As := [.inl a1, .inl (ddI M this 4), .inl 20000]) (ctX10_isWithin (X := X) h) dX10_isDayToCome_8 mb_X10_isWithin rfl ml_X10_64 sc_X10_isWithin ⟨(Nat.le_of_ble_eq_true rfl), (Nat.le_of_ble_eq_true rfl)⟩ ⟨(Nat.le_of_ble_eq_true rfl), (Nat.le_of_ble_eq_true rfl)⟩ (Nat.le_of_ble_eq_true rfl) rfl (kI_ (F := fun st M' => VV X mX10_isDayToCome rX10_isDayToCome (pI_ post) 11 [(0, .inr (.inr (some this))), (1, .inl a1)] st M' 0 0) (fun r2 M3 h => ?_))
  obtain ⟨hz4, h⟩ := h
  exact vv_zret (mi := mX10_isDayToCome) (pc := 11) dX10_isDayToCome_11 rfl hz4 (Nat.le_of_ble_eq_true rfl) (Nat.le_of_ble_eq_true rfl) h
set_option maxHeartbeats 4000000 in
set_option maxRecDepth 100000 in
theorem ctX10_now {X : Cx_} {this : Nat} {a1 : Int32} {M : Mm} {post : Int32 → Mm → Prop} (h : PX10_now this a1 M post) : CT X mX10_now rX10_now [.inr (.inr (some this)), .inl a1] M (pI_ post) := by
  unfold PX10_now at h
  refine CT.of (by decide +kernel) (Nat.le_of_ble_eq_true rfl) ?_
  show VV X mX10_now rX10_now (pI_ post) 0 [(0, .inr (.inr (some this))), (1, .inl a1)] [] M 0 0
  refine vv_aload_n (mi := mX10_now) (pc := 0) 0 dX10_now_0 rfl rfl ?_
  refine vv_iload_n (mi := mX10_now) (pc := 1) 1 dX10_now_1 rfl rfl ?_
  obtain ⟨ht1, h⟩ := h
  refine vv_callV (mi := mX10_now) (pc := 2) (rest := []) (As := [.inl a1]) (ctX10_isDayToCome (X := X) h) dX10_now_2 rfl ht1 (Nat.le_of_ble_eq_true rfl) rfl mb_X10_isDayToCome rfl ml_X10_43 im_X10_isDayToCome se_X10_isDayToCome ⟨(Nat.le_of_ble_eq_true rfl), (Nat.le_of_ble_eq_true rfl)⟩ ⟨(Nat.le_of_ble_eq_true rfl), (Nat.le_of_ble_eq_true rfl)⟩ (Nat.le_of_ble_eq_true rfl) rfl (kI_ (F := fun st M' => VV X mX10_now rX10_now (pI_ post) 5 [(0, .inr (.inr (some this))), (1, .inl a1)] st M' 0 0) (fun r2 M3 h => ?_))
  refine vv_if_ne (mi := mX10_now) (pc := 5) 11 dX10_now_5 rfl (fun c4 => ?_) (fun c4 => ?_)
  · replace h := h.1 c4
    refine vv_aload_n (mi := mX10_now) (pc := 11) 0 dX10_now_11 rfl rfl ?_
    refine vv_iload_n (mi := mX10_now) (pc := 12) 1 dX10_now_12 rfl rfl ?_
    obtain ⟨ht5, h⟩ := h
    obtain ⟨M6, eM6⟩ : ∃ z : Mm, z = suI M3 this 4 a1 := ⟨_, rfl⟩
    replace h := h _ eM6
    refine vv_putI (mi := mX10_now) (pc := 13) 10 4 rfl ht5 fq_X10_39 (fun q => by cases q) rfl (Nat.le_of_ble_eq_true rfl) dX10_now_13 eM6 ?_
    refine vv_iload_n (mi := mX10_now) (pc := 16) 1 dX10_now_16 rfl rfl ?_
    exact vv_iret (mi := mX10_now) (pc := 17) dX10_now_17 rfl (Nat.le_of_ble_eq_true rfl) (Nat.le_of_ble_eq_true rfl) h
  · replace h := h.2 c4
    refine vv_bipush (mi := mX10_now) (pc := 8) (-2) dX10_now_8 rfl ?_
    exact vv_iret (mi := mX10_now) (pc := 10) dX10_now_10 rfl (Nat.le_of_ble_eq_true rfl) (Nat.le_of_ble_eq_true rfl) h
set_option maxHeartbeats 4000000 in
set_option maxRecDepth 100000 in
theorem ctX10_isBlock {X : Cx_} {a1 : Int32} {a2 : Int32} {a3 : Int32} {a4 : Int32} {M : Mm} {post : Int32 → Mm → Prop} (h : PX10_isBlock a1 a2 a3 a4 M post) : CT X mX10_isBlock rX10_isBlock [.inl a1, .inl a2, .inl a3, .inl a4] M (pI_ post) := by
  unfold PX10_isBlock at h
  refine CT.of (by decide +kernel) (Nat.le_of_ble_eq_true rfl) ?_
  show VV X mX10_isBlock rX10_isBlock (pI_ post) 0 [(0, .inl a1), (1, .inl a2), (2, .inl a3), (3, .inl a4)] [] M 0 0
  refine vv_iload_n (mi := mX10_isBlock) (pc := 0) 1 dX10_isBlock_0 rfl rfl ?_
  refine vv_i2l (mi := mX10_isBlock) (pc := 1) dX10_isBlock_1 ?_
  refine vv_callS (mi := mX10_isBlock) (pc := 2) (rest := []) (As := [.inr (.inl (Int32.toInt64 a2))]) (ctX10_placesOf (X := X) h) dX10_isBlock_2 mb_X10_placesOf rfl ml_X10_60 sc_X10_placesOf ⟨(Nat.le_of_ble_eq_true rfl), (Nat.le_of_ble_eq_true rfl)⟩ ⟨(Nat.le_of_ble_eq_true rfl), (Nat.le_of_ble_eq_true rfl)⟩ (Nat.le_of_ble_eq_true rfl) rfl (kI_ (F := fun st M' => VV X mX10_isBlock rX10_isBlock (pI_ post) 5 [(0, .inl a1), (1, .inl a2), (2, .inl a3), (3, .inl a4)] st M' 0 0) (fun r1 M2 h => ?_))
  refine vv_istore (mi := mX10_isBlock) (pc := 5) [(4, .inl r1), (0, .inl a1), (1, .inl a2), (2, .inl a3), (3, .inl a4)] dX10_isBlock_5 (Nat.le_of_ble_eq_true rfl) rfl ?_
  refine vv_iload_n (mi := mX10_isBlock) (pc := 7) 1 dX10_isBlock_7 rfl rfl ?_
  refine vv_iconst (mi := mX10_isBlock) (pc := 8) 0 dX10_isBlock_8 rfl ?_
  refine vv_bipush (mi := mX10_isBlock) (pc := 9) 15 dX10_isBlock_9 rfl ?_
  refine vv_callS (mi := mX10_isBlock) (pc := 11) (rest := []) (As := [.inl a1, .inl 0, .inl 15]) (ctX10_isWithin (X := X) h) dX10_isBlock_11 mb_X10_isWithin rfl ml_X10_64 sc_X10_isWithin ⟨(Nat.le_of_ble_eq_true rfl), (Nat.le_of_ble_eq_true rfl)⟩ ⟨(Nat.le_of_ble_eq_true rfl), (Nat.le_of_ble_eq_true rfl)⟩ (Nat.le_of_ble_eq_true rfl) rfl (kI_ (F := fun st M' => VV X mX10_isBlock rX10_isBlock (pI_ post) 14 [(4, .inl r1), (0, .inl a1), (1, .inl a2), (2, .inl a3), (3, .inl a4)] st M' 0 0) (fun r3 M4 h => ?_))
  refine vv_if_eq (mi := mX10_isBlock) (pc := 14) 56 dX10_isBlock_14 rfl (fun c5 => ?_) (fun c5 => ?_)
  · replace h := h.1 c5
    refine vv_iconst (mi := mX10_isBlock) (pc := 56) 0 dX10_isBlock_56 rfl ?_
    exact vv_zret (mi := mX10_isBlock) (pc := 57) dX10_isBlock_57 rfl (Or.inl rfl) (Nat.le_of_ble_eq_true rfl) (Nat.le_of_ble_eq_true rfl) h
  · replace h := h.2 c5
    refine vv_iload (mi := mX10_isBlock) (pc := 17) 0 dX10_isBlock_17 rfl ?_
    refine vv_iconst (mi := mX10_isBlock) (pc := 19) 1 dX10_isBlock_19 rfl ?_
    refine vv_bipush (mi := mX10_isBlock) (pc := 20) 7 dX10_isBlock_20 rfl ?_
    refine vv_callS (mi := mX10_isBlock) (pc := 22) (rest := []) (As := [.inl r1, .inl 1, .inl 7]) (ctX10_isWithin (X := X) h) dX10_isBlock_22 mb_X10_isWithin rfl ml_X10_64 sc_X10_isWithin ⟨(Nat.le_of_ble_eq_true rfl), (Nat.le_of_ble_eq_true rfl)⟩ ⟨(Nat.le_of_ble_eq_true rfl), (Nat.le_of_ble_eq_true rfl)⟩ (Nat.le_of_ble_eq_true rfl) rfl (kI_ (F := fun st M' => VV X mX10_isBlock rX10_isBlock (pI_ post) 25 [(4, .inl r1), (0, .inl a1), (1, .inl a2), (2, .inl a3), (3, .inl a4)] st M' 0 0) (fun r6 M7 h => ?_))
    refine vv_if_eq (mi := mX10_isBlock) (pc := 25) 56 dX10_isBlock_25 rfl (fun c8 => ?_) (fun c8 => ?_)
    · replace h := h.1 c8
      refine vv_iconst (mi := mX10_isBlock) (pc := 56) 0 dX10_isBlock_56 rfl ?_
      exact vv_zret (mi := mX10_isBlock) (pc := 57) dX10_isBlock_57 rfl (Or.inl rfl) (Nat.le_of_ble_eq_true rfl) (Nat.le_of_ble_eq_true rfl) h
    · replace h := h.2 c8
      refine vv_iload_n (mi := mX10_isBlock) (pc := 28) 3 dX10_isBlock_28 rfl rfl ?_
      refine vv_iconst (mi := mX10_isBlock) (pc := 29) 1 dX10_isBlock_29 rfl ?_
      refine vv_sipush (mi := mX10_isBlock) (pc := 30) 1023 dX10_isBlock_30 rfl ?_
      refine vv_callS (mi := mX10_isBlock) (pc := 33) (rest := []) (As := [.inl a3, .inl 1, .inl 1023]) (ctX10_isWithin (X := X) h) dX10_isBlock_33 mb_X10_isWithin rfl ml_X10_64 sc_X10_isWithin ⟨(Nat.le_of_ble_eq_true rfl), (Nat.le_of_ble_eq_true rfl)⟩ ⟨(Nat.le_of_ble_eq_true rfl), (Nat.le_of_ble_eq_true rfl)⟩ (Nat.le_of_ble_eq_true rfl) rfl (kI_ (F := fun st M' => VV X mX10_isBlock rX10_isBlock (pI_ post) 36 [(4, .inl r1), (0, .inl a1), (1, .inl a2), (2, .inl a3), (3, .inl a4)] st M' 0 0) (fun r9 M10 h => ?_))
      refine vv_if_eq (mi := mX10_isBlock) (pc := 36) 56 dX10_isBlock_36 rfl (fun c11 => ?_) (fun c11 => ?_)
      · replace h := h.1 c11
        refine vv_iconst (mi := mX10_isBlock) (pc := 56) 0 dX10_isBlock_56 rfl ?_
        exact vv_zret (mi := mX10_isBlock) (pc := 57) dX10_isBlock_57 rfl (Or.inl rfl) (Nat.le_of_ble_eq_true rfl) (Nat.le_of_ble_eq_true rfl) h
      · replace h := h.2 c11
        refine vv_iload_n (mi := mX10_isBlock) (pc := 39) 4 dX10_isBlock_39 rfl rfl ?_
        refine vv_iload (mi := mX10_isBlock) (pc := 40) 0 dX10_isBlock_40 rfl ?_
        refine vv_iconst (mi := mX10_isBlock) (pc := 42) 1 dX10_isBlock_42 rfl ?_
        refine vv_iadd (mi := mX10_isBlock) (pc := 43) dX10_isBlock_43 ?_
        refine vv_bipush (mi := mX10_isBlock) (pc := 44) 12 dX10_isBlock_44 rfl ?_
        refine vv_callS (mi := mX10_isBlock) (pc := 46) (rest := []) (As := [.inl a4, .inl (r1 + 1), .inl 12]) (ctX10_isWithin (X := X) h) dX10_isBlock_46 mb_X10_isWithin rfl ml_X10_64 sc_X10_isWithin ⟨(Nat.le_of_ble_eq_true rfl), (Nat.le_of_ble_eq_true rfl)⟩ ⟨(Nat.le_of_ble_eq_true rfl), (Nat.le_of_ble_eq_true rfl)⟩ (Nat.le_of_ble_eq_true rfl) rfl (kI_ (F := fun st M' => VV X mX10_isBlock rX10_isBlock (pI_ post) 49 [(4, .inl r1), (0, .inl a1), (1, .inl a2), (2, .inl a3), (3, .inl a4)] st M' 0 0) (fun r12 M13 h => ?_))
        refine vv_if_eq (mi := mX10_isBlock) (pc := 49) 56 dX10_isBlock_49 rfl (fun c14 => ?_) (fun c14 => ?_)
        · replace h := h.1 c14
          refine vv_iconst (mi := mX10_isBlock) (pc := 56) 0 dX10_isBlock_56 rfl ?_
          exact vv_zret (mi := mX10_isBlock) (pc := 57) dX10_isBlock_57 rfl (Or.inl rfl) (Nat.le_of_ble_eq_true rfl) (Nat.le_of_ble_eq_true rfl) h
        · replace h := h.2 c14
          refine vv_iconst (mi := mX10_isBlock) (pc := 52) 1 dX10_isBlock_52 rfl ?_
          refine vv_goto (mi := mX10_isBlock) (pc := 53) 57 dX10_isBlock_53 rfl ?_
          exact vv_zret (mi := mX10_isBlock) (pc := 57) dX10_isBlock_57 rfl (Or.inr rfl) (Nat.le_of_ble_eq_true rfl) (Nat.le_of_ble_eq_true rfl) h
set_option maxHeartbeats 4000000 in
set_option maxRecDepth 100000 in
theorem ctX10_block {X : Cx_} {this : Nat} {a1 : Int32} {a2 : Int32} {a3 : Int32} {a4 : Int32} {a5 : Int32} {M : Mm} {post : Int32 → Mm → Prop} (h : PX10_block this a1 a2 a3 a4 a5 M post) : CT X mX10_block rX10_block [.inr (.inr (some this)), .inl a1, .inl a2, .inl a3, .inl a4, .inl a5] M (pI_ post) := by
  unfold PX10_block at h
  refine CT.of (by decide +kernel) (Nat.le_of_ble_eq_true rfl) ?_
  show VV X mX10_block rX10_block (pI_ post) 0 [(0, .inr (.inr (some this))), (1, .inl a1), (2, .inl a2), (3, .inl a3), (4, .inl a4), (5, .inl a5)] [] M 0 0
  refine vv_iload_n (mi := mX10_block) (pc := 0) 1 dX10_block_0 rfl rfl ?_
  refine vv_iload_n (mi := mX10_block) (pc := 1) 2 dX10_block_1 rfl rfl ?_
  refine vv_iload_n (mi := mX10_block) (pc := 2) 3 dX10_block_2 rfl rfl ?_
  refine vv_iload (mi := mX10_block) (pc := 3) 4 dX10_block_3 rfl ?_
  refine vv_callS (mi := mX10_block) (pc := 5) (rest := []) (As := [.inl a1, .inl a2, .inl a3, .inl a4]) (ctX10_isBlock (X := X) h) dX10_block_5 mb_X10_isBlock rfl ml_X10_47 sc_X10_isBlock ⟨(Nat.le_of_ble_eq_true rfl), (Nat.le_of_ble_eq_true rfl)⟩ ⟨(Nat.le_of_ble_eq_true rfl), (Nat.le_of_ble_eq_true rfl)⟩ (Nat.le_of_ble_eq_true rfl) rfl (kI_ (F := fun st M' => VV X mX10_block rX10_block (pI_ post) 8 [(0, .inr (.inr (some this))), (1, .inl a1), (2, .inl a2), (3, .inl a3), (4, .inl a4), (5, .inl a5)] st M' 0 0) (fun r1 M2 h => ?_))
  refine vv_if_eq (mi := mX10_block) (pc := 8) 20 dX10_block_8 rfl (fun c3 => ?_) (fun c3 => ?_)
  · replace h := h.1 c3
    refine vv_bipush (mi := mX10_block) (pc := 20) (-2) dX10_block_20 rfl ?_
    exact vv_iret (mi := mX10_block) (pc := 22) dX10_block_22 rfl (Nat.le_of_ble_eq_true rfl) (Nat.le_of_ble_eq_true rfl) h
  · replace h := h.2 c3
    refine vv_aload_n (mi := mX10_block) (pc := 11) 0 dX10_block_11 rfl rfl ?_
    refine vv_iload (mi := mX10_block) (pc := 12) 5 dX10_block_12 rfl ?_
    obtain ⟨ht4, h⟩ := h
    refine vv_callV (mi := mX10_block) (pc := 14) (rest := []) (As := [.inl a5]) (ctX10_isDayToCome (X := X) h) dX10_block_14 rfl ht4 (Nat.le_of_ble_eq_true rfl) rfl mb_X10_isDayToCome rfl ml_X10_43 im_X10_isDayToCome se_X10_isDayToCome ⟨(Nat.le_of_ble_eq_true rfl), (Nat.le_of_ble_eq_true rfl)⟩ ⟨(Nat.le_of_ble_eq_true rfl), (Nat.le_of_ble_eq_true rfl)⟩ (Nat.le_of_ble_eq_true rfl) rfl (kI_ (F := fun st M' => VV X mX10_block rX10_block (pI_ post) 17 [(0, .inr (.inr (some this))), (1, .inl a1), (2, .inl a2), (3, .inl a3), (4, .inl a4), (5, .inl a5)] st M' 0 0) (fun r5 M6 h => ?_))
    refine vv_if_ne (mi := mX10_block) (pc := 17) 23 dX10_block_17 rfl (fun c7 => ?_) (fun c7 => ?_)
    · replace h := h.1 c7
      refine vv_aload_n (mi := mX10_block) (pc := 23) 0 dX10_block_23 rfl rfl ?_
      obtain ⟨ht8, h⟩ := h
      refine vv_getR (mi := mX10_block) (pc := 24) 10 0 rfl ht8 fl_X10_10 (Nat.le_of_ble_eq_true rfl) dX10_block_24 ?_
      obtain ⟨n9, en9⟩ : ∃ z : Nat, z = ddZ M6 := ⟨_, rfl⟩
      replace h := h _ en9
      obtain ⟨M10, eM10⟩ : ∃ z : Mm, z = suN M6 3 0 := ⟨_, rfl⟩
      replace h := h _ eM10
      refine vv_new (mi := mX10_block) (pc := 27) 2 (r := (RX2, TX2, 18)) rfl (Nat.le_of_ble_eq_true rfl) rfl nw_2 cl_X10_51 it_2 iz_2 (Nat.le_of_ble_eq_true rfl) (Nat.le_of_ble_eq_true rfl) dX10_block_27 en9 eM10 ?_
      refine vv_dup (mi := mX10_block) (pc := 30) dX10_block_30 rfl ?_
      refine vv_iconst (mi := mX10_block) (pc := 31) 0 dX10_block_31 rfl ?_
      refine vv_iload_n (mi := mX10_block) (pc := 32) 1 dX10_block_32 rfl rfl ?_
      refine vv_iload_n (mi := mX10_block) (pc := 33) 2 dX10_block_33 rfl rfl ?_
      refine vv_iload_n (mi := mX10_block) (pc := 34) 3 dX10_block_34 rfl rfl ?_
      refine vv_iload (mi := mX10_block) (pc := 35) 4 dX10_block_35 rfl ?_
      refine vv_iload (mi := mX10_block) (pc := 37) 4 dX10_block_37 rfl ?_
      refine vv_iload (mi := mX10_block) (pc := 39) 5 dX10_block_39 rfl ?_
      refine vv_callI (mi := mX10_block) (pc := 41) (rest := [.inr (.inr (some n9)), .inr (.inr (ddR M6 this 0))]) (As := [.inl 0, .inl a1, .inl a2, .inl a3, .inl a4, .inl a4, .inl a5]) (ctX2_init (X := X) h) dX10_block_41 rfl rfl rfl mb_X2_init rfl ml_X10_53 im_X2_init ⟨(Nat.le_of_ble_eq_true rfl), (Nat.le_of_ble_eq_true rfl)⟩ ⟨(Nat.le_of_ble_eq_true rfl), (Nat.le_of_ble_eq_true rfl)⟩ (Nat.le_of_ble_eq_true rfl) rfl (kV_ (F := fun st M' => VV X mX10_block rX10_block (pI_ post) 44 [(0, .inr (.inr (some this))), (1, .inl a1), (2, .inl a2), (3, .inl a3), (4, .inl a4), (5, .inl a5)] st M' 2 26) (fun M12 h => ?_))
      obtain ⟨aq13, hs14, h⟩ := h
      obtain ⟨ht15, h⟩ := h
      refine vv_callV (mi := mX10_block) (pc := 44) (rest := []) (As := [.inr (.inr (some n9))]) (ctX6_append (X := X) h) dX10_block_44 hs14 ht15 (Nat.le_of_ble_eq_true rfl) rfl mb_X6_append rfl ml_X10_56 im_X6_append se_X6_append ⟨(Nat.le_of_ble_eq_true rfl), (Nat.le_of_ble_eq_true rfl)⟩ ⟨(Nat.le_of_ble_eq_true rfl), (Nat.le_of_ble_eq_true rfl)⟩ (Nat.le_of_ble_eq_true rfl) rfl (kI_ (F := fun st M' => VV X mX10_block rX10_block (pI_ post) 47 [(0, .inr (.inr (some this))), (1, .inl a1), (2, .inl a2), (3, .inl a3), (4, .inl a4), (5, .inl a5)] st M' 2 26) (fun r16 M17 h => ?_))
      exact vv_iret (mi := mX10_block) (pc := 47) dX10_block_47 rfl (Nat.le_of_ble_eq_true rfl) (Nat.le_of_ble_eq_true rfl) h
    · replace h := h.2 c7
      refine vv_bipush (mi := mX10_block) (pc := 20) (-2) dX10_block_20 rfl ?_
      exact vv_iret (mi := mX10_block) (pc := 22) dX10_block_22 rfl (Nat.le_of_ble_eq_true rfl) (Nat.le_of_ble_eq_true rfl) h
set_option maxHeartbeats 4000000 in
set_option maxRecDepth 100000 in
theorem ctX10_service {X : Cx_} {this : Nat} {a1 : Int32} {a2 : Int32} {a3 : Int32} {M : Mm} {post : Int32 → Mm → Prop} (h : PX10_service this a1 a2 a3 M post) : CT X mX10_service rX10_service [.inr (.inr (some this)), .inl a1, .inl a2, .inl a3] M (pI_ post) := by
  unfold PX10_service at h
  refine CT.of (by decide +kernel) (Nat.le_of_ble_eq_true rfl) ?_
  show VV X mX10_service rX10_service (pI_ post) 0 [(0, .inr (.inr (some this))), (1, .inl a1), (2, .inl a2), (3, .inl a3)] [] M 0 0
  refine vv_iload_n (mi := mX10_service) (pc := 0) 1 dX10_service_0 rfl rfl ?_
  refine vv_i2l (mi := mX10_service) (pc := 1) dX10_service_1 ?_
  refine vv_callS (mi := mX10_service) (pc := 2) (rest := []) (As := [.inr (.inl (Int32.toInt64 a1))]) (ctX10_placesOf (X := X) h) dX10_service_2 mb_X10_placesOf rfl ml_X10_60 sc_X10_placesOf ⟨(Nat.le_of_ble_eq_true rfl), (Nat.le_of_ble_eq_true rfl)⟩ ⟨(Nat.le_of_ble_eq_true rfl), (Nat.le_of_ble_eq_true rfl)⟩ (Nat.le_of_ble_eq_true rfl) rfl (kI_ (F := fun st M' => VV X mX10_service rX10_service (pI_ post) 5 [(0, .inr (.inr (some this))), (1, .inl a1), (2, .inl a2), (3, .inl a3)] st M' 0 0) (fun r1 M2 h => ?_))
  refine vv_istore (mi := mX10_service) (pc := 5) [(4, .inl r1), (0, .inr (.inr (some this))), (1, .inl a1), (2, .inl a2), (3, .inl a3)] dX10_service_5 (Nat.le_of_ble_eq_true rfl) rfl ?_
  refine vv_iload (mi := mX10_service) (pc := 7) 0 dX10_service_7 rfl ?_
  refine vv_iconst (mi := mX10_service) (pc := 9) 2 dX10_service_9 rfl ?_
  refine vv_bipush (mi := mX10_service) (pc := 10) 7 dX10_service_10 rfl ?_
  refine vv_callS (mi := mX10_service) (pc := 12) (rest := []) (As := [.inl r1, .inl 2, .inl 7]) (ctX10_isWithin (X := X) h) dX10_service_12 mb_X10_isWithin rfl ml_X10_64 sc_X10_isWithin ⟨(Nat.le_of_ble_eq_true rfl), (Nat.le_of_ble_eq_true rfl)⟩ ⟨(Nat.le_of_ble_eq_true rfl), (Nat.le_of_ble_eq_true rfl)⟩ (Nat.le_of_ble_eq_true rfl) rfl (kI_ (F := fun st M' => VV X mX10_service rX10_service (pI_ post) 15 [(4, .inl r1), (0, .inr (.inr (some this))), (1, .inl a1), (2, .inl a2), (3, .inl a3)] st M' 0 0) (fun r3 M4 h => ?_))
  refine vv_if_eq (mi := mX10_service) (pc := 15) 36 dX10_service_15 rfl (fun c5 => ?_) (fun c5 => ?_)
  · replace h := h.1 c5
    refine vv_bipush (mi := mX10_service) (pc := 36) (-2) dX10_service_36 rfl ?_
    exact vv_iret (mi := mX10_service) (pc := 38) dX10_service_38 rfl (Nat.le_of_ble_eq_true rfl) (Nat.le_of_ble_eq_true rfl) h
  · replace h := h.2 c5
    refine vv_iload_n (mi := mX10_service) (pc := 18) 3 dX10_service_18 rfl rfl ?_
    refine vv_iconst (mi := mX10_service) (pc := 19) 0 dX10_service_19 rfl ?_
    refine vv_bipush (mi := mX10_service) (pc := 20) 99 dX10_service_20 rfl ?_
    refine vv_callS (mi := mX10_service) (pc := 22) (rest := []) (As := [.inl a2, .inl 0, .inl 99]) (ctX10_isWithin (X := X) h) dX10_service_22 mb_X10_isWithin rfl ml_X10_64 sc_X10_isWithin ⟨(Nat.le_of_ble_eq_true rfl), (Nat.le_of_ble_eq_true rfl)⟩ ⟨(Nat.le_of_ble_eq_true rfl), (Nat.le_of_ble_eq_true rfl)⟩ (Nat.le_of_ble_eq_true rfl) rfl (kI_ (F := fun st M' => VV X mX10_service rX10_service (pI_ post) 25 [(4, .inl r1), (0, .inr (.inr (some this))), (1, .inl a1), (2, .inl a2), (3, .inl a3)] st M' 0 0) (fun r6 M7 h => ?_))
    refine vv_if_eq (mi := mX10_service) (pc := 25) 36 dX10_service_25 rfl (fun c8 => ?_) (fun c8 => ?_)
    · replace h := h.1 c8
      refine vv_bipush (mi := mX10_service) (pc := 36) (-2) dX10_service_36 rfl ?_
      exact vv_iret (mi := mX10_service) (pc := 38) dX10_service_38 rfl (Nat.le_of_ble_eq_true rfl) (Nat.le_of_ble_eq_true rfl) h
    · replace h := h.2 c8
      refine vv_aload_n (mi := mX10_service) (pc := 28) 1 dX10_service_28 rfl rfl ?_
      refine vv_iload_n (mi := mX10_service) (pc := 29) 4 dX10_service_29 rfl rfl ?_
      obtain ⟨ht9, h⟩ := h
      refine vv_callV (mi := mX10_service) (pc := 30) (rest := []) (As := [.inl a3]) (ctX10_isDayToCome (X := X) h) dX10_service_30 rfl ht9 (Nat.le_of_ble_eq_true rfl) rfl mb_X10_isDayToCome rfl ml_X10_43 im_X10_isDayToCome se_X10_isDayToCome ⟨(Nat.le_of_ble_eq_true rfl), (Nat.le_of_ble_eq_true rfl)⟩ ⟨(Nat.le_of_ble_eq_true rfl), (Nat.le_of_ble_eq_true rfl)⟩ (Nat.le_of_ble_eq_true rfl) rfl (kI_ (F := fun st M' => VV X mX10_service rX10_service (pI_ post) 33 [(4, .inl r1), (0, .inr (.inr (some this))), (1, .inl a1), (2, .inl a2), (3, .inl a3)] st M' 0 0) (fun r10 M11 h => ?_))
      refine vv_if_ne (mi := mX10_service) (pc := 33) 39 dX10_service_33 rfl (fun c12 => ?_) (fun c12 => ?_)
      · replace h := h.1 c12
        refine vv_aload_n (mi := mX10_service) (pc := 39) 1 dX10_service_39 rfl rfl ?_
        obtain ⟨ht13, h⟩ := h
        refine vv_getR (mi := mX10_service) (pc := 40) 10 0 rfl ht13 fl_X10_10 (Nat.le_of_ble_eq_true rfl) dX10_service_40 ?_
        obtain ⟨n14, en14⟩ : ∃ z : Nat, z = ddZ M11 := ⟨_, rfl⟩
        replace h := h _ en14
        obtain ⟨M15, eM15⟩ : ∃ z : Mm, z = suN M11 3 0 := ⟨_, rfl⟩
        replace h := h _ eM15
        refine vv_new (mi := mX10_service) (pc := 43) 2 (r := (RX2, TX2, 18)) rfl (Nat.le_of_ble_eq_true rfl) rfl nw_2 cl_X10_51 it_2 iz_2 (Nat.le_of_ble_eq_true rfl) (Nat.le_of_ble_eq_true rfl) dX10_service_43 en14 eM15 ?_
        refine vv_dup (mi := mX10_service) (pc := 46) dX10_service_46 rfl ?_
        refine vv_iconst (mi := mX10_service) (pc := 47) 1 dX10_service_47 rfl ?_
        refine vv_iload_n (mi := mX10_service) (pc := 48) 3 dX10_service_48 rfl rfl ?_
        refine vv_iload_n (mi := mX10_service) (pc := 49) 2 dX10_service_49 rfl rfl ?_
        refine vv_iconst (mi := mX10_service) (pc := 50) 0 dX10_service_50 rfl ?_
        refine vv_iload (mi := mX10_service) (pc := 51) 0 dX10_service_51 rfl ?_
        refine vv_iload (mi := mX10_service) (pc := 53) 0 dX10_service_53 rfl ?_
        refine vv_iload_n (mi := mX10_service) (pc := 55) 4 dX10_service_55 rfl rfl ?_
        refine vv_callI (mi := mX10_service) (pc := 56) (rest := [.inr (.inr (some n14)), .inr (.inr (ddR M11 this 0))]) (As := [.inl 1, .inl a2, .inl a1, .inl 0, .inl r1, .inl r1, .inl a3]) (ctX2_init (X := X) h) dX10_service_56 rfl rfl rfl mb_X2_init rfl ml_X10_53 im_X2_init ⟨(Nat.le_of_ble_eq_true rfl), (Nat.le_of_ble_eq_true rfl)⟩ ⟨(Nat.le_of_ble_eq_true rfl), (Nat.le_of_ble_eq_true rfl)⟩ (Nat.le_of_ble_eq_true rfl) rfl (kV_ (F := fun st M' => VV X mX10_service rX10_service (pI_ post) 59 [(4, .inl r1), (0, .inr (.inr (some this))), (1, .inl a1), (2, .inl a2), (3, .inl a3)] st M' 2 26) (fun M17 h => ?_))
        obtain ⟨aq18, hs19, h⟩ := h
        obtain ⟨ht20, h⟩ := h
        refine vv_callV (mi := mX10_service) (pc := 59) (rest := []) (As := [.inr (.inr (some n14))]) (ctX6_append (X := X) h) dX10_service_59 hs19 ht20 (Nat.le_of_ble_eq_true rfl) rfl mb_X6_append rfl ml_X10_56 im_X6_append se_X6_append ⟨(Nat.le_of_ble_eq_true rfl), (Nat.le_of_ble_eq_true rfl)⟩ ⟨(Nat.le_of_ble_eq_true rfl), (Nat.le_of_ble_eq_true rfl)⟩ (Nat.le_of_ble_eq_true rfl) rfl (kI_ (F := fun st M' => VV X mX10_service rX10_service (pI_ post) 62 [(4, .inl r1), (0, .inr (.inr (some this))), (1, .inl a1), (2, .inl a2), (3, .inl a3)] st M' 2 26) (fun r21 M22 h => ?_))
        exact vv_iret (mi := mX10_service) (pc := 62) dX10_service_62 rfl (Nat.le_of_ble_eq_true rfl) (Nat.le_of_ble_eq_true rfl) h
      · replace h := h.2 c12
        refine vv_bipush (mi := mX10_service) (pc := 36) (-2) dX10_service_36 rfl ?_
        exact vv_iret (mi := mX10_service) (pc := 38) dX10_service_38 rfl (Nat.le_of_ble_eq_true rfl) (Nat.le_of_ble_eq_true rfl) h
set_option maxHeartbeats 4000000 in
set_option maxRecDepth 100000 in
theorem ctX10_foreign {X : Cx_} {this : Nat} {a1 : Int32} {a2 : Int32} {a3 : Int32} {a4 : Int32} {M : Mm} {post : Int32 → Mm → Prop} (h : PX10_foreign this a1 a2 a3 a4 M post) : CT X mX10_foreign rX10_foreign [.inr (.inr (some this)), .inl a1, .inl a2, .inl a3, .inl a4] M (pI_ post) := by
  unfold PX10_foreign at h
  refine CT.of (by decide +kernel) (Nat.le_of_ble_eq_true rfl) ?_
  show VV X mX10_foreign rX10_foreign (pI_ post) 0 [(0, .inr (.inr (some this))), (1, .inl a1), (2, .inl a2), (3, .inl a3), (4, .inl a4)] [] M 0 0
  refine vv_iload_n (mi := mX10_foreign) (pc := 0) 1 dX10_foreign_0 rfl rfl ?_
  refine vv_i2l (mi := mX10_foreign) (pc := 1) dX10_foreign_1 ?_
  refine vv_callS (mi := mX10_foreign) (pc := 2) (rest := []) (As := [.inr (.inl (Int32.toInt64 a1))]) (ctX10_placesOf (X := X) h) dX10_foreign_2 mb_X10_placesOf rfl ml_X10_60 sc_X10_placesOf ⟨(Nat.le_of_ble_eq_true rfl), (Nat.le_of_ble_eq_true rfl)⟩ ⟨(Nat.le_of_ble_eq_true rfl), (Nat.le_of_ble_eq_true rfl)⟩ (Nat.le_of_ble_eq_true rfl) rfl (kI_ (F := fun st M' => VV X mX10_foreign rX10_foreign (pI_ post) 5 [(0, .inr (.inr (some this))), (1, .inl a1), (2, .inl a2), (3, .inl a3), (4, .inl a4)] st M' 0 0) (fun r1 M2 h => ?_))
  refine vv_istore (mi := mX10_foreign) (pc := 5) [(5, .inl r1), (0, .inr (.inr (some this))), (1, .inl a1), (2, .inl a2), (3, .inl a3), (4, .inl a4)] dX10_foreign_5 (Nat.le_of_ble_eq_true rfl) rfl ?_
  refine vv_iload (mi := mX10_foreign) (pc := 7) 0 dX10_foreign_7 rfl ?_
  refine vv_iconst (mi := mX10_foreign) (pc := 9) 1 dX10_foreign_9 rfl ?_
  refine vv_iconst (mi := mX10_foreign) (pc := 10) 4 dX10_foreign_10 rfl ?_
  refine vv_callS (mi := mX10_foreign) (pc := 11) (rest := []) (As := [.inl r1, .inl 1, .inl 4]) (ctX10_isWithin (X := X) h) dX10_foreign_11 mb_X10_isWithin rfl ml_X10_64 sc_X10_isWithin ⟨(Nat.le_of_ble_eq_true rfl), (Nat.le_of_ble_eq_true rfl)⟩ ⟨(Nat.le_of_ble_eq_true rfl), (Nat.le_of_ble_eq_true rfl)⟩ (Nat.le_of_ble_eq_true rfl) rfl (kI_ (F := fun st M' => VV X mX10_foreign rX10_foreign (pI_ post) 14 [(5, .inl r1), (0, .inr (.inr (some this))), (1, .inl a1), (2, .inl a2), (3, .inl a3), (4, .inl a4)] st M' 0 0) (fun r3 M4 h => ?_))
  refine vv_if_eq (mi := mX10_foreign) (pc := 14) 26 dX10_foreign_14 rfl (fun c5 => ?_) (fun c5 => ?_)
  · replace h := h.1 c5
    refine vv_bipush (mi := mX10_foreign) (pc := 26) (-2) dX10_foreign_26 rfl ?_
    exact vv_iret (mi := mX10_foreign) (pc := 28) dX10_foreign_28 rfl (Nat.le_of_ble_eq_true rfl) (Nat.le_of_ble_eq_true rfl) h
  · replace h := h.2 c5
    refine vv_aload_n (mi := mX10_foreign) (pc := 17) 1 dX10_foreign_17 rfl rfl ?_
    refine vv_iload (mi := mX10_foreign) (pc := 18) 5 dX10_foreign_18 rfl ?_
    obtain ⟨ht6, h⟩ := h
    refine vv_callV (mi := mX10_foreign) (pc := 20) (rest := []) (As := [.inl a4]) (ctX10_isDayToCome (X := X) h) dX10_foreign_20 rfl ht6 (Nat.le_of_ble_eq_true rfl) rfl mb_X10_isDayToCome rfl ml_X10_43 im_X10_isDayToCome se_X10_isDayToCome ⟨(Nat.le_of_ble_eq_true rfl), (Nat.le_of_ble_eq_true rfl)⟩ ⟨(Nat.le_of_ble_eq_true rfl), (Nat.le_of_ble_eq_true rfl)⟩ (Nat.le_of_ble_eq_true rfl) rfl (kI_ (F := fun st M' => VV X mX10_foreign rX10_foreign (pI_ post) 23 [(5, .inl r1), (0, .inr (.inr (some this))), (1, .inl a1), (2, .inl a2), (3, .inl a3), (4, .inl a4)] st M' 0 0) (fun r7 M8 h => ?_))
    refine vv_if_ne (mi := mX10_foreign) (pc := 23) 29 dX10_foreign_23 rfl (fun c9 => ?_) (fun c9 => ?_)
    · replace h := h.1 c9
      refine vv_iload_n (mi := mX10_foreign) (pc := 29) 3 dX10_foreign_29 rfl rfl ?_
      refine vv_iload (mi := mX10_foreign) (pc := 30) 0 dX10_foreign_30 rfl ?_
      refine vv_icmp_le (mi := mX10_foreign) (pc := 32) 46 dX10_foreign_32 rfl (fun c10 => ?_) (fun c10 => ?_)
      · replace h := h.1 c10
        refine vv_bipush (mi := mX10_foreign) (pc := 46) (-2) dX10_foreign_46 rfl ?_
        exact vv_iret (mi := mX10_foreign) (pc := 48) dX10_foreign_48 rfl (Nat.le_of_ble_eq_true rfl) (Nat.le_of_ble_eq_true rfl) h
      · replace h := h.2 c10
        refine vv_iload_n (mi := mX10_foreign) (pc := 35) 4 dX10_foreign_35 rfl rfl ?_
        refine vv_iload_n (mi := mX10_foreign) (pc := 36) 3 dX10_foreign_36 rfl rfl ?_
        refine vv_icmp_lt (mi := mX10_foreign) (pc := 37) 46 dX10_foreign_37 rfl (fun c11 => ?_) (fun c11 => ?_)
        · replace h := h.1 c11
          refine vv_bipush (mi := mX10_foreign) (pc := 46) (-2) dX10_foreign_46 rfl ?_
          exact vv_iret (mi := mX10_foreign) (pc := 48) dX10_foreign_48 rfl (Nat.le_of_ble_eq_true rfl) (Nat.le_of_ble_eq_true rfl) h
        · replace h := h.2 c11
          refine vv_iload_n (mi := mX10_foreign) (pc := 40) 4 dX10_foreign_40 rfl rfl ?_
          refine vv_bipush (mi := mX10_foreign) (pc := 41) 15 dX10_foreign_41 rfl ?_
          refine vv_icmp_le (mi := mX10_foreign) (pc := 43) 49 dX10_foreign_43 rfl (fun c12 => ?_) (fun c12 => ?_)
          · replace h := h.1 c12
            refine vv_aload_n (mi := mX10_foreign) (pc := 49) 1 dX10_foreign_49 rfl rfl ?_
            obtain ⟨ht13, h⟩ := h
            refine vv_getR (mi := mX10_foreign) (pc := 50) 10 0 rfl ht13 fl_X10_10 (Nat.le_of_ble_eq_true rfl) dX10_foreign_50 ?_
            obtain ⟨n14, en14⟩ : ∃ z : Nat, z = ddZ M8 := ⟨_, rfl⟩
            replace h := h _ en14
            obtain ⟨M15, eM15⟩ : ∃ z : Mm, z = suN M8 3 0 := ⟨_, rfl⟩
            replace h := h _ eM15
            refine vv_new (mi := mX10_foreign) (pc := 53) 2 (r := (RX2, TX2, 18)) rfl (Nat.le_of_ble_eq_true rfl) rfl nw_2 cl_X10_51 it_2 iz_2 (Nat.le_of_ble_eq_true rfl) (Nat.le_of_ble_eq_true rfl) dX10_foreign_53 en14 eM15 ?_
            refine vv_dup (mi := mX10_foreign) (pc := 56) dX10_foreign_56 rfl ?_
            refine vv_iconst (mi := mX10_foreign) (pc := 57) 2 dX10_foreign_57 rfl ?_
            refine vv_iconst (mi := mX10_foreign) (pc := 58) (-1) dX10_foreign_58 rfl ?_
            refine vv_iload_n (mi := mX10_foreign) (pc := 59) 2 dX10_foreign_59 rfl rfl ?_
            refine vv_iconst (mi := mX10_foreign) (pc := 60) 0 dX10_foreign_60 rfl ?_
            refine vv_iload_n (mi := mX10_foreign) (pc := 61) 3 dX10_foreign_61 rfl rfl ?_
            refine vv_iload_n (mi := mX10_foreign) (pc := 62) 4 dX10_foreign_62 rfl rfl ?_
            refine vv_iload (mi := mX10_foreign) (pc := 63) 5 dX10_foreign_63 rfl ?_
            refine vv_callI (mi := mX10_foreign) (pc := 65) (rest := [.inr (.inr (some n14)), .inr (.inr (ddR M8 this 0))]) (As := [.inl 2, .inl (-1), .inl a1, .inl 0, .inl a2, .inl a3, .inl a4]) (ctX2_init (X := X) h) dX10_foreign_65 rfl rfl rfl mb_X2_init rfl ml_X10_53 im_X2_init ⟨(Nat.le_of_ble_eq_true rfl), (Nat.le_of_ble_eq_true rfl)⟩ ⟨(Nat.le_of_ble_eq_true rfl), (Nat.le_of_ble_eq_true rfl)⟩ (Nat.le_of_ble_eq_true rfl) rfl (kV_ (F := fun st M' => VV X mX10_foreign rX10_foreign (pI_ post) 68 [(5, .inl r1), (0, .inr (.inr (some this))), (1, .inl a1), (2, .inl a2), (3, .inl a3), (4, .inl a4)] st M' 2 26) (fun M17 h => ?_))
            obtain ⟨aq18, hs19, h⟩ := h
            obtain ⟨ht20, h⟩ := h
            refine vv_callV (mi := mX10_foreign) (pc := 68) (rest := []) (As := [.inr (.inr (some n14))]) (ctX6_append (X := X) h) dX10_foreign_68 hs19 ht20 (Nat.le_of_ble_eq_true rfl) rfl mb_X6_append rfl ml_X10_56 im_X6_append se_X6_append ⟨(Nat.le_of_ble_eq_true rfl), (Nat.le_of_ble_eq_true rfl)⟩ ⟨(Nat.le_of_ble_eq_true rfl), (Nat.le_of_ble_eq_true rfl)⟩ (Nat.le_of_ble_eq_true rfl) rfl (kI_ (F := fun st M' => VV X mX10_foreign rX10_foreign (pI_ post) 71 [(5, .inl r1), (0, .inr (.inr (some this))), (1, .inl a1), (2, .inl a2), (3, .inl a3), (4, .inl a4)] st M' 2 26) (fun r21 M22 h => ?_))
            exact vv_iret (mi := mX10_foreign) (pc := 71) dX10_foreign_71 rfl (Nat.le_of_ble_eq_true rfl) (Nat.le_of_ble_eq_true rfl) h
          · replace h := h.2 c12
            refine vv_bipush (mi := mX10_foreign) (pc := 46) (-2) dX10_foreign_46 rfl ?_
            exact vv_iret (mi := mX10_foreign) (pc := 48) dX10_foreign_48 rfl (Nat.le_of_ble_eq_true rfl) (Nat.le_of_ble_eq_true rfl) h
    · replace h := h.2 c9
      refine vv_bipush (mi := mX10_foreign) (pc := 26) (-2) dX10_foreign_26 rfl ?_
      exact vv_iret (mi := mX10_foreign) (pc := 28) dX10_foreign_28 rfl (Nat.le_of_ble_eq_true rfl) (Nat.le_of_ble_eq_true rfl) h
set_option maxHeartbeats 4000000 in
set_option maxRecDepth 100000 in
theorem ctX10_finish {X : Cx_} {this : Nat} {a1 : Int32} {a2 : Int32} {M : Mm} {post : Int32 → Mm → Prop} (h : PX10_finish this a1 a2 M post) : CT X mX10_finish rX10_finish [.inr (.inr (some this)), .inl a1, .inl a2] M (pI_ post) := by
  unfold PX10_finish at h
  refine CT.of (by decide +kernel) (Nat.le_of_ble_eq_true rfl) ?_
  show VV X mX10_finish rX10_finish (pI_ post) 0 [(0, .inr (.inr (some this))), (1, .inl a1), (2, .inl a2)] [] M 0 0
  refine vv_aload_n (mi := mX10_finish) (pc := 0) 0 dX10_finish_0 rfl rfl ?_
  obtain ⟨ht1, h⟩ := h
  refine vv_getR (mi := mX10_finish) (pc := 1) 10 0 rfl ht1 fl_X10_10 (Nat.le_of_ble_eq_true rfl) dX10_finish_1 ?_
  refine vv_iload_n (mi := mX10_finish) (pc := 4) 1 dX10_finish_4 rfl rfl ?_
  obtain ⟨aq2, hs3, h⟩ := h
  obtain ⟨ht4, h⟩ := h
  refine vv_callV (mi := mX10_finish) (pc := 5) (rest := []) (As := [.inl a1]) (ctX6_entryAt (X := X) h) dX10_finish_5 hs3 ht4 (Nat.le_of_ble_eq_true rfl) rfl mb_X6_entryAt rfl ml_X10_68 im_X6_entryAt se_X6_entryAt ⟨(Nat.le_of_ble_eq_true rfl), (Nat.le_of_ble_eq_true rfl)⟩ ⟨(Nat.le_of_ble_eq_true rfl), (Nat.le_of_ble_eq_true rfl)⟩ (Nat.le_of_ble_eq_true rfl) rfl (kR_ (F := fun st M' => VV X mX10_finish rX10_finish (pI_ post) 8 [(0, .inr (.inr (some this))), (1, .inl a1), (2, .inl a2)] st M' 0 0) (fun r5 M6 h => ?_))
  refine vv_astore_n (mi := mX10_finish) (pc := 8) [(3, .inr (.inr r5)), (0, .inr (.inr (some this))), (1, .inl a1), (2, .inl a2)] dX10_finish_8 rfl (Nat.le_of_ble_eq_true rfl) rfl ?_
  refine vv_aload_n (mi := mX10_finish) (pc := 9) 0 dX10_finish_9 rfl rfl ?_
  refine vv_ifnull (mi := mX10_finish) (pc := 10) 37 dX10_finish_10 rfl (fun c7 => ?_) (fun aq8 c7 => ?_)
  · replace h := h.1 c7
    refine vv_bipush (mi := mX10_finish) (pc := 37) (-2) dX10_finish_37 rfl ?_
    exact vv_iret (mi := mX10_finish) (pc := 39) dX10_finish_39 rfl (Nat.le_of_ble_eq_true rfl) (Nat.le_of_ble_eq_true rfl) h
  · replace h := h.2 aq8 c7
    refine vv_aload_n (mi := mX10_finish) (pc := 13) 0 dX10_finish_13 rfl rfl ?_
    obtain ⟨ht9, h⟩ := h
    refine vv_getI (mi := mX10_finish) (pc := 14) 2 0 c7 ht9 fl_X10_72 (Nat.le_of_ble_eq_true rfl) dX10_finish_14 ?_
    refine vv_iconst (mi := mX10_finish) (pc := 17) 3 dX10_finish_17 rfl ?_
    refine vv_icmp_eq (mi := mX10_finish) (pc := 18) 37 dX10_finish_18 rfl (fun c10 => ?_) (fun c10 => ?_)
    · replace h := h.1 c10
      refine vv_bipush (mi := mX10_finish) (pc := 37) (-2) dX10_finish_37 rfl ?_
      exact vv_iret (mi := mX10_finish) (pc := 39) dX10_finish_39 rfl (Nat.le_of_ble_eq_true rfl) (Nat.le_of_ble_eq_true rfl) h
    · replace h := h.2 c10
      refine vv_aload_n (mi := mX10_finish) (pc := 21) 1 dX10_finish_21 rfl rfl ?_
      refine vv_iload_n (mi := mX10_finish) (pc := 22) 3 dX10_finish_22 rfl rfl ?_
      obtain ⟨ht11, h⟩ := h
      refine vv_callV (mi := mX10_finish) (pc := 23) (rest := []) (As := [.inl a2]) (ctX10_isDayToCome (X := X) h) dX10_finish_23 rfl ht11 (Nat.le_of_ble_eq_true rfl) rfl mb_X10_isDayToCome rfl ml_X10_43 im_X10_isDayToCome se_X10_isDayToCome ⟨(Nat.le_of_ble_eq_true rfl), (Nat.le_of_ble_eq_true rfl)⟩ ⟨(Nat.le_of_ble_eq_true rfl), (Nat.le_of_ble_eq_true rfl)⟩ (Nat.le_of_ble_eq_true rfl) rfl (kI_ (F := fun st M' => VV X mX10_finish rX10_finish (pI_ post) 26 [(3, .inr (.inr r5)), (0, .inr (.inr (some this))), (1, .inl a1), (2, .inl a2)] st M' 0 0) (fun r12 M13 h => ?_))
      refine vv_if_eq (mi := mX10_finish) (pc := 26) 37 dX10_finish_26 rfl (fun c14 => ?_) (fun c14 => ?_)
      · replace h := h.1 c14
        refine vv_bipush (mi := mX10_finish) (pc := 37) (-2) dX10_finish_37 rfl ?_
        exact vv_iret (mi := mX10_finish) (pc := 39) dX10_finish_39 rfl (Nat.le_of_ble_eq_true rfl) (Nat.le_of_ble_eq_true rfl) h
      · replace h := h.2 c14
        refine vv_aload_n (mi := mX10_finish) (pc := 29) 0 dX10_finish_29 rfl rfl ?_
        refine vv_iload_n (mi := mX10_finish) (pc := 30) 3 dX10_finish_30 rfl rfl ?_
        obtain ⟨ht15, h⟩ := h
        refine vv_callV (mi := mX10_finish) (pc := 31) (rest := []) (As := [.inl a2]) (ctX2_isInside (X := X) h) dX10_finish_31 c7 ht15 (Nat.le_of_ble_eq_true rfl) rfl mb_X2_isInside rfl ml_X10_75 im_X2_isInside se_X2_isInside ⟨(Nat.le_of_ble_eq_true rfl), (Nat.le_of_ble_eq_true rfl)⟩ ⟨(Nat.le_of_ble_eq_true rfl), (Nat.le_of_ble_eq_true rfl)⟩ (Nat.le_of_ble_eq_true rfl) rfl (kI_ (F := fun st M' => VV X mX10_finish rX10_finish (pI_ post) 34 [(3, .inr (.inr r5)), (0, .inr (.inr (some this))), (1, .inl a1), (2, .inl a2)] st M' 0 0) (fun r16 M17 h => ?_))
        refine vv_if_ne (mi := mX10_finish) (pc := 34) 40 dX10_finish_34 rfl (fun c18 => ?_) (fun c18 => ?_)
        · replace h := h.1 c18
          refine vv_aload_n (mi := mX10_finish) (pc := 40) 0 dX10_finish_40 rfl rfl ?_
          refine vv_iload_n (mi := mX10_finish) (pc := 41) 3 dX10_finish_41 rfl rfl ?_
          obtain ⟨ht19, h⟩ := h
          obtain ⟨M20, eM20⟩ : ∃ z : Mm, z = suI M17 aq8 10 a2 := ⟨_, rfl⟩
          replace h := h _ eM20
          refine vv_putI (mi := mX10_finish) (pc := 42) 2 10 c7 ht19 fq_X10_78 (fun q => by cases q) rfl (Nat.le_of_ble_eq_true rfl) dX10_finish_42 eM20 ?_
          refine vv_iconst (mi := mX10_finish) (pc := 45) 1 dX10_finish_45 rfl ?_
          exact vv_iret (mi := mX10_finish) (pc := 46) dX10_finish_46 rfl (Nat.le_of_ble_eq_true rfl) (Nat.le_of_ble_eq_true rfl) h
        · replace h := h.2 c18
          refine vv_bipush (mi := mX10_finish) (pc := 37) (-2) dX10_finish_37 rfl ?_
          exact vv_iret (mi := mX10_finish) (pc := 39) dX10_finish_39 rfl (Nat.le_of_ble_eq_true rfl) (Nat.le_of_ble_eq_true rfl) h
set_option maxHeartbeats 4000000 in
set_option maxRecDepth 100000 in
theorem ctX10_canChange {X : Cx_} {this : Nat} {a1 : Option Nat} {a2 : Int32} {a3 : Int32} {M : Mm} {post : Int32 → Mm → Prop} (h : PX10_canChange this a1 a2 a3 M post) : CT X mX10_canChange rX10_canChange [.inr (.inr (some this)), .inr (.inr a1), .inl a2, .inl a3] M (pI_ post) := by
  unfold PX10_canChange at h
  refine CT.of (by decide +kernel) (Nat.le_of_ble_eq_true rfl) ?_
  show VV X mX10_canChange rX10_canChange (pI_ post) 0 [(0, .inr (.inr (some this))), (1, .inr (.inr a1)), (2, .inl a2), (3, .inl a3)] [] M 0 0
  refine vv_aload_n (mi := mX10_canChange) (pc := 0) 1 dX10_canChange_0 rfl rfl ?_
  obtain ⟨aq1, hs2, h⟩ := h
  obtain ⟨ht3, h⟩ := h
  refine vv_getI (mi := mX10_canChange) (pc := 1) 2 12 hs2 ht3 fl_X10_282 (Nat.le_of_ble_eq_true rfl) dX10_canChange_1 ?_
  refine vv_iconst (mi := mX10_canChange) (pc := 4) (-1) dX10_canChange_4 rfl ?_
  refine vv_icmp_ne (mi := mX10_canChange) (pc := 5) 39 dX10_canChange_5 rfl (fun c4 => ?_) (fun c4 => ?_)
  · replace h := h.1 c4
    refine vv_iconst (mi := mX10_canChange) (pc := 39) 0 dX10_canChange_39 rfl ?_
    exact vv_zret (mi := mX10_canChange) (pc := 40) dX10_canChange_40 rfl (Or.inl rfl) (Nat.le_of_ble_eq_true rfl) (Nat.le_of_ble_eq_true rfl) h
  · replace h := h.2 c4
    refine vv_aload_n (mi := mX10_canChange) (pc := 8) 0 dX10_canChange_8 rfl rfl ?_
    refine vv_iload_n (mi := mX10_canChange) (pc := 9) 2 dX10_canChange_9 rfl rfl ?_
    obtain ⟨ht5, h⟩ := h
    refine vv_callV (mi := mX10_canChange) (pc := 10) (rest := []) (As := [.inl a2]) (ctX10_isDayToCome (X := X) h) dX10_canChange_10 rfl ht5 (Nat.le_of_ble_eq_true rfl) rfl mb_X10_isDayToCome rfl ml_X10_43 im_X10_isDayToCome se_X10_isDayToCome ⟨(Nat.le_of_ble_eq_true rfl), (Nat.le_of_ble_eq_true rfl)⟩ ⟨(Nat.le_of_ble_eq_true rfl), (Nat.le_of_ble_eq_true rfl)⟩ (Nat.le_of_ble_eq_true rfl) rfl (kI_ (F := fun st M' => VV X mX10_canChange rX10_canChange (pI_ post) 13 [(0, .inr (.inr (some this))), (1, .inr (.inr a1)), (2, .inl a2), (3, .inl a3)] st M' 0 0) (fun r6 M7 h => ?_))
    refine vv_if_eq (mi := mX10_canChange) (pc := 13) 39 dX10_canChange_13 rfl (fun c8 => ?_) (fun c8 => ?_)
    · replace h := h.1 c8
      refine vv_iconst (mi := mX10_canChange) (pc := 39) 0 dX10_canChange_39 rfl ?_
      exact vv_zret (mi := mX10_canChange) (pc := 40) dX10_canChange_40 rfl (Or.inl rfl) (Nat.le_of_ble_eq_true rfl) (Nat.le_of_ble_eq_true rfl) h
    · replace h := h.2 c8
      refine vv_aload_n (mi := mX10_canChange) (pc := 16) 1 dX10_canChange_16 rfl rfl ?_
      refine vv_iload_n (mi := mX10_canChange) (pc := 17) 2 dX10_canChange_17 rfl rfl ?_
      obtain ⟨ht9, h⟩ := h
      refine vv_callV (mi := mX10_canChange) (pc := 18) (rest := []) (As := [.inl a2]) (ctX2_isInside (X := X) h) dX10_canChange_18 hs2 ht9 (Nat.le_of_ble_eq_true rfl) rfl mb_X2_isInside rfl ml_X10_75 im_X2_isInside se_X2_isInside ⟨(Nat.le_of_ble_eq_true rfl), (Nat.le_of_ble_eq_true rfl)⟩ ⟨(Nat.le_of_ble_eq_true rfl), (Nat.le_of_ble_eq_true rfl)⟩ (Nat.le_of_ble_eq_true rfl) rfl (kI_ (F := fun st M' => VV X mX10_canChange rX10_canChange (pI_ post) 21 [(0, .inr (.inr (some this))), (1, .inr (.inr a1)), (2, .inl a2), (3, .inl a3)] st M' 0 0) (fun r10 M11 h => ?_))
      refine vv_if_eq (mi := mX10_canChange) (pc := 21) 39 dX10_canChange_21 rfl (fun c12 => ?_) (fun c12 => ?_)
      · replace h := h.1 c12
        refine vv_iconst (mi := mX10_canChange) (pc := 39) 0 dX10_canChange_39 rfl ?_
        exact vv_zret (mi := mX10_canChange) (pc := 40) dX10_canChange_40 rfl (Or.inl rfl) (Nat.le_of_ble_eq_true rfl) (Nat.le_of_ble_eq_true rfl) h
      · replace h := h.2 c12
        refine vv_iload_n (mi := mX10_canChange) (pc := 24) 3 dX10_canChange_24 rfl rfl ?_
        refine vv_iconst (mi := mX10_canChange) (pc := 25) 0 dX10_canChange_25 rfl ?_
        refine vv_sipush (mi := mX10_canChange) (pc := 26) 1000 dX10_canChange_26 rfl ?_
        refine vv_callS (mi := mX10_canChange) (pc := 29) (rest := []) (As := [.inl a3, .inl 0, .inl 1000]) (ctX10_isWithin (X := X) h) dX10_canChange_29 mb_X10_isWithin rfl ml_X10_64 sc_X10_isWithin ⟨(Nat.le_of_ble_eq_true rfl), (Nat.le_of_ble_eq_true rfl)⟩ ⟨(Nat.le_of_ble_eq_true rfl), (Nat.le_of_ble_eq_true rfl)⟩ (Nat.le_of_ble_eq_true rfl) rfl (kI_ (F := fun st M' => VV X mX10_canChange rX10_canChange (pI_ post) 32 [(0, .inr (.inr (some this))), (1, .inr (.inr a1)), (2, .inl a2), (3, .inl a3)] st M' 0 0) (fun r13 M14 h => ?_))
        refine vv_if_eq (mi := mX10_canChange) (pc := 32) 39 dX10_canChange_32 rfl (fun c15 => ?_) (fun c15 => ?_)
        · replace h := h.1 c15
          refine vv_iconst (mi := mX10_canChange) (pc := 39) 0 dX10_canChange_39 rfl ?_
          exact vv_zret (mi := mX10_canChange) (pc := 40) dX10_canChange_40 rfl (Or.inl rfl) (Nat.le_of_ble_eq_true rfl) (Nat.le_of_ble_eq_true rfl) h
        · replace h := h.2 c15
          refine vv_iconst (mi := mX10_canChange) (pc := 35) 1 dX10_canChange_35 rfl ?_
          refine vv_goto (mi := mX10_canChange) (pc := 36) 40 dX10_canChange_36 rfl ?_
          exact vv_zret (mi := mX10_canChange) (pc := 40) dX10_canChange_40 rfl (Or.inr rfl) (Nat.le_of_ble_eq_true rfl) (Nat.le_of_ble_eq_true rfl) h
set_option maxHeartbeats 4000000 in
set_option maxRecDepth 100000 in
theorem ctX10_split {X : Cx_} {this : Nat} {a1 : Int32} {a2 : Int32} {a3 : Int32} {a4 : Int32} {a5 : Int32} {a6 : Int32} {M : Mm} {post : Int32 → Mm → Prop} (h : PX10_split this a1 a2 a3 a4 a5 a6 M post) : CT X mX10_split rX10_split [.inr (.inr (some this)), .inl a1, .inl a2, .inl a3, .inl a4, .inl a5, .inl a6] M (pI_ post) := by
  unfold PX10_split at h
  refine CT.of (by decide +kernel) (Nat.le_of_ble_eq_true rfl) ?_
  show VV X mX10_split rX10_split (pI_ post) 0 [(0, .inr (.inr (some this))), (1, .inl a1), (2, .inl a2), (3, .inl a3), (4, .inl a4), (5, .inl a5), (6, .inl a6)] [] M 0 0
  refine vv_aload_n (mi := mX10_split) (pc := 0) 0 dX10_split_0 rfl rfl ?_
  obtain ⟨ht1, h⟩ := h
  refine vv_getR (mi := mX10_split) (pc := 1) 10 0 rfl ht1 fl_X10_10 (Nat.le_of_ble_eq_true rfl) dX10_split_1 ?_
  refine vv_iload_n (mi := mX10_split) (pc := 4) 1 dX10_split_4 rfl rfl ?_
  obtain ⟨aq2, hs3, h⟩ := h
  obtain ⟨ht4, h⟩ := h
  refine vv_callV (mi := mX10_split) (pc := 5) (rest := []) (As := [.inl a1]) (ctX6_blockAt (X := X) h) dX10_split_5 hs3 ht4 (Nat.le_of_ble_eq_true rfl) rfl mb_X6_blockAt rfl ml_X10_81 im_X6_blockAt se_X6_blockAt ⟨(Nat.le_of_ble_eq_true rfl), (Nat.le_of_ble_eq_true rfl)⟩ ⟨(Nat.le_of_ble_eq_true rfl), (Nat.le_of_ble_eq_true rfl)⟩ (Nat.le_of_ble_eq_true rfl) rfl (kR_ (F := fun st M' => VV X mX10_split rX10_split (pI_ post) 8 [(0, .inr (.inr (some this))), (1, .inl a1), (2, .inl a2), (3, .inl a3), (4, .inl a4), (5, .inl a5), (6, .inl a6)] st M' 0 0) (fun r5 M6 h => ?_))
  refine vv_astore (mi := mX10_split) (pc := 8) [(7, .inr (.inr r5)), (0, .inr (.inr (some this))), (1, .inl a1), (2, .inl a2), (3, .inl a3), (4, .inl a4), (5, .inl a5), (6, .inl a6)] dX10_split_8 (Nat.le_of_ble_eq_true rfl) rfl ?_
  refine vv_iload_n (mi := mX10_split) (pc := 10) 4 dX10_split_10 rfl rfl ?_
  refine vv_i2l (mi := mX10_split) (pc := 11) dX10_split_11 ?_
  refine vv_callS (mi := mX10_split) (pc := 12) (rest := []) (As := [.inr (.inl (Int32.toInt64 a3))]) (ctX10_placesOf (X := X) h) dX10_split_12 mb_X10_placesOf rfl ml_X10_60 sc_X10_placesOf ⟨(Nat.le_of_ble_eq_true rfl), (Nat.le_of_ble_eq_true rfl)⟩ ⟨(Nat.le_of_ble_eq_true rfl), (Nat.le_of_ble_eq_true rfl)⟩ (Nat.le_of_ble_eq_true rfl) rfl (kI_ (F := fun st M' => VV X mX10_split rX10_split (pI_ post) 15 [(7, .inr (.inr r5)), (0, .inr (.inr (some this))), (1, .inl a1), (2, .inl a2), (3, .inl a3), (4, .inl a4), (5, .inl a5), (6, .inl a6)] st M' 0 0) (fun r7 M8 h => ?_))
  refine vv_istore (mi := mX10_split) (pc := 15) [(8, .inl r7), (7, .inr (.inr r5)), (0, .inr (.inr (some this))), (1, .inl a1), (2, .inl a2), (3, .inl a3), (4, .inl a4), (5, .inl a5), (6, .inl a6)] dX10_split_15 (Nat.le_of_ble_eq_true rfl) rfl ?_
  refine vv_aload (mi := mX10_split) (pc := 17) 1 dX10_split_17 rfl ?_
  refine vv_ifnull (mi := mX10_split) (pc := 19) 51 dX10_split_19 rfl (fun c9 => ?_) (fun aq10 c9 => ?_)
  · replace h := h.1 c9
    refine vv_bipush (mi := mX10_split) (pc := 51) (-2) dX10_split_51 rfl ?_
    exact vv_iret (mi := mX10_split) (pc := 53) dX10_split_53 rfl (Nat.le_of_ble_eq_true rfl) (Nat.le_of_ble_eq_true rfl) h
  · replace h := h.2 aq10 c9
    refine vv_iload_n (mi := mX10_split) (pc := 22) 4 dX10_split_22 rfl rfl ?_
    refine vv_if_eq (mi := mX10_split) (pc := 23) 51 dX10_split_23 rfl (fun c11 => ?_) (fun c11 => ?_)
    · replace h := h.1 c11
      refine vv_bipush (mi := mX10_split) (pc := 51) (-2) dX10_split_51 rfl ?_
      exact vv_iret (mi := mX10_split) (pc := 53) dX10_split_53 rfl (Nat.le_of_ble_eq_true rfl) (Nat.le_of_ble_eq_true rfl) h
    · replace h := h.2 c11
      refine vv_iload_n (mi := mX10_split) (pc := 26) 4 dX10_split_26 rfl rfl ?_
      refine vv_aload (mi := mX10_split) (pc := 27) 1 dX10_split_27 rfl ?_
      obtain ⟨ht12, h⟩ := h
      refine vv_getI (mi := mX10_split) (pc := 29) 2 4 c9 ht12 fl_X10_84 (Nat.le_of_ble_eq_true rfl) dX10_split_29 ?_
      refine vv_iconst (mi := mX10_split) (pc := 32) (-1) dX10_split_32 rfl ?_
      refine vv_ixor (mi := mX10_split) (pc := 33) dX10_split_33 ?_
      refine vv_iand (mi := mX10_split) (pc := 34) dX10_split_34 ?_
      refine vv_if_ne (mi := mX10_split) (pc := 35) 51 dX10_split_35 rfl (fun c13 => ?_) (fun c13 => ?_)
      · replace h := h.1 c13
        refine vv_bipush (mi := mX10_split) (pc := 51) (-2) dX10_split_51 rfl ?_
        exact vv_iret (mi := mX10_split) (pc := 53) dX10_split_53 rfl (Nat.le_of_ble_eq_true rfl) (Nat.le_of_ble_eq_true rfl) h
      · replace h := h.2 c13
        refine vv_aload_n (mi := mX10_split) (pc := 38) 2 dX10_split_38 rfl rfl ?_
        refine vv_aload (mi := mX10_split) (pc := 39) 1 dX10_split_39 rfl ?_
        refine vv_iload (mi := mX10_split) (pc := 41) 7 dX10_split_41 rfl ?_
        refine vv_iload (mi := mX10_split) (pc := 43) 8 dX10_split_43 rfl ?_
        obtain ⟨ht14, h⟩ := h
        refine vv_callV (mi := mX10_split) (pc := 45) (rest := []) (As := [.inr (.inr r5), .inl a5, .inl a6]) (ctX10_canChange (X := X) h) dX10_split_45 rfl ht14 (Nat.le_of_ble_eq_true rfl) rfl mb_X10_canChange rfl ml_X10_87 im_X10_canChange se_X10_canChange ⟨(Nat.le_of_ble_eq_true rfl), (Nat.le_of_ble_eq_true rfl)⟩ ⟨(Nat.le_of_ble_eq_true rfl), (Nat.le_of_ble_eq_true rfl)⟩ (Nat.le_of_ble_eq_true rfl) rfl (kI_ (F := fun st M' => VV X mX10_split rX10_split (pI_ post) 48 [(8, .inl r7), (7, .inr (.inr r5)), (0, .inr (.inr (some this))), (1, .inl a1), (2, .inl a2), (3, .inl a3), (4, .inl a4), (5, .inl a5), (6, .inl a6)] st M' 0 0) (fun r15 M16 h => ?_))
        refine vv_if_ne (mi := mX10_split) (pc := 48) 54 dX10_split_48 rfl (fun c17 => ?_) (fun c17 => ?_)
        · replace h := h.1 c17
          refine vv_iload (mi := mX10_split) (pc := 54) 0 dX10_split_54 rfl ?_
          refine vv_iconst (mi := mX10_split) (pc := 56) 1 dX10_split_56 rfl ?_
          refine vv_bipush (mi := mX10_split) (pc := 57) 7 dX10_split_57 rfl ?_
          refine vv_callS (mi := mX10_split) (pc := 59) (rest := []) (As := [.inl r7, .inl 1, .inl 7]) (ctX10_isWithin (X := X) h) dX10_split_59 mb_X10_isWithin rfl ml_X10_64 sc_X10_isWithin ⟨(Nat.le_of_ble_eq_true rfl), (Nat.le_of_ble_eq_true rfl)⟩ ⟨(Nat.le_of_ble_eq_true rfl), (Nat.le_of_ble_eq_true rfl)⟩ (Nat.le_of_ble_eq_true rfl) rfl (kI_ (F := fun st M' => VV X mX10_split rX10_split (pI_ post) 62 [(8, .inl r7), (7, .inr (.inr r5)), (0, .inr (.inr (some this))), (1, .inl a1), (2, .inl a2), (3, .inl a3), (4, .inl a4), (5, .inl a5), (6, .inl a6)] st M' 0 0) (fun r18 M19 h => ?_))
          refine vv_if_eq (mi := mX10_split) (pc := 62) 76 dX10_split_62 rfl (fun c20 => ?_) (fun c20 => ?_)
          · replace h := h.1 c20
            refine vv_bipush (mi := mX10_split) (pc := 76) (-2) dX10_split_76 rfl ?_
            exact vv_iret (mi := mX10_split) (pc := 78) dX10_split_78 rfl (Nat.le_of_ble_eq_true rfl) (Nat.le_of_ble_eq_true rfl) h
          · replace h := h.2 c20
            refine vv_iload (mi := mX10_split) (pc := 65) 6 dX10_split_65 rfl ?_
            refine vv_iconst (mi := mX10_split) (pc := 67) 0 dX10_split_67 rfl ?_
            refine vv_bipush (mi := mX10_split) (pc := 68) 15 dX10_split_68 rfl ?_
            refine vv_callS (mi := mX10_split) (pc := 70) (rest := []) (As := [.inl a4, .inl 0, .inl 15]) (ctX10_isWithin (X := X) h) dX10_split_70 mb_X10_isWithin rfl ml_X10_64 sc_X10_isWithin ⟨(Nat.le_of_ble_eq_true rfl), (Nat.le_of_ble_eq_true rfl)⟩ ⟨(Nat.le_of_ble_eq_true rfl), (Nat.le_of_ble_eq_true rfl)⟩ (Nat.le_of_ble_eq_true rfl) rfl (kI_ (F := fun st M' => VV X mX10_split rX10_split (pI_ post) 73 [(8, .inl r7), (7, .inr (.inr r5)), (0, .inr (.inr (some this))), (1, .inl a1), (2, .inl a2), (3, .inl a3), (4, .inl a4), (5, .inl a5), (6, .inl a6)] st M' 0 0) (fun r21 M22 h => ?_))
            refine vv_if_ne (mi := mX10_split) (pc := 73) 79 dX10_split_73 rfl (fun c23 => ?_) (fun c23 => ?_)
            · replace h := h.1 c23
              refine vv_iload (mi := mX10_split) (pc := 79) 0 dX10_split_79 rfl ?_
              refine vv_aload (mi := mX10_split) (pc := 81) 1 dX10_split_81 rfl ?_
              obtain ⟨ht24, h⟩ := h
              refine vv_callV (mi := mX10_split) (pc := 83) (rest := [.inl r7]) (As := []) (ctX2_placesBehind (X := X) h) dX10_split_83 c9 ht24 (Nat.le_of_ble_eq_true rfl) rfl mb_X2_placesBehind rfl ml_X10_91 im_X2_placesBehind se_X2_placesBehind ⟨(Nat.le_of_ble_eq_true rfl), (Nat.le_of_ble_eq_true rfl)⟩ ⟨(Nat.le_of_ble_eq_true rfl), (Nat.le_of_ble_eq_true rfl)⟩ (Nat.le_of_ble_eq_true rfl) rfl (kI_ (F := fun st M' => VV X mX10_split rX10_split (pI_ post) 86 [(8, .inl r7), (7, .inr (.inr r5)), (0, .inr (.inr (some this))), (1, .inl a1), (2, .inl a2), (3, .inl a3), (4, .inl a4), (5, .inl a5), (6, .inl a6)] st M' 0 0) (fun r25 M26 h => ?_))
              refine vv_iadd (mi := mX10_split) (pc := 86) dX10_split_86 ?_
              obtain ⟨v27, ev27⟩ : ∃ z : Int32, z = (r7 + r25) := ⟨_, rfl⟩
              refine vv_namI ev27 ?_
              replace h := h _ ev27
              refine vv_istore (mi := mX10_split) (pc := 87) [(9, .inl v27), (8, .inl r7), (7, .inr (.inr r5)), (0, .inr (.inr (some this))), (1, .inl a1), (2, .inl a2), (3, .inl a3), (4, .inl a4), (5, .inl a5), (6, .inl a6)] dX10_split_87 (Nat.le_of_ble_eq_true rfl) rfl ?_
              refine vv_iload (mi := mX10_split) (pc := 89) 0 dX10_split_89 rfl ?_
              refine vv_bipush (mi := mX10_split) (pc := 91) 12 dX10_split_91 rfl ?_
              refine vv_icmp_le (mi := mX10_split) (pc := 93) 99 dX10_split_93 rfl (fun c28 => ?_) (fun c28 => ?_)
              · replace h := h.1 c28
                refine vv_aload_n (mi := mX10_split) (pc := 99) 3 dX10_split_99 rfl rfl ?_
                obtain ⟨ht29, h⟩ := h
                refine vv_getR (mi := mX10_split) (pc := 100) 10 0 rfl ht29 fl_X10_10 (Nat.le_of_ble_eq_true rfl) dX10_split_100 ?_
                refine vv_aload (mi := mX10_split) (pc := 103) 2 dX10_split_103 rfl ?_
                obtain ⟨n30, en30⟩ : ∃ z : Nat, z = ddZ M26 := ⟨_, rfl⟩
                replace h := h _ en30
                obtain ⟨M31, eM31⟩ : ∃ z : Mm, z = suN M26 3 0 := ⟨_, rfl⟩
                replace h := h _ eM31
                refine vv_new (mi := mX10_split) (pc := 105) 2 (r := (RX2, TX2, 18)) rfl (Nat.le_of_ble_eq_true rfl) rfl nw_2 cl_X10_51 it_2 iz_2 (Nat.le_of_ble_eq_true rfl) (Nat.le_of_ble_eq_true rfl) dX10_split_105 en30 eM31 ?_
                refine vv_dup (mi := mX10_split) (pc := 108) dX10_split_108 rfl ?_
                refine vv_iconst (mi := mX10_split) (pc := 109) 0 dX10_split_109 rfl ?_
                refine vv_iload (mi := mX10_split) (pc := 110) 7 dX10_split_110 rfl ?_
                refine vv_iload_n (mi := mX10_split) (pc := 112) 6 dX10_split_112 rfl rfl ?_
                refine vv_iload_n (mi := mX10_split) (pc := 113) 5 dX10_split_113 rfl rfl ?_
                refine vv_iload (mi := mX10_split) (pc := 114) 0 dX10_split_114 rfl ?_
                refine vv_iload (mi := mX10_split) (pc := 116) 0 dX10_split_116 rfl ?_
                refine vv_iload (mi := mX10_split) (pc := 118) 8 dX10_split_118 rfl ?_
                refine vv_callI (mi := mX10_split) (pc := 120) (rest := [.inr (.inr (some n30)), .inr (.inr r5), .inr (.inr (ddR M26 this 0))]) (As := [.inl 0, .inl a4, .inl a3, .inl a2, .inl v27, .inl v27, .inl a5]) (ctX2_init (X := X) h) dX10_split_120 rfl rfl rfl mb_X2_init rfl ml_X10_53 im_X2_init ⟨(Nat.le_of_ble_eq_true rfl), (Nat.le_of_ble_eq_true rfl)⟩ ⟨(Nat.le_of_ble_eq_true rfl), (Nat.le_of_ble_eq_true rfl)⟩ (Nat.le_of_ble_eq_true rfl) rfl (kV_ (F := fun st M' => VV X mX10_split rX10_split (pI_ post) 123 [(9, .inl v27), (8, .inl r7), (7, .inr (.inr r5)), (0, .inr (.inr (some this))), (1, .inl a1), (2, .inl a2), (3, .inl a3), (4, .inl a4), (5, .inl a5), (6, .inl a6)] st M' 2 26) (fun M33 h => ?_))
                refine vv_iload (mi := mX10_split) (pc := 123) 9 dX10_split_123 rfl ?_
                obtain ⟨aq34, hs35, h⟩ := h
                obtain ⟨ht36, h⟩ := h
                refine vv_callV (mi := mX10_split) (pc := 125) (rest := []) (As := [.inr (.inr r5), .inr (.inr (some n30)), .inl a6]) (ctX6_change (X := X) h) dX10_split_125 hs35 ht36 (Nat.le_of_ble_eq_true rfl) rfl mb_X6_change rfl ml_X10_95 im_X6_change se_X6_change ⟨(Nat.le_of_ble_eq_true rfl), (Nat.le_of_ble_eq_true rfl)⟩ ⟨(Nat.le_of_ble_eq_true rfl), (Nat.le_of_ble_eq_true rfl)⟩ (Nat.le_of_ble_eq_true rfl) rfl (kI_ (F := fun st M' => VV X mX10_split rX10_split (pI_ post) 128 [(9, .inl v27), (8, .inl r7), (7, .inr (.inr r5)), (0, .inr (.inr (some this))), (1, .inl a1), (2, .inl a2), (3, .inl a3), (4, .inl a4), (5, .inl a5), (6, .inl a6)] st M' 6 78) (fun r37 M38 h => ?_))
                exact vv_iret (mi := mX10_split) (pc := 128) dX10_split_128 rfl (Nat.le_of_ble_eq_true rfl) (Nat.le_of_ble_eq_true rfl) h
              · replace h := h.2 c28
                refine vv_bipush (mi := mX10_split) (pc := 96) (-2) dX10_split_96 rfl ?_
                exact vv_iret (mi := mX10_split) (pc := 98) dX10_split_98 rfl (Nat.le_of_ble_eq_true rfl) (Nat.le_of_ble_eq_true rfl) h
            · replace h := h.2 c23
              refine vv_bipush (mi := mX10_split) (pc := 76) (-2) dX10_split_76 rfl ?_
              exact vv_iret (mi := mX10_split) (pc := 78) dX10_split_78 rfl (Nat.le_of_ble_eq_true rfl) (Nat.le_of_ble_eq_true rfl) h
        · replace h := h.2 c17
          refine vv_bipush (mi := mX10_split) (pc := 51) (-2) dX10_split_51 rfl ?_
          exact vv_iret (mi := mX10_split) (pc := 53) dX10_split_53 rfl (Nat.le_of_ble_eq_true rfl) (Nat.le_of_ble_eq_true rfl) h
set_option maxHeartbeats 4000000 in
set_option maxRecDepth 100000 in
theorem ctX10_lengthen {X : Cx_} {this : Nat} {a1 : Int32} {a2 : Int32} {a3 : Int32} {a4 : Int32} {M : Mm} {post : Int32 → Mm → Prop} (h : PX10_lengthen this a1 a2 a3 a4 M post) : CT X mX10_lengthen rX10_lengthen [.inr (.inr (some this)), .inl a1, .inl a2, .inl a3, .inl a4] M (pI_ post) := by
  unfold PX10_lengthen at h
  refine CT.of (by decide +kernel) (Nat.le_of_ble_eq_true rfl) ?_
  show VV X mX10_lengthen rX10_lengthen (pI_ post) 0 [(0, .inr (.inr (some this))), (1, .inl a1), (2, .inl a2), (3, .inl a3), (4, .inl a4)] [] M 0 0
  refine vv_aload_n (mi := mX10_lengthen) (pc := 0) 0 dX10_lengthen_0 rfl rfl ?_
  obtain ⟨ht1, h⟩ := h
  refine vv_getR (mi := mX10_lengthen) (pc := 1) 10 0 rfl ht1 fl_X10_10 (Nat.le_of_ble_eq_true rfl) dX10_lengthen_1 ?_
  refine vv_iload_n (mi := mX10_lengthen) (pc := 4) 1 dX10_lengthen_4 rfl rfl ?_
  obtain ⟨aq2, hs3, h⟩ := h
  obtain ⟨ht4, h⟩ := h
  refine vv_callV (mi := mX10_lengthen) (pc := 5) (rest := []) (As := [.inl a1]) (ctX6_blockAt (X := X) h) dX10_lengthen_5 hs3 ht4 (Nat.le_of_ble_eq_true rfl) rfl mb_X6_blockAt rfl ml_X10_81 im_X6_blockAt se_X6_blockAt ⟨(Nat.le_of_ble_eq_true rfl), (Nat.le_of_ble_eq_true rfl)⟩ ⟨(Nat.le_of_ble_eq_true rfl), (Nat.le_of_ble_eq_true rfl)⟩ (Nat.le_of_ble_eq_true rfl) rfl (kR_ (F := fun st M' => VV X mX10_lengthen rX10_lengthen (pI_ post) 8 [(0, .inr (.inr (some this))), (1, .inl a1), (2, .inl a2), (3, .inl a3), (4, .inl a4)] st M' 0 0) (fun r5 M6 h => ?_))
  refine vv_astore (mi := mX10_lengthen) (pc := 8) [(5, .inr (.inr r5)), (0, .inr (.inr (some this))), (1, .inl a1), (2, .inl a2), (3, .inl a3), (4, .inl a4)] dX10_lengthen_8 (Nat.le_of_ble_eq_true rfl) rfl ?_
  refine vv_aload (mi := mX10_lengthen) (pc := 10) 0 dX10_lengthen_10 rfl ?_
  refine vv_ifnull (mi := mX10_lengthen) (pc := 12) 37 dX10_lengthen_12 rfl (fun c7 => ?_) (fun aq8 c7 => ?_)
  · replace h := h.1 c7
    refine vv_bipush (mi := mX10_lengthen) (pc := 37) (-2) dX10_lengthen_37 rfl ?_
    exact vv_iret (mi := mX10_lengthen) (pc := 39) dX10_lengthen_39 rfl (Nat.le_of_ble_eq_true rfl) (Nat.le_of_ble_eq_true rfl) h
  · replace h := h.2 aq8 c7
    refine vv_iload_n (mi := mX10_lengthen) (pc := 15) 3 dX10_lengthen_15 rfl rfl ?_
    refine vv_iconst (mi := mX10_lengthen) (pc := 16) 0 dX10_lengthen_16 rfl ?_
    refine vv_bipush (mi := mX10_lengthen) (pc := 17) 9 dX10_lengthen_17 rfl ?_
    refine vv_callS (mi := mX10_lengthen) (pc := 19) (rest := []) (As := [.inl a2, .inl 0, .inl 9]) (ctX10_isWithin (X := X) h) dX10_lengthen_19 mb_X10_isWithin rfl ml_X10_64 sc_X10_isWithin ⟨(Nat.le_of_ble_eq_true rfl), (Nat.le_of_ble_eq_true rfl)⟩ ⟨(Nat.le_of_ble_eq_true rfl), (Nat.le_of_ble_eq_true rfl)⟩ (Nat.le_of_ble_eq_true rfl) rfl (kI_ (F := fun st M' => VV X mX10_lengthen rX10_lengthen (pI_ post) 22 [(5, .inr (.inr r5)), (0, .inr (.inr (some this))), (1, .inl a1), (2, .inl a2), (3, .inl a3), (4, .inl a4)] st M' 0 0) (fun r9 M10 h => ?_))
    refine vv_if_eq (mi := mX10_lengthen) (pc := 22) 37 dX10_lengthen_22 rfl (fun c11 => ?_) (fun c11 => ?_)
    · replace h := h.1 c11
      refine vv_bipush (mi := mX10_lengthen) (pc := 37) (-2) dX10_lengthen_37 rfl ?_
      exact vv_iret (mi := mX10_lengthen) (pc := 39) dX10_lengthen_39 rfl (Nat.le_of_ble_eq_true rfl) (Nat.le_of_ble_eq_true rfl) h
    · replace h := h.2 c11
      refine vv_aload_n (mi := mX10_lengthen) (pc := 25) 1 dX10_lengthen_25 rfl rfl ?_
      refine vv_aload (mi := mX10_lengthen) (pc := 26) 0 dX10_lengthen_26 rfl ?_
      refine vv_iload_n (mi := mX10_lengthen) (pc := 28) 4 dX10_lengthen_28 rfl rfl ?_
      refine vv_iload (mi := mX10_lengthen) (pc := 29) 5 dX10_lengthen_29 rfl ?_
      obtain ⟨ht12, h⟩ := h
      refine vv_callV (mi := mX10_lengthen) (pc := 31) (rest := []) (As := [.inr (.inr r5), .inl a3, .inl a4]) (ctX10_canChange (X := X) h) dX10_lengthen_31 rfl ht12 (Nat.le_of_ble_eq_true rfl) rfl mb_X10_canChange rfl ml_X10_87 im_X10_canChange se_X10_canChange ⟨(Nat.le_of_ble_eq_true rfl), (Nat.le_of_ble_eq_true rfl)⟩ ⟨(Nat.le_of_ble_eq_true rfl), (Nat.le_of_ble_eq_true rfl)⟩ (Nat.le_of_ble_eq_true rfl) rfl (kI_ (F := fun st M' => VV X mX10_lengthen rX10_lengthen (pI_ post) 34 [(5, .inr (.inr r5)), (0, .inr (.inr (some this))), (1, .inl a1), (2, .inl a2), (3, .inl a3), (4, .inl a4)] st M' 0 0) (fun r13 M14 h => ?_))
      refine vv_if_ne (mi := mX10_lengthen) (pc := 34) 40 dX10_lengthen_34 rfl (fun c15 => ?_) (fun c15 => ?_)
      · replace h := h.1 c15
        refine vv_aload (mi := mX10_lengthen) (pc := 40) 0 dX10_lengthen_40 rfl ?_
        obtain ⟨ht16, h⟩ := h
        refine vv_getI (mi := mX10_lengthen) (pc := 42) 2 5 c7 ht16 fl_X10_99 (Nat.le_of_ble_eq_true rfl) dX10_lengthen_42 ?_
        refine vv_iconst (mi := mX10_lengthen) (pc := 45) 1 dX10_lengthen_45 rfl ?_
        refine vv_iadd (mi := mX10_lengthen) (pc := 46) dX10_lengthen_46 ?_
        obtain ⟨v17, ev17⟩ : ∃ z : Int32, z = ((ddI M14 aq8 5) + 1) := ⟨_, rfl⟩
        refine vv_namI ev17 ?_
        replace h := h _ ev17
        refine vv_istore (mi := mX10_lengthen) (pc := 47) [(6, .inl v17), (5, .inr (.inr r5)), (0, .inr (.inr (some this))), (1, .inl a1), (2, .inl a2), (3, .inl a3), (4, .inl a4)] dX10_lengthen_47 (Nat.le_of_ble_eq_true rfl) rfl ?_
        refine vv_aload (mi := mX10_lengthen) (pc := 49) 1 dX10_lengthen_49 rfl ?_
        refine vv_getI (mi := mX10_lengthen) (pc := 51) 2 3 c7 ht16 fl_X10_102 (Nat.le_of_ble_eq_true rfl) dX10_lengthen_51 ?_
        refine vv_iconst (mi := mX10_lengthen) (pc := 54) 1 dX10_lengthen_54 rfl ?_
        refine vv_iadd (mi := mX10_lengthen) (pc := 55) dX10_lengthen_55 ?_
        refine vv_bipush (mi := mX10_lengthen) (pc := 56) 7 dX10_lengthen_56 rfl ?_
        refine vv_icmp_gt (mi := mX10_lengthen) (pc := 58) 68 dX10_lengthen_58 rfl (fun c18 => ?_) (fun c18 => ?_)
        · replace h := h.1 c18
          refine vv_bipush (mi := mX10_lengthen) (pc := 68) (-2) dX10_lengthen_68 rfl ?_
          exact vv_iret (mi := mX10_lengthen) (pc := 70) dX10_lengthen_70 rfl (Nat.le_of_ble_eq_true rfl) (Nat.le_of_ble_eq_true rfl) h
        · replace h := h.2 c18
          refine vv_iload (mi := mX10_lengthen) (pc := 61) 0 dX10_lengthen_61 rfl ?_
          refine vv_bipush (mi := mX10_lengthen) (pc := 63) 12 dX10_lengthen_63 rfl ?_
          refine vv_icmp_le (mi := mX10_lengthen) (pc := 65) 71 dX10_lengthen_65 rfl (fun c19 => ?_) (fun c19 => ?_)
          · replace h := h.1 c19
            refine vv_aload (mi := mX10_lengthen) (pc := 71) 1 dX10_lengthen_71 rfl ?_
            refine vv_getI (mi := mX10_lengthen) (pc := 73) 2 2 c7 ht16 fl_X10_105 (Nat.le_of_ble_eq_true rfl) dX10_lengthen_73 ?_
            refine vv_bipush (mi := mX10_lengthen) (pc := 76) 10 dX10_lengthen_76 rfl ?_
            refine vv_imul (mi := mX10_lengthen) (pc := 78) dX10_lengthen_78 ?_
            refine vv_iload_n (mi := mX10_lengthen) (pc := 79) 4 dX10_lengthen_79 rfl rfl ?_
            refine vv_iadd (mi := mX10_lengthen) (pc := 80) dX10_lengthen_80 ?_
            obtain ⟨v20, ev20⟩ : ∃ z : Int32, z = (((ddI M14 aq8 2) * 10) + a2) := ⟨_, rfl⟩
            refine vv_namI ev20 ?_
            replace h := h _ ev20
            refine vv_istore (mi := mX10_lengthen) (pc := 81) [(7, .inl v20), (6, .inl v17), (5, .inr (.inr r5)), (0, .inr (.inr (some this))), (1, .inl a1), (2, .inl a2), (3, .inl a3), (4, .inl a4)] dX10_lengthen_81 (Nat.le_of_ble_eq_true rfl) rfl ?_
            refine vv_aload_n (mi := mX10_lengthen) (pc := 83) 3 dX10_lengthen_83 rfl rfl ?_
            obtain ⟨ht21, h⟩ := h
            refine vv_getR (mi := mX10_lengthen) (pc := 84) 10 0 rfl ht21 fl_X10_10 (Nat.le_of_ble_eq_true rfl) dX10_lengthen_84 ?_
            refine vv_aload (mi := mX10_lengthen) (pc := 87) 2 dX10_lengthen_87 rfl ?_
            obtain ⟨n22, en22⟩ : ∃ z : Nat, z = ddZ M14 := ⟨_, rfl⟩
            replace h := h _ en22
            obtain ⟨M23, eM23⟩ : ∃ z : Mm, z = suN M14 3 0 := ⟨_, rfl⟩
            replace h := h _ eM23
            refine vv_new (mi := mX10_lengthen) (pc := 89) 2 (r := (RX2, TX2, 18)) rfl (Nat.le_of_ble_eq_true rfl) rfl nw_2 cl_X10_51 it_2 iz_2 (Nat.le_of_ble_eq_true rfl) (Nat.le_of_ble_eq_true rfl) dX10_lengthen_89 en22 eM23 ?_
            refine vv_dup (mi := mX10_lengthen) (pc := 92) dX10_lengthen_92 rfl ?_
            refine vv_iconst (mi := mX10_lengthen) (pc := 93) 0 dX10_lengthen_93 rfl ?_
            refine vv_aload (mi := mX10_lengthen) (pc := 94) 2 dX10_lengthen_94 rfl ?_
            obtain ⟨ht24, h⟩ := h
            refine vv_getI (mi := mX10_lengthen) (pc := 96) 2 1 c7 ht24 fl_X10_108 (Nat.le_of_ble_eq_true rfl) dX10_lengthen_96 ?_
            refine vv_iload (mi := mX10_lengthen) (pc := 99) 0 dX10_lengthen_99 rfl ?_
            refine vv_aload (mi := mX10_lengthen) (pc := 101) 2 dX10_lengthen_101 rfl ?_
            refine vv_getI (mi := mX10_lengthen) (pc := 103) 2 4 c7 ht24 fl_X10_84 (Nat.le_of_ble_eq_true rfl) dX10_lengthen_103 ?_
            refine vv_iload (mi := mX10_lengthen) (pc := 106) 1 dX10_lengthen_106 rfl ?_
            refine vv_iload (mi := mX10_lengthen) (pc := 108) 1 dX10_lengthen_108 rfl ?_
            refine vv_iload_n (mi := mX10_lengthen) (pc := 110) 6 dX10_lengthen_110 rfl rfl ?_
            refine vv_callI (mi := mX10_lengthen) (pc := 111) (rest := [.inr (.inr (some n22)), .inr (.inr r5), .inr (.inr (ddR M14 this 0))]) (As := [.inl 0, .inl (ddI M23 aq8 1), .inl v20, .inl (ddI M23 aq8 4), .inl v17, .inl v17, .inl a3]) (ctX2_init (X := X) h) dX10_lengthen_111 rfl rfl rfl mb_X2_init rfl ml_X10_53 im_X2_init ⟨(Nat.le_of_ble_eq_true rfl), (Nat.le_of_ble_eq_true rfl)⟩ ⟨(Nat.le_of_ble_eq_true rfl), (Nat.le_of_ble_eq_true rfl)⟩ (Nat.le_of_ble_eq_true rfl) rfl (kV_ (F := fun st M' => VV X mX10_lengthen rX10_lengthen (pI_ post) 114 [(7, .inl v20), (6, .inl v17), (5, .inr (.inr r5)), (0, .inr (.inr (some this))), (1, .inl a1), (2, .inl a2), (3, .inl a3), (4, .inl a4)] st M' 2 26) (fun M26 h => ?_))
            refine vv_iload (mi := mX10_lengthen) (pc := 114) 7 dX10_lengthen_114 rfl ?_
            obtain ⟨aq27, hs28, h⟩ := h
            obtain ⟨ht29, h⟩ := h
            refine vv_callV (mi := mX10_lengthen) (pc := 116) (rest := []) (As := [.inr (.inr r5), .inr (.inr (some n22)), .inl a4]) (ctX6_change (X := X) h) dX10_lengthen_116 hs28 ht29 (Nat.le_of_ble_eq_true rfl) rfl mb_X6_change rfl ml_X10_95 im_X6_change se_X6_change ⟨(Nat.le_of_ble_eq_true rfl), (Nat.le_of_ble_eq_true rfl)⟩ ⟨(Nat.le_of_ble_eq_true rfl), (Nat.le_of_ble_eq_true rfl)⟩ (Nat.le_of_ble_eq_true rfl) rfl (kI_ (F := fun st M' => VV X mX10_lengthen rX10_lengthen (pI_ post) 119 [(7, .inl v20), (6, .inl v17), (5, .inr (.inr r5)), (0, .inr (.inr (some this))), (1, .inl a1), (2, .inl a2), (3, .inl a3), (4, .inl a4)] st M' 6 78) (fun r30 M31 h => ?_))
            exact vv_iret (mi := mX10_lengthen) (pc := 119) dX10_lengthen_119 rfl (Nat.le_of_ble_eq_true rfl) (Nat.le_of_ble_eq_true rfl) h
          · replace h := h.2 c19
            refine vv_bipush (mi := mX10_lengthen) (pc := 68) (-2) dX10_lengthen_68 rfl ?_
            exact vv_iret (mi := mX10_lengthen) (pc := 70) dX10_lengthen_70 rfl (Nat.le_of_ble_eq_true rfl) (Nat.le_of_ble_eq_true rfl) h
      · replace h := h.2 c15
        refine vv_bipush (mi := mX10_lengthen) (pc := 37) (-2) dX10_lengthen_37 rfl ?_
        exact vv_iret (mi := mX10_lengthen) (pc := 39) dX10_lengthen_39 rfl (Nat.le_of_ble_eq_true rfl) (Nat.le_of_ble_eq_true rfl) h
