theorem te_lN (j : Nat) : te_ j = lN (10 ^ j) := rfl
theorem p10_63 : ∀ j, j < 17 → 10 ^ j < 2 ^ 63 := by decide +kernel
theorem p10_31 : ∀ j, j < 10 → 10 ^ j < 2 ^ 30 := by decide +kernel
theorem sh1_ : ∀ d, d < 31 → (1 : Int32) <<< (nI d &&& 31) = nI (2 ^ d) := by decide +kernel
theorem lRem10 {w : Nat} (hw : w < 2 ^ 63) : Int64.toInt32 (lN w - lN w / 10 * 10) = nI (w % 10) := by
  have e : (lN w - lN w / 10 * 10 : Int64) = lN (w % 10) := pk_lRem hw (by decide) (by decide)
  rw [e, lN_i]
theorem sp_withoutLast {w j : Nat} {M : Mm} {post : Int64 → Mm → Prop} (hw : w < 2 ^ 63) (hj : j < 17) (h : post (lN (w / 10 ^ j)) M) : PX10_withoutLast (lN w) (nI j) M post := by
  unfold PX10_withoutLast
  rw [nI_cl (by omega)]
  refine ⟨fun c => ?_, fun c => ⟨fun c1 => ⟨nI_in2 hj (by decide), fun v hv => ⟨fun c2 => ?_, fun c2 => ⟨?_, ?_⟩⟩⟩, fun c1 => ?_⟩⟩
  · rw [xi_le, nI_T (by omega)] at c
    have c : (j : Int) ≤ 0 := c
    have e : j = 0 := by omega
    subst e
    simpa using h
  · exfalso
    rw [xl_le, hv, (te_T j hj).1] at c2
    have h3 : (1 : Int) ≤ 10 ^ j := Int.pow_pos (by decide)
    have c2 : (10 : Int) ^ j ≤ 0 := c2
    omega
  · intro z
    rw [hv] at z
    have z2 := congrArg Int64.toInt z
    rw [(te_T j hj).1] at z2
    have h3 : (1 : Int) ≤ 10 ^ j := Int.pow_pos (by decide)
    have z2 : (10 : Int) ^ j = 0 := z2
    omega
  · rw [hv, te_lN, pk_lDiv hw (Nat.pow_pos (by decide)) (p10_63 j hj)]
    exact h
  · exfalso
    apply c1
    rw [xi_lt, nI_T (by omega)]
    show (j : Int) < 17
    omega
theorem sp_figureBit {w p i : Nat} {M : Mm} {post : Int32 → Mm → Prop} (hw : w < 2 ^ 63) (hp : p ≤ 17) (hi : i < p) (h : post (nI (2 ^ (w / 10 ^ (p - 1 - i) % 10))) M) : PX10_figureBit (lN w) (nI p) (nI i) M post := by
  unfold PX10_figureBit
  have e : nI p - 1 - nI i = nI (p - 1 - i) := by
    have e1 : nI p - 1 = nI (p - 1) := pk_sub (b := 1) (by omega)
    rw [e1, pk_sub (by omega)]
  rw [e]
  refine sp_withoutLast hw (by omega) ?_
  have hq : w / 10 ^ (p - 1 - i) < 2 ^ 63 := Nat.lt_of_le_of_lt (Nat.div_le_self _ _) hw
  show post (1 <<< ((Int64.toInt32 (lN (w / 10 ^ (p - 1 - i)) - lN (w / 10 ^ (p - 1 - i)) / 10 * 10)) &&& 31)) M
  rw [lRem10 hq, sh1_ _ (by omega)]
  exact h
theorem sp_tens {j : Nat} {M : Mm} {post : Int64 → Mm → Prop} (hj : j < 17) (h : post (lN (10 ^ j)) M) : PX10_tens (nI j) M post := by
  unfold PX10_tens
  rw [nI_cl (by omega)]
  refine ⟨fun c => ?_, fun c => ⟨fun c1 => ?_, fun c1 => ⟨nI_in2 hj (by decide), h⟩⟩⟩
  · exfalso
    rw [xi_lt, nI_T (by omega)] at c
    have c : (j : Int) < 0 := c
    omega
  · exfalso
    rw [xi_le, nI_T (by omega)] at c1
    have c1 : (17 : Int) ≤ j := c1
    omega
theorem sp_lastOf {w j : Nat} {M : Mm} {post : Int64 → Mm → Prop} (hw : w < 2 ^ 63) (hj : j < 17) (h : post (lN (10 ^ j + w % 10 ^ j)) M) : PX10_lastOf (lN w) (nI j) M post := by
  unfold PX10_lastOf
  refine sp_tens hj ?_
  have h3 : 0 < 10 ^ j := Nat.pow_pos (by decide)
  have e63 := p10_63 j hj
  have eT : (lN (10 ^ j)).toInt = ((10 ^ j : Nat) : Int) := pk_lT e63
  refine ⟨fun c => ?_, fun c => ⟨?_, ?_⟩⟩
  · exfalso
    rw [xl_le, eT] at c
    have c : ((10 ^ j : Nat) : Int) ≤ 0 := c
    omega
  · intro z
    have z2 := congrArg Int64.toInt z
    rw [eT] at z2
    have z2 : ((10 ^ j : Nat) : Int) = 0 := z2
    omega
  · show post (lN (10 ^ j) + (lN w - lN w / lN (10 ^ j) * lN (10 ^ j))) M
    rw [pk_lRem hw h3 e63, lN_add]
    exact h
theorem sp_figureAt_lp {M : Mm} {post : Int32 → Mm → Prop} {i : Nat} : ∀ (fu d w : Nat), w < 2 ^ 63 → d < fu → i + d < 2 ^ 30 → post (nI (w / 10 ^ d % 10)) M → DX11_figureAt_10 post fu (nI i) (lN w) (nI (i + d)) M := by
  intro fu
  induction fu with
  | zero => intro d w _ h; omega
  | succ fu ih =>
    intro d w hw hd hb h
    show BX11_figureAt_10 (DX11_figureAt_10 post fu) post (nI i) (lN w) (nI (i + d)) M
    unfold BX11_figureAt_10
    refine ⟨fun c => ?_, fun c v hv => ?_⟩
    · rw [nI_leI (by omega) (by omega)] at c
      have e : d = 0 := by omega
      subst e
      rw [lRem10 hw]
      simpa using h
    · rw [nI_leI (by omega) (by omega)] at c
      obtain ⟨d', rfl⟩ : ∃ d', d = d' + 1 := ⟨d - 1, by omega⟩
      have e1 : nI (i + (d' + 1)) + -1 = nI (i + d') := pk_m1 (i + d')
      have e2 : (lN w : Int64) / 10 = lN (w / 10) := pk_lDiv hw (by decide) (by decide)
      rw [hv, e1, e2]
      refine ih d' (w / 10) (by omega) (by omega) (by omega) ?_
      rw [Nat.div_div_eq_div_mul, ← Nat.pow_succ']
      exact h
theorem sp_figureAt {w p i : Nat} {M : Mm} {post : Int32 → Mm → Prop} (hw : w < 2 ^ 63) (hF : isF w p) (hp : p < 1000) (hi : i < p) (h : post (nI (w / 10 ^ (p - 1 - i) % 10)) M) : PX11_figureAt (lN w) (nI i) M post := by
  unfold PX11_figureAt
  have eT : (lN w).toInt = (w : Int) := pk_lT hw
  refine sp_figuresOf (fun q hq hF2 => ?_) (fun hno => ?_)
  · rw [eT] at hF2
    have e := isF_one hF hF2
    subst e
    intro v hv
    have e1 : nI p - 1 = nI (i + (p - 1 - i)) := by
      rw [show (1 : Int32) = nI 1 from rfl, pk_sub (by omega)]
      congr 1
      omega
    rw [hv, e1]
    exact ⟨p - 1 - i + 1, sp_figureAt_lp _ _ w hw (by omega) (by omega) h⟩
  · rw [eT] at hno
    exact absurd hF (hno p)
