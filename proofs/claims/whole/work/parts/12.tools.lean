/-! PURE TOOLS -/
theorem gT_I {M : Mm} {a k : Nat} {v : Int32} : ddT (suI M a k v) = ddT M := rfl
theorem gT_L {M : Mm} {a k : Nat} {v : Int64} : ddT (suL M a k v) = ddT M := rfl
theorem gT_R {M : Mm} {a k : Nat} {v : Option Nat} : ddT (suR M a k v) = ddT M := rfl
theorem gN_I {M : Mm} {a k : Nat} {v : Int32} : ddN (suI M a k v) = ddN M := rfl
theorem gN_L {M : Mm} {a k : Nat} {v : Int64} : ddN (suL M a k v) = ddN M := rfl
theorem gN_R {M : Mm} {a k : Nat} {v : Option Nat} : ddN (suR M a k v) = ddN M := rfl
theorem gZ_I {M : Mm} {a k : Nat} {v : Int32} : ddZ (suI M a k v) = ddZ M := rfl
theorem gZ_L {M : Mm} {a k : Nat} {v : Int64} : ddZ (suL M a k v) = ddZ M := rfl
theorem gZ_R {M : Mm} {a k : Nat} {v : Option Nat} : ddZ (suR M a k v) = ddZ M := rfl
theorem gI_L {M : Mm} {a k : Nat} {v : Int64} : ddI (suL M a k v) = ddI M := rfl
theorem gI_R {M : Mm} {a k : Nat} {v : Option Nat} : ddI (suR M a k v) = ddI M := rfl
theorem gL_I {M : Mm} {a k : Nat} {v : Int32} : ddL (suI M a k v) = ddL M := rfl
theorem gL_R {M : Mm} {a k : Nat} {v : Option Nat} : ddL (suR M a k v) = ddL M := rfl
theorem gR_I {M : Mm} {a k : Nat} {v : Int32} : ddR (suI M a k v) = ddR M := rfl
theorem gR_L {M : Mm} {a k : Nat} {v : Int64} : ddR (suL M a k v) = ddR M := rfl
theorem gI_I {M : Mm} {a k b j : Nat} {v : Int32} : ddI (suI M a k v) b j = if b = a ∧ j = k then v else ddI M b j := rfl
theorem gL_L {M : Mm} {a k b j : Nat} {v : Int64} : ddL (suL M a k v) b j = if b = a ∧ j = k then v else ddL M b j := rfl
theorem gR_R {M : Mm} {a k b j : Nat} {v : Option Nat} : ddR (suR M a k v) b j = if b = a ∧ j = k then v else ddR M b j := rfl
theorem gT_N {M : Mm} {t l b : Nat} : ddT (suN M t l) b = if b = ddZ M then t else ddT M b := rfl
theorem gN_N {M : Mm} {t l b : Nat} : ddN (suN M t l) b = if b = ddZ M then l else ddN M b := rfl
theorem gI_N {M : Mm} {t l b : Nat} : ddI (suN M t l) b = if b = ddZ M then (fun _ => 0) else ddI M b := rfl
theorem gL_N {M : Mm} {t l b : Nat} : ddL (suN M t l) b = if b = ddZ M then (fun _ => 0) else ddL M b := rfl
theorem gR_N {M : Mm} {t l b : Nat} : ddR (suN M t l) b = if b = ddZ M then (fun _ => none) else ddR M b := rfl
theorem gZ_N {M : Mm} {t l : Nat} : ddZ (suN M t l) = ddZ M + 1 := rfl
theorem xl_lt (x y : Int64) : lg_cmp x y < 0 ↔ x.toInt < y.toInt := by rw [lg_cmp_lt, Int64.lt_iff_toInt_lt]
theorem xl_le (x y : Int64) : lg_cmp x y ≤ 0 ↔ x.toInt ≤ y.toInt := by rw [lg_cmp_le, Int64.le_iff_toInt_le]
theorem xl_gt (x y : Int64) : 0 < lg_cmp x y ↔ y.toInt < x.toInt := by rw [lg_cmp_gt, Int64.lt_iff_toInt_lt]
theorem xl_ge (x y : Int64) : 0 ≤ lg_cmp x y ↔ y.toInt ≤ x.toInt := by rw [lg_cmp_ge, Int64.le_iff_toInt_le]
theorem xl_eq (x y : Int64) : lg_cmp x y = 0 ↔ x.toInt = y.toInt := by rw [lg_cmp_eq, Int64.toInt_inj]
theorem xi_lt (x y : Int32) : x < y ↔ x.toInt < y.toInt := Int32.lt_iff_toInt_lt
theorem xi_le (x y : Int32) : x ≤ y ↔ x.toInt ≤ y.toInt := Int32.le_iff_toInt_le
theorem xi_eq (x y : Int32) : x = y ↔ x.toInt = y.toInt := Int32.toInt_inj.symm
theorem xi_rng (x : Int32) : -2147483648 ≤ x.toInt ∧ x.toInt < 2147483648 := ⟨Int32.le_toInt x, Int32.toInt_lt x⟩
theorem xl_rng (x : Int64) : -9223372036854775808 ≤ x.toInt ∧ x.toInt < 9223372036854775808 := ⟨Int64.le_toInt x, Int64.toInt_lt x⟩
theorem xi_add {x y : Int32} (h1 : -2147483648 ≤ x.toInt + y.toInt) (h2 : x.toInt + y.toInt < 2147483648) : (x + y).toInt = x.toInt + y.toInt := by
  rw [Int32.toInt_add]
  exact Int.bmod_eq_of_le (by omega) (by omega)
theorem xi_sub {x y : Int32} (h1 : -2147483648 ≤ x.toInt - y.toInt) (h2 : x.toInt - y.toInt < 2147483648) : (x - y).toInt = x.toInt - y.toInt := by
  rw [Int32.toInt_sub]
  exact Int.bmod_eq_of_le (by omega) (by omega)
theorem xi_mul {x y : Int32} (h1 : -2147483648 ≤ x.toInt * y.toInt) (h2 : x.toInt * y.toInt < 2147483648) : (x * y).toInt = x.toInt * y.toInt := by
  rw [Int32.toInt_mul]
  exact Int.bmod_eq_of_le (by omega) (by omega)
theorem xl_add {x y : Int64} (h1 : -9223372036854775808 ≤ x.toInt + y.toInt) (h2 : x.toInt + y.toInt < 9223372036854775808) : (x + y).toInt = x.toInt + y.toInt := by
  rw [Int64.toInt_add]
  exact Int.bmod_eq_of_le (by omega) (by omega)
theorem xl_sub {x y : Int64} (h1 : -9223372036854775808 ≤ x.toInt - y.toInt) (h2 : x.toInt - y.toInt < 9223372036854775808) : (x - y).toInt = x.toInt - y.toInt := by
  rw [Int64.toInt_sub]
  exact Int.bmod_eq_of_le (by omega) (by omega)
theorem xl_mul {x y : Int64} (h1 : -9223372036854775808 ≤ x.toInt * y.toInt) (h2 : x.toInt * y.toInt < 9223372036854775808) : (x * y).toInt = x.toInt * y.toInt := by
  rw [Int64.toInt_mul]
  exact Int.bmod_eq_of_le (by omega) (by omega)
theorem nI_in2 {i N : Nat} (h : i < N) (hN : N < 2 ^ 31) : vp_in (nI i) N := vp_in_nI h hN
theorem nI_T {n : Nat} (h : n < 2 ^ 31) : (nI n).toInt = (n : Int) := nI_toInt h
theorem nI_cl {n : Nat} (h : n < 2 ^ 31) : Int32.toNatClampNeg (nI n) = n := nI_clamp h
theorem nI_inj {a b : Nat} (ha : a < 2 ^ 31) (hb : b < 2 ^ 31) (h : nI a = nI b) : a = b := (nI_eq ha hb).mp h
/-! figures: a number with a 1 ahead -/
def isF (v : Int) (p : Nat) : Prop := (10 : Int) ^ p ≤ v ∧ v < 2 * 10 ^ p
theorem te_T : ∀ p, p < 17 → (te_ p).toInt = 10 ^ p ∧ (2 * te_ p).toInt = 2 * 10 ^ p := by decide +kernel
theorem p10_mono {p q : Nat} (h : p < q) : 10 * (10 : Int) ^ p ≤ 10 ^ q := by
  obtain ⟨d, rfl⟩ : ∃ d, q = p + 1 + d := ⟨q - p - 1, by omega⟩
  rw [Int.pow_add, Int.pow_succ]
  have h1 : (1 : Int) ≤ 10 ^ d := Int.pow_pos (by decide) 
  have h2 : (1 : Int) ≤ 10 ^ p := Int.pow_pos (by decide)
  have h3 : 10 ^ p * 10 * 1 ≤ 10 ^ p * 10 * (10 : Int) ^ d := Int.mul_le_mul_of_nonneg_left h1 (by omega)
  omega
theorem isF_one {v : Int} {p q : Nat} (hp : isF v p) (hq : isF v q) : p = q := by
  rcases Nat.lt_trichotomy p q with h | h | h
  · have := p10_mono h; unfold isF at hp hq; omega
  · exact h
  · have := p10_mono h; unfold isF at hp hq; omega
theorem sp_placesOf_lp {v : Int64} {M : Mm} {post : Int32 → Mm → Prop} (h1 : ∀ p, p < 17 → isF v.toInt p → post (nI p) M) (h2 : (∀ p, p < 17 → ¬ isF v.toInt p) → post (-1) M) :
    ∀ (fu i : Nat), i ≤ 17 → (∀ p, p < i → ¬ isF v.toInt p) → 17 - i < fu → DX10_placesOf_2 post fu v (nI i) M := by
  intro fu
  induction fu with
  | zero => intro i _ _ h; omega
  | succ fu ih =>
    intro i hi hno hf
    show BX10_placesOf_2 (DX10_placesOf_2 post fu) post v (nI i) M
    unfold BX10_placesOf_2
    rw [nI_1, nI_cl (by omega)]
    refine ⟨fun c => h2 fun p hp => hno p ?_, fun c => ?_⟩
    · have c2 : (17 : Int) ≤ (nI i).toInt := (xi_le _ _).mp c
      rw [nI_T (by omega)] at c2
      omega
    · have hi2 : i < 17 := by
        rcases Nat.lt_or_ge i 17 with q | q
        · exact q
        · exact absurd ((xi_le _ _).mpr (by rw [nI_T (by omega)]; show (17 : Int) ≤ _; omega)) c
      obtain ⟨t1, t2⟩ := te_T i hi2
      refine ⟨nI_in2 hi2 (by decide), fun c1 => ?_, fun c1 => ⟨nI_in2 hi2 (by decide), fun c2 => ?_, fun c2 => ?_⟩⟩
      · rw [xl_lt, t1] at c1
        exact ih (i + 1) (by omega) (fun p hp => by
          rcases Nat.lt_or_ge p i with q | q
          · exact hno p q
          · have e : p = i := by omega
            subst e
            intro z
            exact absurd z.1 (by omega)) (by omega)
      · rw [xl_ge, t2] at c2
        exact ih (i + 1) (by omega) (fun p hp => by
          rcases Nat.lt_or_ge p i with q | q
          · exact hno p q
          · have e : p = i := by omega
            subst e
            intro z
            exact absurd z.2 (by omega)) (by omega)
      · rw [xl_lt, t1] at c1
        rw [xl_ge, t2] at c2
        exact h1 i hi2 ⟨by omega, by omega⟩
/-- placesOf: the figures' number, -1 where there is none up to 16 -/
theorem sp_placesOf {v : Int64} {M : Mm} {post : Int32 → Mm → Prop} (h1 : ∀ p, p < 17 → isF v.toInt p → post (nI p) M) (h2 : (∀ p, p < 17 → ¬ isF v.toInt p) → post (-1) M) : PX10_placesOf v M post :=
  ⟨18, sp_placesOf_lp h1 h2 18 0 (by omega) (fun p hp => by omega) (by omega)⟩
/-- figuresOf of the model -/
theorem sp_figuresOf_lp {M : Mm} {post : Int32 → Mm → Prop} : ∀ (fu n w : Nat), 1 ≤ w → w < 10 ^ fu → w < 2 ^ 63 → n + fu < 1000 → (∀ p, p < 1000 → isF w p → post (nI (n + p)) M) → ((∀ p, ¬ isF w p) → post (-1) M) → DX11_figuresOf_12 post (fu + 1) (nI n) (lN w) M := by
  intro fu
  induction fu with
  | zero => intro n w h1 h2; omega
  | succ fu ih =>
    intro n w hw1 hw2 hw3 hn h1 h2
    show BX11_figuresOf_12 (DX11_figuresOf_12 post (fu + 1)) post (nI n) (lN w) M
    unfold BX11_figuresOf_12
    have eT : (lN w).toInt = (w : Int) := pk_lT hw3
    refine ⟨fun c => ⟨fun c1 => h2 fun p hp => ?_, fun c1 => ?_⟩, fun c v hv => ?_⟩
    · rw [xl_le, eT] at c
      rw [xl_eq, eT] at c1
      have c : (w : Int) ≤ 9 := c
      have c1 : ¬ (w : Int) = 1 := c1
      rcases Nat.eq_zero_or_pos p with q | q
      · subst q
        have := hp.2
        simp at this
        omega
      · have := p10_mono q
        have := hp.1
        simp at *
        omega
    · rw [xl_eq, eT] at c1
      have c1 : (w : Int) = 1 := c1
      exact h1 0 (by omega) ⟨by simp; omega, by simp; omega⟩
    · rw [xl_le, eT] at c
      have c : ¬ (w : Int) ≤ 9 := c
      have e10 : (lN w : Int64) / 10 = lN (w / 10) := pk_lDiv hw3 (by decide) (by decide)
      rw [hv, e10, nI_1]
      have hd : w / 10 < 10 ^ fu := by
        rw [Nat.pow_succ] at hw2
        exact Nat.div_lt_of_lt_mul (by omega)
      refine ih (n + 1) (w / 10) (by omega) hd (by omega) (by omega) (fun p hp hF => ?_) (fun hno => h2 fun p hF => ?_)
      · have : n + 1 + p = n + (p + 1) := by omega
        rw [this]
        have hF2 : isF w (p + 1) := by
          unfold isF at hF ⊢
          rw [Int.pow_succ]
          omega
        rcases Nat.lt_or_ge (p + 1) 1000 with q | q
        · exact h1 (p + 1) q hF2
        · exfalso
          have hp9 : p = 999 := by omega
          subst hp9
          have h7 := hF2.1
          have h8 : (10 : Int) ^ 20 ≤ 10 ^ (999 + 1) := by
            have := p10_mono (p := 20) (q := 1000) (by omega)
            omega
          have h9 : (w : Int) < 2 ^ 63 := by exact_mod_cast hw3
          have : (2 : Int) ^ 63 < 10 ^ 20 := by decide
          omega
      · rcases Nat.eq_zero_or_pos p with q | q
        · subst q
          have := hF.2
          simp at this
          omega
        · obtain ⟨k, rfl⟩ : ∃ k, p = k + 1 := ⟨p - 1, by omega⟩
          refine hno k ?_
          unfold isF at hF ⊢
          rw [Int.pow_succ] at hF
          omega
theorem lN_of {v : Int64} (h : 0 ≤ v.toInt) : ∃ w : Nat, w < 2 ^ 63 ∧ v = lN w ∧ v.toInt = (w : Int) := by
  have hr := xl_rng v
  refine ⟨v.toInt.toNat, by omega, ?_, by omega⟩
  apply Int64.toInt_inj.mp
  rw [pk_lT (by omega)]
  omega
theorem sp_figuresOf {v : Int64} {M : Mm} {post : Int32 → Mm → Prop} (h1 : ∀ p, p < 1000 → isF v.toInt p → post (nI p) M) (h2 : (∀ p, ¬ isF v.toInt p) → post (-1) M) : PX11_figuresOf v M post := by
  unfold PX11_figuresOf
  refine ⟨fun c => ?_, fun c => h2 fun p hp => c ?_⟩
  · rw [xl_ge] at c
    have c : (1 : Int) ≤ v.toInt := c
    obtain ⟨w, hw, e, eT⟩ := lN_of (v := v) (by omega)
    rw [e]
    rw [eT] at h1 h2
    refine ⟨20, sp_figuresOf_lp 19 0 w (by omega) (by have : (2:Nat) ^ 63 < 10 ^ 19 := by decide
                                                      omega) hw (by omega) (fun p hp hF => by rw [Nat.zero_add]; exact h1 p hp hF) h2⟩
  · rw [xl_ge]
    have h3 : (1 : Int) ≤ 10 ^ p := Int.pow_pos (by decide)
    have := hp.1
    show (1 : Int) ≤ _
    omega
