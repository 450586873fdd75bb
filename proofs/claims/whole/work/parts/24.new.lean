/-! a new Entry object -/
theorem Un.nw {P : Nat → Nat → Prop} {M0 M M' : Mm} (u : Un (fun _ _ => False) M0 M) (u2 : Un P M M') (h : ∀ b k, P b k → ddZ M0 ≤ b) : Un (fun _ _ => False) M0 M' := (u.tr u2).wk (fun b k hb q => by
  rcases q with q | q
  · exact q
  · have := h b k q; omega)
def mx_ (G : Nat → Nat → Nat) (j k : Nat) : Nat := if k < G 2 j then 2 ^ (G 1 j / 10 ^ (G 2 j - 1 - k) % 10) else 1023
def IV (M0 M : Mm) (G : Nat → Nat → Nat) (j : Nat) (ar : Int32) (i : Nat) : Prop := Un (fun _ _ => False) M0 M ∧ ddZ M = ddZ M0 + 2 ∧ ddT M (ddZ M0) = 3 ∧ ddI M (ddZ M0) 0 = nI (G 0 j) ∧ ddI M (ddZ M0) 1 = ar ∧ ddI M (ddZ M0) 2 = nI (G 1 j) ∧ ddI M (ddZ M0) 3 = nI (G 2 j) ∧ ddI M (ddZ M0) 4 = nI (G 3 j) ∧ ddI M (ddZ M0) 5 = nI (G 4 j) ∧ ddI M (ddZ M0) 6 = nI (G 5 j) ∧ ddI M (ddZ M0) 7 = nI (G 6 j) ∧ ddR M (ddZ M0) 8 = some (ddZ M0 + 1) ∧ (∀ k, 9 ≤ k → ddR M (ddZ M0) k = none ∧ ddL M (ddZ M0) k = 0) ∧ ddT M (ddZ M0 + 1) = 20 ∧ ddN M (ddZ M0 + 1) = 8 ∧ ∀ k, k < i → ddI M (ddZ M0 + 1) k = nI (mx_ G j k)
theorem IV_set {M0 M : Mm} {G : Nat → Nat → Nat} {j : Nat} {ar : Int32} {i : Nat} (h : IV M0 M G j ar i) : IV M0 (suI M (ddZ M0 + 1) i (nI (mx_ G j i))) G j ar (i + 1) := by
  obtain ⟨u, z, t, f0, f1, f2, f3, f4, f5, f6, f7, f8, f9, g1, g2, g3⟩ := h
  have hn : ∀ x, ¬ (ddZ M0 = ddZ M0 + 1 ∧ x = i) := fun x => by omega
  refine ⟨u.nw Un.sI (fun b k q => by omega), z, t, ?_, ?_, ?_, ?_, ?_, ?_, ?_, ?_, f8, f9, g1, g2, fun k hk => ?_⟩
  iterate 8 (rw [gI_I, if_neg (hn _)]; assumption)
  rw [gI_I]
  by_cases hki : k = i
  · subst hki; rw [if_pos ⟨rfl, rfl⟩]
  · rw [if_neg (fun q => hki q.2)]
    exact g3 k (by omega)
def NE (M0 M1 : Mm) (G : Nat → Nat → Nat) (j : Nat) (ar : Int32) : Prop := Un (fun _ _ => False) M0 M1 ∧ ddZ M1 = ddZ M0 + 2 ∧ EO M1 (ddZ M0) G j ∧ ddR M1 (ddZ M0) 8 = some (ddZ M0 + 1) ∧ ddI M1 (ddZ M0) 1 = ar ∧ ddI M1 (ddZ M0) 9 = -1 ∧ ddI M1 (ddZ M0) 10 = -1 ∧ ddI M1 (ddZ M0) 11 = -1 ∧ ddI M1 (ddZ M0) 12 = -1 ∧ ∀ k, 9 ≤ k → ddR M1 (ddZ M0) k = none ∧ ddL M1 (ddZ M0) k = 0
theorem NE_of {M0 M : Mm} {G : Nat → Nat → Nat} {j : Nat} {ar : Int32} {i : Nat} (hG : GW G j) (h : IV M0 M G j ar i) (hm : ∀ k, k < 8 → ddI M (ddZ M0 + 1) k = nI (mayN G j k)) : NE M0 (suI (suI (suI (suI M (ddZ M0) 9 (-1)) (ddZ M0) 10 (-1)) (ddZ M0) 11 (-1)) (ddZ M0) 12 (-1)) G j ar := by
  obtain ⟨u, z, t, f0, f1, f2, f3, f4, f5, f6, f7, f8, f9, g1, g2, g3⟩ := h
  refine ⟨u.nw (((Un.sI.tr Un.sI).tr Un.sI).tr Un.sI) (fun b k q => by omega), z, ⟨t, ?_, ?_, ?_, ?_, ?_, ?_, ?_, hG, ddZ M0 + 1, f8, g1, g2, fun i hi => ?_⟩, f8, ?_, ?_, ?_, ?_, ?_, f9⟩
  iterate 7 (simp only [gI_I, Nat.reduceEqDiff, and_false, if_false]; assumption)
  · simp only [gI_I]
    rw [if_neg (by omega), if_neg (by omega), if_neg (by omega), if_neg (by omega)]
    exact hm i hi
  all_goals simp only [gI_I, Nat.reduceEqDiff, and_false, if_false, and_self, if_true]
  exact f1
theorem se_init_lp {M0 : Mm} {G : Nat → Nat → Nat} {j : Nat} {ar : Int32} {post : Mm → Prop} (hG : GW G j) (h : ∀ M1, NE M0 M1 G j ar → post M1) : ∀ (fu i : Nat) (M : Mm), i ≤ 8 → 8 - i < fu → IV M0 M G j ar i → DX2_init_63 post fu (ddZ M0) (nI (G 1 j)) (nI (G 3 j)) (nI i) M := by
  have h7 := hG.2.2.2.1
  have h3 := hG.2.2.2.2.1
  have hw := hG.w
  intro fu
  induction fu with
  | zero => intro i M _ q; omega
  | succ fu ih =>
    intro i M hi hf hI
    show BX2_init_63 (DX2_init_63 post fu) post (ddZ M0) (nI (G 1 j)) (nI (G 3 j)) (nI i) M
    unfold BX2_init_63
    obtain ⟨u, z, t, f0, f1, f2, f3, f4, f5, f6, f7, f8, f9, g1, g2, g3⟩ := id hI
    rw [f3]
    refine ⟨t, ddZ M0 + 1, f8, g1, ?_⟩
    rw [g2]
    refine pk_le 8 i (fun c => ?_) (fun c => ?_) rfl rfl (by omega) (by omega)
    · have e8 : i = 8 := by omega
      subst e8
      refine ⟨fun c0 M2 e2 M3 e3 M4 e4 M5 e5 => ?_, fun c0 => ?_⟩
      · subst e2 e3 e4 e5
        rw [nI_ne0' (by omega)] at c0
        refine h _ (NE_of hG hI fun k hk => ?_)
        rw [g3 k hk]
        unfold mx_ mayN
        split
        · rfl
        · rw [if_neg (fun q => q.2 c0)]
      · rw [nI_ne0' (by omega)] at c0
        refine pk_lt (G 2 j) 0 (fun c => by omega) (fun _ => pk_le 8 (G 2 j) (fun c => by omega) (fun _ => ⟨nI_in2 (by omega) (by decide), fun M1 e1 M2 e2 M3 e3 M4 e4 M5 e5 => ?_⟩) rfl rfl (by omega) (by omega)) rfl rfl (by omega) (by omega)
        subst e1 e2 e3 e4 e5
        rw [nI_cl (by omega)]
        have hn : ∀ x, ¬ (ddZ M0 = ddZ M0 + 1 ∧ x = G 2 j) := fun x => by omega
        refine h _ (NE_of (i := 0) hG ⟨u.nw Un.sI (fun b k q => by omega), z, t, ?_, ?_, ?_, ?_, ?_, ?_, ?_, ?_, f8, f9, g1, g2, fun k hk => by omega⟩ fun k hk => ?_)
        · rw [gI_I, if_neg (hn _)]; exact f0
        · rw [gI_I, if_neg (hn _)]; exact f1
        · rw [gI_I, if_neg (hn _)]; exact f2
        · rw [gI_I, if_neg (hn _)]; exact f3
        · rw [gI_I, if_neg (hn _)]; exact f4
        · rw [gI_I, if_neg (hn _)]; exact f5
        · rw [gI_I, if_neg (hn _)]; exact f6
        · rw [gI_I, if_neg (hn _)]; exact f7
        · rw [gI_I]
          by_cases hk2 : k = G 2 j
          · subst hk2
            rw [if_pos ⟨rfl, rfl⟩]
            unfold mayN
            rw [if_neg (by omega), if_pos ⟨rfl, c0⟩]
          · rw [if_neg (fun q => hk2 q.2), g3 k hk]
            unfold mx_ mayN
            split
            · rfl
            · rw [if_neg (fun q => hk2 q.1)]
    · have hin : vp_in (nI i) 8 := nI_in2 (by omega) (by decide)
      refine pk_le (G 2 j) i (fun c1 => ⟨hin, fun M1 e1 => ?_⟩) (fun c1 => ?_) rfl rfl (by omega) (by omega)
      · subst e1
        rw [nI_cl (by omega), nI_1]
        have := IV_set hI
        have e : mx_ G j i = 1023 := by unfold mx_; rw [if_neg (by omega)]
        rw [e] at this
        exact ih (i + 1) _ (by omega) (by omega) this
      · rw [i2l_nI (by omega)]
        refine sp_figureBit (by omega) (by omega) c1 ⟨g1, ?_⟩
        rw [g2]
        refine ⟨hin, fun M1 e1 => ?_⟩
        subst e1
        rw [nI_cl (by omega), nI_1]
        have := IV_set hI
        have e : mx_ G j i = 2 ^ (G 1 j / 10 ^ (G 2 j - 1 - i) % 10) := by unfold mx_; rw [if_pos (by omega)]
        rw [e] at this
        exact ih (i + 1) _ (by omega) (by omega) this
theorem se_init {M0 : Mm} {G : Nat → Nat → Nat} {j : Nat} {ar : Int32} {post : Mm → Prop} (hG : GW G j) (h : ∀ M1, NE M0 M1 G j ar → post M1) : PX2_init (ddZ M0) (nI (G 0 j)) ar (nI (G 1 j)) (nI (G 3 j)) (nI (G 4 j)) (nI (G 5 j)) (nI (G 6 j)) (suN M0 3 0) post := by
  have hw := hG.w
  have t0 : ddT (suN M0 3 0) (ddZ M0) = 3 := by rw [gT_N, if_pos rfl]
  refine ⟨t0, fun M2 e2 M3 e3 M4 e4 => ?_⟩
  subst e2 e3 e4
  rw [i2l_nI (by omega)]
  have eT : (lN (G 1 j)).toInt = (G 1 j : Int) := pk_lT (by omega)
  refine sp_placesOf (fun q hq hF => ?_) (fun hno => ?_)
  · rw [eT] at hF
    have e := isF_one hG.2.1 hF
    subst e
    refine ⟨t0, fun M8 e8 M9 e9 M10 e10 M11 e11 M12 e12 n13 e13 M14 e14 => ?_⟩
    subst e8 e9 e10 e11 e12
    have z13 : n13 = ddZ M0 + 1 := e13
    clear e13
    subst z13 e14
    have hne : ¬ (ddZ M0 = ddZ M0 + 1) := by omega
    refine ⟨?_, fun M16 e16 => ?_⟩
    · rw [gT_N, if_neg (by exact hne)]; exact t0
    · subst e16
      refine ⟨9, se_init_lp hG h 9 0 _ (by omega) (by omega) ⟨?_, rfl, ?_, ?_, ?_, ?_, ?_, ?_, ?_, ?_, ?_, ?_, fun k hk => ⟨?_, ?_⟩, ?_, ?_, fun k hk => by omega⟩⟩
      · refine Un.nw Un.sN ((((((((((Un.sI.tr Un.sI).tr Un.sI).tr Un.sI).tr Un.sI).tr Un.sI).tr Un.sI).tr Un.sI).tr Un.sN).tr Un.sR)) (fun b k q => ?_)
        rcases q with (q | q) | q
        · omega
        · exact q.elim
        · omega
      · show ddT (suN _ 20 8) (ddZ M0) = 3
        rw [gT_N, if_neg (by exact hne)]; exact t0
      iterate 8 (show ddI (suN _ 20 8) (ddZ M0) _ = _; rw [gI_N, if_neg (by exact hne)]; simp only [gI_I, Nat.reduceEqDiff, and_false, if_false, and_self, if_true])
      · rw [gR_R, if_pos ⟨rfl, rfl⟩]
      · rw [gR_R, if_neg (by omega), gR_N, if_neg (by exact hne)]
        show ddR (suN M0 3 0) (ddZ M0) k = none
        rw [gR_N, if_pos rfl]
      · show ddL (suN _ 20 8) (ddZ M0) k = 0
        rw [gL_N, if_neg (by exact hne)]
        show ddL (suN M0 3 0) (ddZ M0) k = 0
        rw [gL_N, if_pos rfl]
      · show ddT (suN _ 20 8) (ddZ M0 + 1) = 20
        rw [gT_N, if_pos (by rfl)]
      · show ddN (suN _ 20 8) (ddZ M0 + 1) = 8
        rw [gN_N, if_pos (by rfl)]
  · rw [eT] at hno
    exact absurd hG.2.1 (hno _ (by have := hG.2.2.2.1; omega))
/-! bits -/
theorem lb_or (v w : Int64) (j : Nat) : lb_ (v ||| w) j = (lb_ v j || lb_ w j) := by
  unfold lb_
  rw [Int64.toBitVec_or, BitVec.getLsbD_or]
theorem lb_and (v w : Int64) (j : Nat) : lb_ (v &&& w) j = (lb_ v j && lb_ w j) := by
  unfold lb_
  rw [Int64.toBitVec_and, BitVec.getLsbD_and]
theorem lb_0 (j : Nat) : lb_ 0 j = false := by
  show (0#64).getLsbD j = false
  simp
theorem lb_bit : ∀ n, n < 64 → ∀ j, j < 64 → lb_ (1 <<< ((Int32.toInt64 (nI n)) &&& 63)) j = decide (j = n) := by decide +kernel
theorem ck_0 (j : Nat) : ck_ 0 0 j = false := by unfold ck_; split <;> exact lb_0 _
theorem ck_lo {v1 v2 : Int64} {n j : Nat} (hn : n < 64) : ck_ (v1 ||| (1 <<< ((Int32.toInt64 (nI n)) &&& 63))) v2 j = (ck_ v1 v2 j || decide (j = n)) := by
  unfold ck_
  split
  · next h => rw [lb_or, lb_bit n hn j h]
  · next h => rw [decide_eq_false (by omega), Bool.or_false]
theorem ck_hi {v1 v2 : Int64} {n j : Nat} (h1 : 64 ≤ n) (hn : n < 128) (hj : j < 128) : ck_ v1 (v2 ||| (1 <<< ((Int32.toInt64 (nI n - 64)) &&& 63))) j = (ck_ v1 v2 j || decide (j = n)) := by
  have e : nI n - 64 = nI (n - 64) := pk_sub (b := 64) h1
  rw [e]
  unfold ck_
  split
  · next h => rw [decide_eq_false (by omega), Bool.or_false]
  · next h =>
    rw [lb_or, lb_bit (n - 64) (by omega) (j - 64) (by omega)]
    congr 1
    by_cases hh : j = n
    · subst hh; simp
    · rw [decide_eq_false hh, decide_eq_false (by omega)]
theorem se_noteClash {M : Mm} {q n : Nat} {post : Mm → Prop} (hT : ddT M q = 3) (hn : n < 120) (h : ∀ M1, Un (fun b k => b = q ∧ (k = 16 ∨ k = 17)) M M1 → ddZ M1 = ddZ M → (∀ j, j < 120 → ck_ (ddL M1 q 16) (ddL M1 q 17) j = (ck_ (ddL M q 16) (ddL M q 17) j || decide (j = n))) → post M1) : PX2_noteClash q (nI n) M post := by
  refine pk_le 64 n (fun c => ⟨hT, fun M1 e1 => ?_⟩) (fun c => ⟨hT, fun M1 e1 => ?_⟩) rfl rfl (by omega) (by omega)
  · subst e1
    refine h _ (Un.sL.wk (fun b k _ z => by omega)) rfl (fun j hj => ?_)
    rw [gL_L, gL_L, if_neg (by omega), if_pos ⟨rfl, rfl⟩]
    exact ck_hi c (by omega) (by omega)
  · subst e1
    refine h _ (Un.sL.wk (fun b k _ z => by omega)) rfl (fun j hj => ?_)
    rw [gL_L, gL_L, if_pos ⟨rfl, rfl⟩, if_neg (by omega)]
    exact ck_lo c
/-! append: what it needs and does -/
def WE (a : Nat) (M : Mm) (n : Nat) (G : Nat → Nat → Nat) : Prop := ∀ e, e < n → ∃ q, ddR M (a + 2) e = some q ∧ nw_ a M q ∧ fx_ a M q ∧ EO M q G e ∧ ddI M q 9 = nI e
def AP (a : Nat) (M M1 : Mm) (n : Nat) (G : Nat → Nat → Nat) (r : Nat) : Prop := Un (fun b k => (b = a + 2 ∧ k = n) ∨ (b = a + 1 ∧ k = 1) ∨ (b = r ∧ k = 9) ∨ ((k = 16 ∨ k = 17) ∧ ∃ e, e < n ∧ ddR M (a + 2) e = some b)) M M1 ∧ ddZ M1 = ddZ M ∧ ddR M1 (a + 2) n = some r ∧ ddI M1 (a + 1) 1 = nI (n + 1) ∧ ddI M1 r 9 = nI n ∧ ∀ e q, e < n → ddR M (a + 2) e = some q → ∀ j, j < 120 → ck_ (ddL M1 q 16) (ddL M1 q 17) j = (ck_ (ddL M q 16) (ddL M q 17) j || (decide (j = n) && clB G e n))
def AQ (a : Nat) (M M1 : Mm) (n : Nat) (G : Nat → Nat → Nat) (i : Nat) : Prop := Un (fun b k => (k = 16 ∨ k = 17) ∧ ∃ e, e < n ∧ ddR M (a + 2) e = some b) M M1 ∧ ddZ M1 = ddZ M ∧ ∀ e q, e < n → ddR M (a + 2) e = some q → ∀ j, j < 120 → ck_ (ddL M1 q 16) (ddL M1 q 17) j = (ck_ (ddL M q 16) (ddL M q 17) j || (decide (e < i) && (decide (j = n) && clB G e n)))
theorem se_append {a : Nat} {M : Mm} {n r : Nat} {G : Nat → Nat → Nat} {post : Int32 → Mm → Prop} (hW : DW a M) (hn : n ≤ 120) (hs : ddI M (a + 1) 1 = nI n) (hE : WE a M n G) (hr : nw_ a M r) (hf : fx_ a M r) (hO : n < 120 → EO M r G n) (hid : ddI M r 9 = -1) (h0 : n = 120 → post (-3) M) (h1 : ∀ M1, n < 120 → AP a M M1 n G r → post (nI n) M1) : PX6_append (a + 1) (some r) M post := by
  have hz := hW.2.2.2.2
  have t7 : ddT M (a + 1) = 7 := DW_T hW (by decide)
  have hqr : ∀ e q, e < n → ddR M (a + 2) e = some q → q ≠ r := fun e q he hq z => by
    obtain ⟨q', q1, -, -, -, q5⟩ := hE e he
    rw [hq] at q1
    cases q1
    rw [z, hid] at q5
    exact nI_m1 (n := e) (by omega) q5.symm
  have hq1 : ∀ e q e' , e < n → e' < n → ddR M (a + 2) e = some q → ddR M (a + 2) e' = some q → e = e' := fun e q e' he he' h3 h4 => by
    obtain ⟨q', q1, -, -, -, q5⟩ := hE e he
    obtain ⟨q'', q1', -, -, -, q5'⟩ := hE e' he'
    rw [h3] at q1
    rw [h4] at q1'
    cases q1
    cases q1'
    exact nI_inj (by omega) (by omega) (q5.symm.trans q5')
  refine ⟨t7, t7, ?_⟩
  rw [hs, nI_1]
  refine pk_lt 120 (n + 1) (fun c => ⟨fun z => absurd rfl z, fun _ => h0 (by omega)⟩) (fun c => ⟨fun _ => ?_, fun z => absurd z (by decide)⟩) rfl rfl (by omega) (by omega)
  have hn' : n < 120 := by omega
  have hO := hO hn'
  refine pk_loop (fun fu i (s : Mm) => DX6_append_13 post fu (a + 1) (some r) (nI i) s) (fun i s => AQ a M s n G i) n 0 M (by omega) ⟨Un.rf, rfl, fun e q he hq j hj => by simp⟩ (fun fu s hA => ?_) (fun fu i s hi hA hk => ?_)
  · show BX6_append_13 (DX6_append_13 post fu) post (a + 1) (some r) (nI n) s
    obtain ⟨u, uz, uk⟩ := hA
    have rr := hr.1
    have np : ∀ b k, b < a + 65 → ¬ ((k = 16 ∨ k = 17) ∧ ∃ e, e < n ∧ ddR M (a + 2) e = some b) := fun b k hb q => by
      obtain ⟨-, e, he, q⟩ := q
      obtain ⟨q', q1, q2, -⟩ := hE e he
      rw [q] at q1
      cases q1
      have := q2.1
      omega
    have ts : ddT s (a + 1) = 7 := by rw [u.T (by omega)]; exact t7
    have ss : ddI s (a + 1) 1 = nI n := by rw [u.I (by omega) (np _ _ (by omega))]; exact hs
    unfold BX6_append_13
    rw [ss]
    refine ⟨ts, fun _ => ⟨r, rfl, by rw [u.T hr.2]; exact hO.1, fun M10 e10 => ?_⟩, fun z => absurd (Int32.le_refl _) z⟩
    subst e10
    have r0 : ddR (suI s r 9 (nI n)) (a + 1) 0 = some (a + 2) := by
      show ddR s (a + 1) 0 = _
      rw [u.R (by omega) (np _ _ (by omega))]
      exact DW_R hW (by decide)
    have t2 : ddT (suI s r 9 (nI n)) (a + 2) = 25 := by
      show ddT s (a + 2) = _
      rw [u.T (by omega)]
      exact DW_T hW (by decide)
    have n2 : ddN (suI s r 9 (nI n)) (a + 2) = 120 := by
      show ddN s (a + 2) = _
      rw [u.N (by omega)]
      exact DW_N hW (by decide)
    have s1 : ddI (suI s r 9 (nI n)) (a + 1) 1 = nI n := by rw [gI_I, if_neg (by omega)]; exact ss
    rw [s1]
    refine ⟨a + 2, r0, t2, by rw [n2]; exact nI_in2 (by omega) (by decide), fun M15 e15 M16 e16 => ?_⟩
    subst e15 e16
    rw [nI_cl (by omega)]
    have s2 : ddI (suR (suI s r 9 (nI n)) (a + 2) n (some r)) (a + 1) 1 = nI n := s1
    rw [s2, nI_1]
    have e9 : ddI (suI (suR (suI s r 9 (nI n)) (a + 2) n (some r)) (a + 1) 1 (nI (n + 1))) r 9 = nI n := by
      rw [gI_I, if_neg (by omega)]
      show ddI (suI s r 9 (nI n)) r 9 = nI n
      rw [gI_I, if_pos ⟨rfl, rfl⟩]
    rw [e9]
    refine h1 _ hn' ⟨(((u.tr Un.sI).tr Un.sR).tr Un.sI).wk (fun b k hb q => ?_), uz, ?_, ?_, e9, fun e q he hq j hj => ?_⟩
    · rcases q with ((q | q) | q) | q
      · exact Or.inr (Or.inr (Or.inr q))
      · exact Or.inr (Or.inr (Or.inl q))
      · exact Or.inl q
      · exact Or.inr (Or.inl q)
    · show ddR (suR (suI s r 9 (nI n)) (a + 2) n (some r)) (a + 2) n = some r
      rw [gR_R, if_pos ⟨rfl, rfl⟩]
    · rw [gI_I, if_pos ⟨rfl, rfl⟩]
    · have := uk e q he hq j hj
      rw [decide_eq_true he, Bool.true_and] at this
      exact this
  · show BX6_append_13 (DX6_append_13 post fu) post (a + 1) (some r) (nI i) s
    obtain ⟨u, uz, uk⟩ := id hA
    have np : ∀ b k, b < a + 65 → ¬ ((k = 16 ∨ k = 17) ∧ ∃ e, e < n ∧ ddR M (a + 2) e = some b) := fun b k hb q => by
      obtain ⟨-, e, he, q⟩ := q
      obtain ⟨q', q1, q2, -⟩ := hE e he
      rw [q] at q1
      cases q1
      have := q2.1
      omega
    have np2 : ∀ b k, ddT M b = 20 → ¬ ((k = 16 ∨ k = 17) ∧ ∃ e, e < n ∧ ddR M (a + 2) e = some b) := fun b k hb q => by
      obtain ⟨-, e, he, q⟩ := q
      obtain ⟨q', q1, q2, -, q4, -⟩ := hE e he
      rw [q] at q1
      cases q1
      have := q4.1
      omega
    have ts : ddT s (a + 1) = 7 := by rw [u.T (by omega)]; exact t7
    have ss : ddI s (a + 1) 1 = nI n := by rw [u.I (by omega) (np _ _ (by omega))]; exact hs
    have kO : ∀ q e, nw_ a M q → fx_ a M q → EO M q G e → EO s q G e := fun q e q2 q3 q4 => EO_keep q4 q2 q3 u (fun k hk z => by have := z.1; omega) (fun f k hf => by
      obtain ⟨-, -, -, -, -, -, -, -, -, f', f1, f2, -⟩ := q4
      have e' : f' = f := by rw [f1] at hf; exact Option.some.inj hf
      exact np2 f k (by rw [← e']; exact f2))
    unfold BX6_append_13
    rw [ss, nI_1]
    refine ⟨ts, fun z => absurd ((nI_leI (by omega) (by omega)).mp z) (by omega), fun _ => ?_⟩
    obtain ⟨q, q1, q2, q3, q4, q5⟩ := hE i hi
    have r0 : ddR s (a + 1) 0 = some (a + 2) := by rw [u.R (by omega) (np _ _ (by omega))]; exact DW_R hW (by decide)
    have t2 : ddT s (a + 2) = 25 := by rw [u.T (by omega)]; exact DW_T hW (by decide)
    have n2 : ddN s (a + 2) = 120 := by rw [u.N (by omega)]; exact DW_N hW (by decide)
    have rq : ddR s (a + 2) i = some q := by rw [u.R (by omega) (np _ _ (by omega))]; exact q1
    refine pk_lt i 0 (fun c => by omega) (fun _ => ⟨ts, pk_le n i (fun c => by omega) (fun _ => ⟨a + 2, r0, t2, ?_⟩) ss rfl (by omega) (by omega)⟩) rfl rfl (by omega) (by omega)
    rw [n2]
    refine pk_le 120 i (fun c => by omega) (fun _ => ⟨nI_in2 (by omega) (by decide), ?_⟩) rfl rfl (by omega) (by omega)
    rw [nI_cl (by omega), rq]
    refine co_some q ⟨by rw [u.T q2.2]; exact q4.1, se_clashesWith (kO q i q2 q3 q4) (kO r n hr hf hO) (bz (fun c => ?_) (fun c => ⟨ts, by rw [u.T q2.2]; exact q4.1, ?_⟩))⟩ rfl
    · refine hk s ⟨u, uz, fun e q' he hq' j hj => ?_⟩
      rw [uk e q' he hq' j hj]
      by_cases hei : e = i
      · subst hei
        rw [c, Bool.and_false, Bool.and_false, Bool.and_false]
      · congr 2
        by_cases h5 : e < i
        · rw [decide_eq_true h5, decide_eq_true (by omega)]
        · rw [decide_eq_false h5, decide_eq_false (by omega)]
    · rw [ss]
      refine se_noteClash (by rw [u.T q2.2]; exact q4.1) hn' (fun M1 v vz vk => hk M1 ⟨(u.tr v).wk (fun b k hb z => ?_), by rw [vz, uz], fun e q' he hq' j hj => ?_⟩)
      · rcases z with z | z
        · exact z
        · exact ⟨z.2, i, hi, by rw [z.1]; exact q1⟩
      · by_cases hei : e = i
        · subst hei
          have e' : q' = q := by rw [hq'] at q1; exact Option.some.inj q1
          rw [e', vk j hj, uk e q he q1 j hj, show decide (e < e) = false from decide_eq_false (by omega), show decide (e < e + 1) = true from decide_eq_true (by omega), Bool.false_and, Bool.or_false, Bool.true_and, c, Bool.and_true]
        · have hqq : q' ≠ q := fun z => hei (hq1 e q' i he hi hq' (by rw [z]; exact q1))
          have hlt : q' < ddZ s := by
            obtain ⟨p, p1, p2, -⟩ := hE e he
            rw [hq'] at p1
            cases p1
            rw [uz]; exact p2.2
          rw [v.L hlt (fun z => hqq z.1), v.L hlt (fun z => hqq z.1), uk e q' he hq' j hj]
          congr 2
          by_cases h5 : e < i
          · rw [decide_eq_true h5, decide_eq_true (by omega)]
          · rw [decide_eq_false h5, decide_eq_false (by omega)]
