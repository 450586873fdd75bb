def wi_ (x lo hi : Int) : Bool := decide (lo ≤ x) && decide (x ≤ hi)
theorem wi_t {x lo hi : Int} : wi_ x lo hi = true ↔ lo ≤ x ∧ x ≤ hi := by unfold wi_; rw [Bool.and_eq_true, decide_eq_true_eq, decide_eq_true_eq]
theorem wi_f {x lo hi : Int} : wi_ x lo hi = false ↔ ¬ (lo ≤ x ∧ x ≤ hi) := by rw [← wi_t]; cases wi_ x lo hi <;> simp
theorem sp_in {x lo hi : Int64} {M : Mm} {post : Int32 → Mm → Prop} (h : post (b2_ (wi_ x.toInt lo.toInt hi.toInt)) M) : PX11_in x lo hi M post := by
  refine ⟨fun c => ?_, fun c => ⟨fun c1 => ?_, fun c1 => ?_⟩⟩
  · rw [xl_lt] at c
    rw [wi_f.mpr (by omega)] at h; exact h
  · rw [xl_gt] at c1
    rw [wi_f.mpr (by omega)] at h; exact h
  · rw [xl_lt] at c
    rw [xl_gt] at c1
    rw [wi_t.mpr (by omega)] at h; exact h
theorem wd_T (x : Int32) : (Int32.toInt64 x).toInt = x.toInt := Int32.toInt_toInt64 x
theorem se_within {x lo hi : Int32} {M : Mm} {post : Int32 → Mm → Prop} (h : post (b2_ (wi_ x.toInt lo.toInt hi.toInt)) M) : PX10_isWithin x lo hi M post := by
  refine ⟨fun c => ?_, fun c => ⟨fun c1 => ?_, fun c1 => ?_⟩⟩
  · rw [xi_lt] at c
    rw [wi_f.mpr (by omega)] at h; exact h
  · rw [xi_lt] at c1
    rw [wi_f.mpr (by omega)] at h; exact h
  · rw [xi_lt] at c
    rw [xi_lt] at c1
    rw [wi_t.mpr (by omega)] at h; exact h
/-- a number between 0 and a bound, as a place -/
theorem nI_of3 {x : Int32} {n : Nat} (h : wi_ x.toInt 0 n = true) : ∃ j : Nat, j ≤ n ∧ x = nI j := by
  have h := wi_t.mp h
  have hr := xi_rng x
  refine ⟨x.toInt.toNat, by omega, ?_⟩
  apply Int32.toInt_inj.mp
  rw [nI_T (by omega)]
  omega
/-! the state changed at one place -/
def uN_ (A : Ab) (c j v : Nat) : Ab := (fun c' j' => if c' = c ∧ j' = j then v else A.1 c' j', A.2)
def uH_ (A : Ab) (c j : Nat) (v : Int32) : Ab := (A.1, fun c' j' => if c' = c ∧ j' = j then v else A.2.1 c' j', A.2.2)
def uC_ (A : Ab) (c v : Nat) : Ab := (A.1, A.2.1, fun c' => if c' = c then v else A.2.2 c')
theorem DW_T {a : Nat} {M : Mm} (h : DW a M) {i t : Nat} (hi : (i, t) ∈ dw_T) : ddT M (a + i) = t := h.1 (i, t) hi
theorem DW_R {a : Nat} {M : Mm} (h : DW a M) {i f j : Nat} (hi : (i, f, j) ∈ dw_R) : ddR M (a + i) f = some (a + j) := h.2.1 (i, f, j) hi
theorem DW_N {a : Nat} {M : Mm} (h : DW a M) {i n : Nat} (hi : (i, n) ∈ dw_N) : ddN M (a + i) = n := h.2.2.1 (i, n) hi
theorem rn4 : ∀ q ∈ dw_R, ¬ (q.1 = 0 ∧ q.2.1 = 4) := by decide
/-! now -/
def an_now (A : Ab) (x : Int32) : Int32 := if wi_ x.toInt (A.2.2 4) 20000 then x else -2
def nx_now (A : Ab) (x : Int32) : Ab := if wi_ x.toInt (A.2.2 4) 20000 then uC_ A 4 x.toInt.toNat else A
theorem se_toCome {a : Nat} {M : Mm} {A : Ab} {x : Int32} {post : Int32 → Mm → Prop} (hD : DS a M A) (hW : WA A) (h : post (b2_ (wi_ x.toInt (A.2.2 4) 20000)) M) : PX10_isDayToCome a x M post := by
  refine ⟨DW_T hD.1 (i := 0) (by decide), ?_⟩
  rw [show ddI M a 4 = nI (A.2.2 4) from hD.2.1]
  have h1 := hW.1
  refine se_within ⟨b2_01 _, ?_⟩
  rw [nI_T (by omega)]
  exact h
theorem dn_now {a : Nat} {M : Mm} {A : Ab} {x : Int32} {post : Int32 → Mm → Prop} (hS : SS a M A) (h : ∀ M1, DS a M1 (nx_now A x) → MS (a + 32) M1 A → post (an_now A x) M1) : PX10_now a x M post := by
  obtain ⟨hD, hM, hW⟩ := hS
  have hz := hD.1.2.2.2.2
  refine ⟨DW_T hD.1 (i := 0) (by decide), se_toCome hD hW ⟨fun c => ⟨DW_T hD.1 (i := 0) (by decide), fun M6 e6 => ?_⟩, fun c => ?_⟩⟩
  · rw [b2_n] at c
    have e1 : an_now A x = x := by unfold an_now; rw [if_pos c]
    rw [e1] at h
    have u : Un (fun b k => b = a ∧ k = 4) M M6 := by rw [e6]; exact Un.sI
    refine h M6 ?_ (MS_keep hM hz u (fun b k q => by omega))
    have e2 : nx_now A x = uC_ A 4 x.toInt.toNat := by unfold nx_now; rw [if_pos c]
    rw [e2]
    obtain ⟨d1, d2, d3, d4, d5, d6, d7⟩ := hD
    have hw := wi_t.mp c
    refine ⟨DW_keep d1 u (fun q hq z => rn4 q hq ⟨by omega, z.2⟩) (fun j hj q => by omega), ?_, DD_keep d3 hz u (fun j hj => ⟨fun q => by omega, fun q => by omega⟩), DC_keep d4 hz u (fun k f hk q => by omega), DE_cg (DE_keep d5 hz u (fun q => by omega) (fun e q => by omega) (fun q k hq _ z => by have := hq.1; omega)) rfl (fun _ _ => rfl) (fun _ _ => rfl), DL_cg (DL_keep d6 hz u ⟨fun q => by omega, fun q => by omega⟩ (fun e q => by omega) (fun e q => by omega) (fun q k hq _ z => by have := hq.1; omega)) rfl rfl (fun _ _ => rfl) rfl, DO_cg (DO_keep d7 hz u (fun q => by omega) (fun e q => by omega) (fun q k hq _ z => by have := hq.1; omega) (fun q k hq _ _ z => by have := hq.1; omega) (fun q k hq _ z => by have := hq.1; omega)) rfl (fun _ _ _ _ => rfl) (fun _ _ => rfl) rfl⟩
    show ddI M6 a 4 = nI x.toInt.toNat
    rw [e6, gI_I, if_pos ⟨rfl, rfl⟩]
    apply Int32.toInt_inj.mp
    rw [nI_T (by omega)]
    omega
  · rw [b2_0] at c
    have e1 : an_now A x = -2 := by unfold an_now; rw [if_neg (by rw [c]; decide)]
    have e2 : nx_now A x = A := by unfold nx_now; rw [if_neg (by rw [c]; decide)]
    rw [e1, e2] at h
    exact h M hD hM
theorem mn_now {m : Nat} {M : Mm} {A : Ab} {x : Int32} {post : Int32 → Mm → Prop} (hM : MS m M A) (hW : WA A) (hz : m + 33 ≤ ddZ M) (h : ∀ M1, MS m M1 (nx_now A x) → Un (fun b _ => m ≤ b ∧ b < m + 33) M M1 → post (an_now A x) M1) : PX11_now m x M post := by
  have h1 := hW.1
  refine ⟨hM.1.1, sp_in ?_⟩
  rw [wd_T, wd_T, show ddI M m 0 = nI (A.2.2 4) from hM.2.1, nI_T (by omega)]
  refine ⟨fun c => ⟨hM.1.1, fun M6 e6 => ?_⟩, fun c => ?_⟩
  · rw [b2_n] at c
    have c : wi_ x.toInt (A.2.2 4) 20000 = true := c
    have e1 : an_now A x = x := by unfold an_now; rw [if_pos c]
    have e2 : nx_now A x = uC_ A 4 x.toInt.toNat := by unfold nx_now; rw [if_pos c]
    rw [e1, e2] at h
    have hw := wi_t.mp c
    have u : Un (fun b k => b = m ∧ k = 0) M M6 := by rw [e6]; exact Un.sI
    refine h M6 ?_ (u.wk (fun b k hb q => by omega))
    obtain ⟨d1, d2, d3, d4, d5, d6, d7⟩ := hM
    refine ⟨MW_keep d1 hz u (fun k h0 _ _ _ _ _ q => h0 q.2), ?_, MD_keep d3 hz u (fun j hj => ⟨fun q => by omega, fun q => by omega⟩), MC_keep d4 hz u (fun o j _ _ q => by omega), ME_cg (ME_keep d5 hz u (fun q => by omega) (fun o j _ _ _ q => by omega)) rfl (fun _ _ => rfl) (fun _ _ => rfl), ML_cg (ML_keep d6 hz u ⟨fun q => by omega, fun q => by omega⟩ (fun o j _ _ q => by omega)) rfl rfl (fun _ _ => rfl) rfl, MO_cg (MO_keep d7 hz u (fun q => by omega) (fun o j _ _ _ q => by omega) (fun j q => by omega)) rfl (fun _ _ _ _ => rfl) (fun _ _ _ _ => rfl) rfl⟩
    show ddI M6 m 0 = nI x.toInt.toNat
    rw [e6, gI_I, if_pos ⟨rfl, rfl⟩]
    apply Int32.toInt_inj.mp
    rw [nI_T (by omega)]
    omega
  · rw [b2_0] at c
    have c : wi_ x.toInt (A.2.2 4) 20000 = false := c
    have e1 : an_now A x = -2 := by unfold an_now; rw [if_neg (by rw [c]; decide)]
    have e2 : nx_now A x = A := by unfold nx_now; rw [if_neg (by rw [c]; decide)]
    rw [e1, e2] at h
    exact h M hM Un.rf
