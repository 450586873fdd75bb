/-! frames for a change of the entries -/
section FE
variable {P : Nat → Nat → Prop} {M M' : Mm} {a m : Nat} {A A' : Ab}
theorem LO_E {q l : Nat} (h : LO a M q A l) (hz : a + 65 ≤ ddZ M) (u : Un P M M') (k1 : ∀ k, ¬ P q k) (k2 : ¬ P (a + 2) (A.1 10 l)) (k3 : ∀ p k, nw_ a M p → ddT M p = 8 → ¬ P p k) (h0 : A'.2.2 2 = A.2.2 2) (h1 : ∀ c, 7 ≤ c → A'.1 c = A.1 c) (h4 : A'.1 4 (A.1 10 l) = A.1 4 (A.1 10 l)) (h5 : A'.1 2 (A.1 10 l) = A.1 2 (A.1 10 l)) (h2 : A'.2.1 10 = A.2.1 10) : LO a M' q A' l := by
  obtain ⟨l1, l2, l3, l4, l5, l6, l7, l8⟩ := h
  refine ⟨nw_keep l1 u, by rw [u.T l1.2]; exact l2, ?_, ?_, ?_, ?_, ?_, ?_⟩
  · rw [h1 10 (by omega), u.R l1.2 (k1 0), u.R (by omega) k2]; exact l3
  · rw [h1 11 (by omega), u.I l1.2 (k1 1)]; exact l4
  · rw [h1 11 (by omega), h1 10 (by omega), h4, h5, u.I l1.2 (k1 2)]; exact l5
  · rw [h1 12 (by omega), u.I l1.2 (k1 3)]; exact l6
  · rw [h2, u.I l1.2 (k1 4)]; exact l7
  · rw [h0, u.R l1.2 (k1 5)]
    exact ch_cg (fun c q1 q2 => h1 c (by omega)) (ch_keep l8 u k3)
theorem DL_E (h : DL a M A) (hz : a + 65 ≤ ddZ M) (u : Un P M M') (k0 : ¬ P (a + 4) 1 ∧ ¬ P (a + 4) 2) (k2 : ∀ l, l < A.2.2 1 → ¬ P (a + 2) (A.1 10 l)) (k4 : ∀ e, ¬ P (a + 5) e) (k3 : ∀ q k, nw_ a M q → ddT M q = 4 ∨ ddT M q = 8 → ¬ P q k) (h0 : A'.2.2 2 = A.2.2 2) (h00 : A'.2.2 1 = A.2.2 1) (h1 : ∀ c, 7 ≤ c → A'.1 c = A.1 c) (h4 : ∀ l, l < A.2.2 1 → ∀ c, c < 7 → A'.1 c (A.1 10 l) = A.1 c (A.1 10 l)) (h2 : A'.2.1 10 = A.2.1 10) : DL a M' A' := by
  obtain ⟨a1, a2, a3, a4, a5, a6⟩ := h
  refine ⟨by rw [h00]; exact a1, by rw [h00, u.I (by omega) k0.1]; exact a2, by rw [h0]; exact a3, by rw [h0, u.I (by omega) k0.2]; exact a4, fun l hl => ?_, fun l l' q hl hl' q1 q2 => ?_⟩
  · rw [h00] at hl
    obtain ⟨q, q1, q2⟩ := a5 l hl
    exact ⟨q, by rw [u.R (by omega) (k4 l)]; exact q1, LO_E q2 hz u (fun k => k3 q k q2.1 (Or.inl q2.2.1)) (k2 l hl) (fun p k hp ht => k3 p k hp (Or.inr ht)) h0 h1 (h4 l hl 4 (by omega)) (h4 l hl 2 (by omega)) h2⟩
  · rw [h00] at hl hl'
    rw [u.R (by omega) (k4 _)] at q1 q2
    exact a6 l l' q hl hl' q1 q2
/-- the entries changed, or one added -/
theorem DS_E (h : DS a M A) (u : Un P M M') (hP : ∀ b k, P b k → (b = a + 2 ∧ A.2.2 0 ≤ k) ∨ (b = a + 1 ∧ k = 1) ∨ (nw_ a M b ∧ ddT M b = 3 ∧ ddI M b 9 ≠ -1)) (hE : DE a M' A') (hl : ∀ l, l < A.2.2 1 → A.1 10 l < A.2.2 0) (h1 : ∀ c, 7 ≤ c → A'.1 c = A.1 c) (h4 : ∀ c, c < 7 → ∀ j, j < A.2.2 0 ∨ 120 < j → A'.1 c j = A.1 c j) (h2 : ∀ c, 7 ≤ c → A'.2.1 c = A.2.1 c) (h5 : ∀ c, c < 7 → ∀ j, 120 < j → A'.2.1 c j = A.2.1 c j) (h3 : ∀ i, i ≠ 0 → A'.2.2 i = A.2.2 i) : DS a M' A' := by
  obtain ⟨d1, d2, d3, d4, d5, d6, d7⟩ := h
  have hz := d1.2.2.2.2
  have nn : ∀ b k, ¬ ((b = a + 2 ∧ A.2.2 0 ≤ k) ∨ (b = a + 1 ∧ k = 1) ∨ (nw_ a M b ∧ ddT M b = 3 ∧ ddI M b 9 ≠ -1)) → ¬ P b k := fun b k q z => q (hP b k z)
  have lo : ∀ b k, b < a + 65 → ¬ (b = a + 2 ∧ A.2.2 0 ≤ k) → ¬ (b = a + 1 ∧ k = 1) → ¬ P b k := fun b k hb q1 q2 => nn b k (by
    rintro (z | z | ⟨z, -⟩)
    · exact q1 z
    · exact q2 z
    · have := z.1; omega)
  have ty : ∀ q k, nw_ a M q → ddT M q ≠ 3 → ¬ P q k := fun q k hq ht => nn q k (by
    rintro (z | z | ⟨-, z, -⟩)
    · have := hq.1; omega
    · have := hq.1; omega
    · exact ht z)
  have r9 : ∀ q ∈ dw_R, q.1 < 32 ∧ ¬ (q.1 = 2) ∧ ¬ (q.1 = 1 ∧ q.2.1 = 1) := by decide
  refine ⟨DW_keep d1 u (fun q hq => ?_) (fun j hj => lo _ _ (by omega) (by omega) (by omega)), ?_, DD_cg (DD_keep d3 hz u (fun j hj => ⟨lo _ _ (by omega) (by omega) (by omega), lo _ _ (by omega) (by omega) (by omega)⟩)) (h1 40 (by omega)) (h1 41 (by omega)), DC_cg (DC_keep d4 hz u (fun k f hk => lo _ _ (by omega) (by omega) (by omega))) (fun c _ _ => h1 c (by omega)) (h2 30 (by omega)), hE, DL_E d6 hz u ⟨lo _ _ (by omega) (by omega) (by omega), lo _ _ (by omega) (by omega) (by omega)⟩ (fun l hl2 => lo _ _ (by omega) (by have := hl l hl2; omega) (by omega)) (fun e => lo _ _ (by omega) (by omega) (by omega)) (fun q k hq ht => ty q k hq (by omega)) (h3 2 (by omega)) (h3 1 (by omega)) h1 (fun l hl2 c hc => h4 c hc _ (Or.inl (hl l hl2))) (h2 10 (by omega)), DO_cg (DO_keep d7 hz u (lo _ _ (by omega) (by omega) (by omega)) (fun e => lo _ _ (by omega) (by omega) (by omega)) (fun q k hq ht => ty q k hq (by omega)) (fun q k hq _ h9 => nn q k ?_) (fun q k hq ht => ty q k hq (by omega))) (h3 3 (by omega)) (fun c hc o _ => h4 c hc _ (by omega)) (fun o _ => h5 0 (by omega) _ (by omega)) (h1 50 (by omega))⟩
  · obtain ⟨g1, g2, g3⟩ := r9 q hq
    exact lo _ _ (by omega) (by omega) (by omega)
  · have := DK_keep d2 hz u (lo _ _ (by omega) (by omega) (by omega))
    unfold DK at this ⊢
    rw [h3 4 (by omega)]
    exact this
  · rintro (z | z | ⟨-, -, z⟩)
    · have := hq.1; omega
    · have := hq.1; omega
    · exact z h9
theorem MS_E (h : MS m M A) (hz : m + 33 ≤ ddZ M) (u : Un P M M') (hP : ∀ b k, P b k → (m + 1 ≤ b ∧ b < m + 15 ∧ k < 120) ∨ (b = m ∧ k = 1)) (hE : ME m M' A') (h1 : ∀ c, 7 ≤ c → A'.1 c = A.1 c) (h4 : ∀ c, c < 7 → ∀ j, 120 < j → A'.1 c j = A.1 c j) (h2 : ∀ c, 7 ≤ c → A'.2.1 c = A.2.1 c) (h5 : ∀ c, c < 7 → ∀ j, 120 < j → A'.2.1 c j = A.2.1 c j) (h3 : ∀ i, i ≠ 0 → A'.2.2 i = A.2.2 i) : MS m M' A' := by
  obtain ⟨d1, d2, d3, d4, d5, d6, d7⟩ := h
  have nn : ∀ b k, ¬ ((m + 1 ≤ b ∧ b < m + 15 ∧ k < 120) ∨ (b = m ∧ k = 1)) → ¬ P b k := fun b k q z => q (hP b k z)
  refine ⟨MW_keep d1 hz u (fun k _ _ _ _ _ _ => nn _ _ (by omega)), ?_, MD_cg (MD_keep d3 hz u (fun j hj => ⟨nn _ _ (by omega), nn _ _ (by omega)⟩)) (h1 40 (by omega)) (h1 41 (by omega)), MC_cg (MC_keep d4 hz u (fun o j _ _ => nn _ _ (by omega))) (fun c _ _ => h1 c (by omega)) (h2 30 (by omega)), hE, ML_cg (ML_keep d6 hz u ⟨nn _ _ (by omega), nn _ _ (by omega)⟩ (fun o j _ _ => nn _ _ (by omega))) (h3 1 (by omega)) (h3 2 (by omega)) (fun c hc => h1 c (by omega)) (h2 10 (by omega)), MO_cg (MO_keep d7 hz u (nn _ _ (by omega)) (fun o j _ _ _ => nn _ _ (by omega)) (fun j => nn _ _ (by omega))) (h3 3 (by omega)) (fun c hc o _ => h4 c hc _ (by omega)) (fun c hc o _ => h5 c hc _ (by omega)) (h1 50 (by omega))⟩
  have := MK_keep d2 hz u (nn _ _ (by omega))
  unfold MK at this ⊢
  rw [h3 4 (by omega)]
  exact this
/-- one entry's changing fields -/
theorem DE_upd {e q : Nat} (h : DE a M A) (hz : a + 65 ≤ ddZ M) (u : Un P M M') (hP : ∀ b k, P b k → b = q ∧ 9 < k) (he : e < A.2.2 0) (hq : EH a M A e q) (hx : EX a M' q A' e) (h0 : A'.2.2 0 = A.2.2 0) (h1 : ∀ c, c < 7 → A'.1 c = A.1 c) (h2 : ∀ c, c < 7 → ∀ j, j ≠ e → A'.2.1 c j = A.2.1 c j) : DE a M' A' := by
  obtain ⟨a1, a2, a3⟩ := id h
  have qn := hq.2.1.1
  have n2 : ∀ k, ¬ P (a + 2) k := fun k z => by have := hP _ _ z; omega
  have nf : ∀ r f k, fx_ a M r → ddR M r 8 = some f → ddT M f = 20 → ¬ P f k := fun r f k _ _ ht z => by
    have := (hP _ _ z).1
    subst this
    rw [hq.T] at ht
    cases ht
  refine ⟨by rw [h0]; exact a1, by rw [h0, u.I (by omega) (fun z => by have := hP _ _ z; omega)]; exact a2, fun e' he' => ?_⟩
  rw [h0] at he'
  obtain ⟨r, r1, r2, r3, r4, r5⟩ := a3 e' he'
  have hf : ∀ f k, ddR M r 8 = some f → ¬ P f k := fun f k hf => by
    obtain ⟨-, -, -, -, -, -, -, -, -, f', f1, f2, -⟩ := r4
    have e' : f' = f := by rw [f1] at hf; exact Option.some.inj hf
    exact nf r f k r3 hf (by rw [← e']; exact f2)
  refine ⟨r, by rw [u.R (by omega) (n2 _)]; exact r1, nw_keep r2 u, fx_keep r3 r2 u (fun z => by have := hP _ _ z; omega), EO_cg (fun c hc => by rw [h1 c hc]) (EO_keep r4 r2 r3 u (fun k hk z => by have := hP _ _ z; omega) hf), ?_⟩
  by_cases hee : e' = e
  · subst hee
    have : r = q := by
      have := r1.symm.trans hq.1
      cases this
      rfl
    rw [this]
    exact hx
  · have hrq : r ≠ q := fun z => by
      subst z
      exact hee (EH.one (e := e') (e' := e) ⟨r1, r2, r3, r4, r5⟩ hq (by omega) (by omega))
    have k5 := EX_keep r5 hz r2 u (fun k z => hrq (hP _ _ z).1) n2
    obtain ⟨e1, e9, e10, e11, e12, e13, e14, e15, ek⟩ := k5
    refine ⟨by rw [h2 0 (by omega) _ hee]; exact e1, e9, by rw [h2 1 (by omega) _ hee]; exact e10, by rw [h2 2 (by omega) _ hee]; exact e11, by rw [h2 3 (by omega) _ hee]; exact e12, by rw [h2 6 (by omega) _ hee]; exact e13, by rw [h2 4 (by omega) _ hee]; exact e14, by rw [h1 0 (by omega), h2 0 (by omega) _ hee]; exact e15, fun j hj => ?_⟩
    rw [h0, clB_cg (fun c hc => by rw [h1 c hc]) (fun c hc => by rw [h1 c hc])]
    exact ek j hj
end FE
/-! finish -/
def ins_ (f e d : Int32) : Bool := !decide (d ≤ f) && (decide (e = -1) || decide (d < e))
theorem ins_cases {f e d : Int32} {P : Int32 → Prop} (h : P (b2_ (ins_ f e d))) : (d ≤ f → P 0) ∧ (¬ d ≤ f → ((e = -1 → P 1) ∧ (¬ e = -1 → ((e ≤ d → P 0) ∧ (¬ e ≤ d → P 1))))) := by
  refine ⟨fun c => ?_, fun c => ⟨fun c1 => ?_, fun c1 => ⟨fun c2 => ?_, fun c2 => ?_⟩⟩⟩
  · have e1 : ins_ f e d = false := by unfold ins_; rw [decide_eq_true c]; rfl
    rw [e1] at h
    exact h
  · have e1 : ins_ f e d = true := by unfold ins_; rw [decide_eq_false c, decide_eq_true c1]; rfl
    rw [e1] at h
    exact h
  · have c3 : ¬ d < e := by rw [xi_le] at c2; rw [xi_lt]; omega
    have e1 : ins_ f e d = false := by unfold ins_; rw [decide_eq_false c, decide_eq_false c1, decide_eq_false c3]; rfl
    rw [e1] at h
    exact h
  · have c3 : d < e := by rw [xi_le] at c2; rw [xi_lt]; omega
    have e1 : ins_ f e d = true := by unfold ins_; rw [decide_eq_false c, decide_eq_false c1, decide_eq_true c3]; rfl
    rw [e1] at h
    exact h
theorem se_isInside {M : Mm} {q : Nat} {d : Int32} {post : Int32 → Mm → Prop} (hT : ddT M q = 3) (h : post (b2_ (ins_ (ddI M q 7) (ddI M q 10) d)) M) : PX2_isInside q d M post := ⟨hT, ins_cases (P := fun r => post r M) h⟩
def isD (A : Ab) (d : Int32) : Bool := wi_ d.toInt (A.2.2 4) 20000
theorem sp_isFree {m : Nat} {M : Mm} {A : Ab} {x : Int32} {post : Int32 → Mm → Prop} (hM : MS m M A) (hW : WA A) (h : post (b2_ (isD A x)) M) : PX11_isFree m x M post := by
  have h1 := hW.1
  refine ⟨hM.1.1, sp_in ⟨b2_01 _, ?_⟩⟩
  rw [wd_T, wd_T, show ddI M m 0 = nI (A.2.2 4) from hM.2.1, nI_T (by omega)]
  exact h
def mEnd (A : Ab) (e : Nat) (d : Int32) : Bool := isD A d && ins_ (nI (A.1 6 e)) (A.2.1 1 e) d
theorem sp_mayEnd {m : Nat} {M : Mm} {A : Ab} {e : Nat} {x : Int32} {post : Int32 → Mm → Prop} (hM : MS m M A) (hW : WA A) (he : e < A.2.2 0) (h : post (b2_ (mEnd A e x)) M) : PX11_mayEnd m (nI e) x M post := by
  have hE := hM.2.2.2.2.1
  have h0 := hE.1
  obtain ⟨⟨r0, r1, r3, r4, r5, r6, -⟩, ⟨s0, s1, s2, -⟩⟩ := hE.2.2 _ he
  obtain ⟨a1, a2, a3⟩ := hM.1.f8
  obtain ⟨b1, b2, b3⟩ := hM.1.f9
  have hin : vp_in (nI e) (ddN M (m + 8)) := by rw [b3]; exact nI_in2 (by omega) (by decide)
  refine ⟨hM.1.1, sp_isFree hM hW (bz (fun c => ?_) (fun c => ⟨hM.1.1, m + 7, a1, a2, by rw [a3]; exact nI_in2 (by omega) (by decide), ?_⟩))⟩
  · have : mEnd A e x = false := by unfold mEnd; rw [c]; rfl
    rw [this] at h; exact h
  · have : mEnd A e x = ins_ (nI (A.1 6 e)) (A.2.1 1 e) x := by unfold mEnd; rw [c]; rfl
    rw [this] at h
    rw [← s1] at h
    rw [nI_cl (by omega), r6]
    have h2 := ins_cases (P := fun r => post r M) h
    exact ⟨h2.1, fun c => ⟨m + 8, b1, b2, hin, (h2.2 c).1, fun c1 => ⟨hin, (h2.2 c).2 c1⟩⟩⟩
def ok_finish (A : Ab) (x d : Int32) : Bool := isE A x && (!decide (A.1 0 x.toInt.toNat = 3) && mEnd A x.toInt.toNat d)
def an_finish (A : Ab) (x d : Int32) : Int32 := if ok_finish A x d then 1 else -2
def nx_finish (A : Ab) (x d : Int32) : Ab := if ok_finish A x d then uH_ A 1 x.toInt.toNat d else A
theorem EX_end {a : Nat} {M : Mm} {A : Ab} {e q : Nat} {d : Int32} (h : EX a M q A e) (hq : q ≠ a + 2) : EX a (suI M q 10 d) q (uH_ A 1 e d) e := by
  obtain ⟨e1, e9, e10, e11, e12, e13, e14, e15, ek⟩ := h
  refine ⟨?_, ?_, ?_, ?_, ?_, e13, e14, e15, ek⟩
  · rw [gI_I, if_neg (by omega), uH_2, if_neg (by omega)]; exact e1
  · rw [gI_I, if_neg (by omega)]; exact e9
  · rw [gI_I, if_pos ⟨rfl, rfl⟩, uH_2, if_pos ⟨rfl, rfl⟩]
  · rw [gI_I, if_neg (by omega), uH_2, if_neg (by omega)]; exact e11
  · rw [gI_I, if_neg (by omega), uH_2, if_neg (by omega)]; exact e12
theorem dn_finish {a : Nat} {M : Mm} {A : Ab} {x d : Int32} {post : Int32 → Mm → Prop} (hS : SS a M A) (h : ∀ M1, DS a M1 (nx_finish A x d) → MS (a + 32) M1 A → post (an_finish A x d) M1) : PX10_finish a x d M post := by
  obtain ⟨hD, hM, hW⟩ := hS
  have hz := hD.1.2.2.2.2
  have hDE := hD.2.2.2.2.1
  have h120 := hDE.1
  have hT0 : ddT M a = 11 := DW_T hD.1 (i := 0) (by decide)
  have no : ok_finish A x d = false → post (-2) M := fun c => by
    have e1 : an_finish A x d = -2 := by unfold an_finish; rw [if_neg (by rw [c]; decide)]
    have e2 : nx_finish A x d = A := by unfold nx_finish; rw [if_neg (by rw [c]; decide)]
    rw [e1, e2] at h
    exact h M hD hM
  refine ⟨hT0, a + 1, DW_R hD.1 (i := 0) (by decide), DW_T hD.1 (by decide), se_entryAt hD.1 hDE (fun c => co_none (no (by unfold ok_finish; rw [c]; rfl)) rfl) (fun e q c c1 c2 c3 hq => co_some q ⟨hq.T, ?_⟩ rfl)⟩
  unfold ok_finish at no
  rw [c, ← c1, Bool.true_and] at no
  obtain ⟨k1, k2, k3, hO, hX⟩ := id hq
  obtain ⟨hT, e0, e2, e3, e4, e5, e6, e7, hG, -⟩ := id hO
  have hk := hG.1
  rw [e0, show (3 : Int32) = nI 3 from rfl, nI_eq (by omega) (by omega)]
  refine ⟨fun z => no (by rw [decide_eq_true z]; rfl), fun z => ⟨hT0, se_toCome hD hW (bz (fun z1 => no ?_) (fun z1 => ⟨hT, se_isInside hT (bn (fun z2 => ⟨hT, fun M2 E2 => ?_⟩) (fun z2 => no ?_))⟩))⟩⟩
  · unfold mEnd isD
    rw [z1, Bool.false_and, Bool.and_false]
  · rw [e7, hX.2.2.1] at z2
    have ok : ok_finish A x d = true := by
      unfold ok_finish mEnd isD
      rw [c, ← c1, decide_eq_false z, z1, z2]; rfl
    have e8 : an_finish A x d = 1 := by unfold an_finish; rw [if_pos ok]
    have e9 : nx_finish A x d = uH_ A 1 e d := by unfold nx_finish; rw [if_pos ok, ← c1]
    rw [e8, e9] at h
    have u : Un (fun b k => b = q ∧ k = 10) M M2 := by rw [E2]; exact Un.sI
    have hE2 : DE a M2 (uH_ A 1 e d) := DE_upd hDE hz u (fun b k z => by omega) c2 hq (by rw [E2]; exact EX_end hX (by have := k2.1; omega)) rfl (fun _ _ => rfl) (fun c hc j hj => by rw [uH_2, if_neg (by omega)])
    refine h M2 (DS_E hD u (fun b k z => Or.inr (Or.inr ?_)) hE2 (fun l hl => (hW.2.2.2.2.1 l hl).1) (fun _ _ => rfl) (fun _ _ _ _ => rfl) (fun c hc => ?_) (fun c hc j hj => by rw [uH_2, if_neg (by omega)]) (fun _ _ => rfl)) (MS_keep hM hz u (fun b k z => by have := k2.1; omega))
    · rw [z.1]
      refine ⟨k2, hT, ?_⟩
      rw [hX.2.1]
      exact nI_m1 (by omega)
    · funext j
      rw [uH_2, if_neg (by omega)]
  · rw [e7, hX.2.2.1] at z2
    unfold mEnd
    rw [z2, Bool.and_false, Bool.and_false]
theorem mn_finish {m : Nat} {M : Mm} {A : Ab} {x d : Int32} {post : Int32 → Mm → Prop} (hM : MS m M A) (hW : WA A) (hz : m + 33 ≤ ddZ M) (h : ∀ M1, MS m M1 (nx_finish A x d) → Un (fun b _ => m ≤ b ∧ b < m + 33) M M1 → post (an_finish A x d) M1) : PX11_finish m x d M post := by
  have hE := hM.2.2.2.2.1
  have h0 := hE.1
  have no : ok_finish A x d = false → post (-2) M := fun c => by
    have e1 : an_finish A x d = -2 := by unfold an_finish; rw [if_neg (by rw [c]; decide)]
    have e2 : nx_finish A x d = A := by unfold nx_finish; rw [if_neg (by rw [c]; decide)]
    rw [e1, e2] at h
    exact h M hM Un.rf
  refine ⟨hM.1.1, sp_isEntry hM.1 hE (bz (fun c => no (by unfold ok_finish; rw [c]; rfl)) (fun c => ?_))⟩
  obtain ⟨c1, c2⟩ := isE_t c
  obtain ⟨e, ee⟩ : ∃ e, e = x.toInt.toNat := ⟨_, rfl⟩
  unfold ok_finish at no
  rw [c, ← ee, Bool.true_and] at no
  rw [← ee] at c1 c2
  obtain ⟨⟨r0, r1, r3, r4, r5, r6, hG⟩, ⟨s0, s1, s2, -⟩⟩ := id (hE.2.2 _ c1)
  obtain ⟨a1, a2, a3⟩ := hM.1.f2
  obtain ⟨b1, b2, b3⟩ := hM.1.f9
  rw [c2, nI_cl (by omega)]
  have hk := hG.1
  refine ⟨hM.1.1, m + 1, a1, a2, by rw [a3]; exact nI_in2 (by omega) (by decide), ?_⟩
  rw [r0, show (3 : Int32) = nI 3 from rfl, nI_eq (by omega) (by omega)]
  refine ⟨fun z => no (by rw [decide_eq_true z]; rfl), fun z => sp_mayEnd hM hW c1 (bn (fun z1 => ⟨hM.1.1, m + 8, b1, b2, by rw [b3]; exact nI_in2 (by omega) (by decide), fun M2 E2 => ?_⟩) (fun z1 => no (by rw [z1, Bool.and_false])))⟩
  have ok : ok_finish A x d = true := by
    unfold ok_finish
    rw [c, ← ee, decide_eq_false z, z1]; rfl
  have e8 : an_finish A x d = 1 := by unfold an_finish; rw [if_pos ok]
  have e9 : nx_finish A x d = uH_ A 1 e d := by unfold nx_finish; rw [if_pos ok, ← ee]
  rw [e8, e9] at h
  have u : Un (fun b k => b = m + 8 ∧ k = e) M M2 := by rw [E2]; exact Un.sI
  refine h M2 (MS_E hM hz u (fun b k z => by omega) ⟨h0, by rw [u.I (by omega) (by omega)]; exact hE.2.1, fun e' he' => ?_⟩ (fun _ _ => rfl) (fun _ _ _ _ => rfl) (fun c hc => by funext j; rw [uH_2, if_neg (by omega)]) (fun c hc j hj => by rw [uH_2, if_neg (by omega)]) (fun _ _ => rfl)) (u.wk (fun b k _ q => by omega))
  obtain ⟨q1, q2⟩ := hE.2.2 e' he'
  refine ⟨?_, ?_⟩
  · unfold MR at q1 ⊢
    rw [u.I (by omega) (by omega), u.I (by omega) (by omega), u.I (by omega) (by omega), u.I (by omega) (by omega), u.I (by omega) (by omega), u.I (by omega) (by omega)]
    exact q1
  · unfold HR at q2 ⊢
    simp only [uH_2, uH_1]
    rw [u.I (b := m + 2) (by omega) (by omega), u.I (b := m + 9) (by omega) (by omega), u.I (b := m + 10) (by omega) (by omega), u.I (b := m + 11) (by omega) (by omega), u.I (b := m + 12) (by omega) (by omega), u.I (b := m + 13) (by omega) (by omega), u.L (b := m + 14) (by omega) (by omega), E2, gI_I]
    obtain ⟨t0, t1, t2, t3, t4, t5, t6, t7⟩ := q2
    refine ⟨by simpa using t0, ?_, by simpa using t2, by simpa using t3, by simpa using t4, by simpa using t5, by simpa using t6, t7⟩
    by_cases hee : e' = e
    · subst hee; simp
    · simp only [hee, and_false, if_false]; exact t1
