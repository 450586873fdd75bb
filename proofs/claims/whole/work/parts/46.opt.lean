/-! frames for a change of options and entries -/
section FO
variable {P : Nat → Nat → Prop} {M M' : Mm} {a m : Nat} {A A' : Ab}
theorem DL_E2 (h : DL a M A) (hz : a + 65 ≤ ddZ M) (u : Un P M M') (k0 : ¬ P (a + 4) 1 ∧ ¬ P (a + 4) 2) (k2 : ∀ l, l < A.2.2 1 → ¬ P (a + 2) (A.1 10 l)) (k4 : ∀ e, ¬ P (a + 5) e) (k3 : ∀ q k, nw_ a M q → ddT M q = 4 ∨ ddT M q = 8 → ¬ P q k) (h0 : A'.2.2 2 = A.2.2 2) (h00 : A'.2.2 1 = A.2.2 1) (h1 : ∀ c, 7 ≤ c → c ≠ 50 → A'.1 c = A.1 c) (h4 : ∀ l, l < A.2.2 1 → ∀ c, c < 7 → A'.1 c (A.1 10 l) = A.1 c (A.1 10 l)) (h2 : A'.2.1 10 = A.2.1 10) : DL a M' A' := by
  obtain ⟨a1, a2, a3, a4, a5, a6⟩ := h
  refine ⟨by rw [h00]; exact a1, by rw [h00, u.I (by omega) k0.1]; exact a2, by rw [h0]; exact a3, by rw [h0, u.I (by omega) k0.2]; exact a4, fun l hl => ?_, fun l l' q hl hl' q1 q2 => ?_⟩
  · rw [h00] at hl
    obtain ⟨q, q1, q2⟩ := a5 l hl
    refine ⟨q, by rw [u.R (by omega) (k4 l)]; exact q1, ?_⟩
    obtain ⟨l1, l2, l3, l4, l5, l6, l7, l8⟩ := q2
    have n1 : ∀ k, ¬ P q k := fun k => k3 q k l1 (Or.inl l2)
    refine ⟨nw_keep l1 u, by rw [u.T l1.2]; exact l2, ?_, ?_, ?_, ?_, ?_, ?_⟩
    · rw [h1 10 (by omega) (by omega), u.R l1.2 (n1 0), u.R (by omega) (k2 l hl)]; exact l3
    · rw [h1 11 (by omega) (by omega), u.I l1.2 (n1 1)]; exact l4
    · rw [h1 11 (by omega) (by omega), h1 10 (by omega) (by omega), h4 l hl 4 (by omega), h4 l hl 2 (by omega), u.I l1.2 (n1 2)]; exact l5
    · rw [h1 12 (by omega) (by omega), u.I l1.2 (n1 3)]; exact l6
    · rw [h2, u.I l1.2 (n1 4)]; exact l7
    · rw [h0, u.R l1.2 (n1 5)]
      exact ch_cg (fun c q1 q2 => h1 c (by omega) (by omega)) (ch_keep l8 u (fun p k hp ht => k3 p k hp (Or.inr ht)))
  · rw [h00] at hl hl'
    rw [u.R (by omega) (k4 _)] at q1 q2
    exact a6 l l' q hl hl' q1 q2
theorem DE_cgj (h : DE a M A) (h0 : A'.2.2 0 = A.2.2 0) (h1 : ∀ c, c < 7 → ∀ j, j < A.2.2 0 → A'.1 c j = A.1 c j) (h2 : ∀ c, c < 7 → ∀ j, j < A.2.2 0 → A'.2.1 c j = A.2.1 c j) : DE a M A' := by
  obtain ⟨a1, a2, a3⟩ := h
  refine ⟨by rw [h0]; exact a1, by rw [h0]; exact a2, fun e he => ?_⟩
  rw [h0] at he
  obtain ⟨q, q1, q2, q3, q4, q5⟩ := a3 e he
  refine ⟨q, q1, q2, q3, EO_cg (fun c hc => h1 c hc e he) q4, ?_⟩
  obtain ⟨e1, e9, e10, e11, e12, e13, e14, e15, ek⟩ := q5
  refine ⟨?_, e9, ?_, ?_, ?_, ?_, ?_, ?_, fun j hj => ?_⟩
  · rw [h2 0 (by omega) e he]; exact e1
  · rw [h2 1 (by omega) e he]; exact e10
  · rw [h2 2 (by omega) e he]; exact e11
  · rw [h2 3 (by omega) e he]; exact e12
  · rw [h2 6 (by omega) e he]; exact e13
  · rw [h2 4 (by omega) e he]; exact e14
  · rw [h1 0 (by omega) e he, h2 0 (by omega) e he]; exact e15
  · rw [h0, ek j hj]
    by_cases hjn : j < A.2.2 0
    · rw [clB_cg (fun c hc => h1 c hc j hjn) (fun c hc => h1 c hc e he)]
    · rw [decide_eq_false hjn, Bool.false_and, Bool.false_and]
theorem DS_asm (h : DS a M A) (u : Un P M M') (hP : ∀ b k, P b k → (b = a + 2 ∧ A.2.2 0 ≤ k) ∨ (b = a + 1 ∧ k = 1) ∨ (b = a + 11 ∧ k = 3) ∨ b = a + 29 ∨ (nw_ a M b ∧ ddT M b = 3)) (hE : DE a M' A') (hO : DO a M' A') (hl : ∀ l, l < A.2.2 1 → A.1 10 l < A.2.2 0) (h1 : ∀ c, 7 ≤ c → c ≠ 50 → A'.1 c = A.1 c) (h4 : ∀ c, c < 7 → ∀ j, j < A.2.2 0 → A'.1 c j = A.1 c j) (h2 : ∀ c, 7 ≤ c → A'.2.1 c = A.2.1 c) (h3 : ∀ i, i ≠ 0 → i ≠ 3 → A'.2.2 i = A.2.2 i) : DS a M' A' := by
  obtain ⟨d1, d2, d3, d4, d5, d6, d7⟩ := h
  have hz := d1.2.2.2.2
  have nn : ∀ b k, ¬ ((b = a + 2 ∧ A.2.2 0 ≤ k) ∨ (b = a + 1 ∧ k = 1) ∨ (b = a + 11 ∧ k = 3) ∨ b = a + 29 ∨ (nw_ a M b ∧ ddT M b = 3)) → ¬ P b k := fun b k q z => q (hP b k z)
  have lo : ∀ b k, b < a + 65 → ¬ (b = a + 2 ∧ A.2.2 0 ≤ k) → ¬ (b = a + 1 ∧ k = 1) → ¬ (b = a + 11 ∧ k = 3) → ¬ (b = a + 29) → ¬ P b k := fun b k hb q1 q2 q3 q4 => nn b k (by
    rintro (z | z | z | z | ⟨z, -⟩)
    · exact q1 z
    · exact q2 z
    · exact q3 z
    · exact q4 z
    · have := z.1; omega)
  have ty : ∀ q k, nw_ a M q → ddT M q ≠ 3 → ¬ P q k := fun q k hq ht => nn q k (by
    rintro (z | z | z | z | ⟨-, z⟩)
    · have := hq.1; omega
    · have := hq.1; omega
    · have := hq.1; omega
    · have := hq.1; omega
    · exact ht z)
  have r9 : ∀ q ∈ dw_R, q.1 < 32 ∧ ¬ (q.1 = 2) ∧ ¬ (q.1 = 1 ∧ q.2.1 = 1) ∧ ¬ (q.1 = 11 ∧ q.2.1 = 3) ∧ ¬ (q.1 = 29) := by decide
  refine ⟨DW_keep d1 u (fun q hq => ?_) (fun j hj => lo _ _ (by omega) (by omega) (by omega) (by omega) (by omega)), ?_, DD_cg (DD_keep d3 hz u (fun j hj => ⟨lo _ _ (by omega) (by omega) (by omega) (by omega) (by omega), lo _ _ (by omega) (by omega) (by omega) (by omega) (by omega)⟩)) (h1 40 (by omega) (by omega)) (h1 41 (by omega) (by omega)), DC_cg (DC_keep d4 hz u (fun k f hk => lo _ _ (by omega) (by omega) (by omega) (by omega) (by omega))) (fun c _ _ => h1 c (by omega) (by omega)) (h2 30 (by omega)), hE, DL_E2 d6 hz u ⟨lo _ _ (by omega) (by omega) (by omega) (by omega) (by omega), lo _ _ (by omega) (by omega) (by omega) (by omega) (by omega)⟩ (fun l hl2 => lo _ _ (by omega) (by have := hl l hl2; omega) (by omega) (by omega) (by omega)) (fun e => lo _ _ (by omega) (by omega) (by omega) (by omega) (by omega)) (fun q k hq ht => ty q k hq (by omega)) (h3 2 (by omega) (by omega)) (h3 1 (by omega) (by omega)) h1 (fun l hl2 c hc => h4 c hc _ (hl l hl2)) (h2 10 (by omega)), hO⟩
  · obtain ⟨g1, g2, g3, g4, g5⟩ := r9 q hq
    exact lo _ _ (by omega) (by omega) (by omega) (by omega) (by omega)
  · have := DK_keep d2 hz u (lo _ _ (by omega) (by omega) (by omega) (by omega) (by omega))
    unfold DK at this ⊢
    rw [h3 4 (by omega) (by omega)]
    exact this
theorem MS_asm (h : MS m M A) (hz : m + 33 ≤ ddZ M) (u : Un P M M') (hP : ∀ b k, P b k → (m + 1 ≤ b ∧ b < m + 15) ∨ (b = m ∧ (k = 1 ∨ k = 35)) ∨ b = m + 31) (hE : ME m M' A') (hO : MO m M' A') (h1 : ∀ c, 7 ≤ c → c ≠ 50 → A'.1 c = A.1 c) (h2 : ∀ c, 7 ≤ c → A'.2.1 c = A.2.1 c) (h3 : ∀ i, i ≠ 0 → i ≠ 3 → A'.2.2 i = A.2.2 i) : MS m M' A' := by
  obtain ⟨d1, d2, d3, d4, d5, d6, d7⟩ := h
  have nn : ∀ b k, ¬ ((m + 1 ≤ b ∧ b < m + 15) ∨ (b = m ∧ (k = 1 ∨ k = 35)) ∨ b = m + 31) → ¬ P b k := fun b k q z => q (hP b k z)
  refine ⟨MW_keep d1 hz u (fun k _ _ _ _ _ _ => nn _ _ (by omega)), ?_, MD_cg (MD_keep d3 hz u (fun j hj => ⟨nn _ _ (by omega), nn _ _ (by omega)⟩)) (h1 40 (by omega) (by omega)) (h1 41 (by omega) (by omega)), MC_cg (MC_keep d4 hz u (fun o j _ _ => nn _ _ (by omega))) (fun c _ _ => h1 c (by omega) (by omega)) (h2 30 (by omega)), hE, ML_cg (ML_keep d6 hz u ⟨nn _ _ (by omega), nn _ _ (by omega)⟩ (fun o j _ _ => nn _ _ (by omega))) (h3 1 (by omega) (by omega)) (h3 2 (by omega) (by omega)) (fun c hc => h1 c (by omega) (by omega)) (h2 10 (by omega)), hO⟩
  have := MK_keep d2 hz u (nn _ _ (by omega))
  unfold MK at this ⊢
  rw [h3 4 (by omega) (by omega)]
  exact this
end FO
/-! mightCome -/
def ok_might (A : Ab) (x p s l d k : Int32) : Bool := ok_block A x p s l d && wi_ k.toInt 0 1000000
def oA_ (A : Ab) (v : Nat → Nat) (ar : Int32) (k : Nat) : Ab := uC_ (uN_ (ent_ A (121 + A.2.2 3) v ar (-1)) 50 (A.2.2 3) k) 3 (A.2.2 3 + 1)
def an_might (A : Ab) (x p s l d k : Int32) : Int32 := if ok_might A x p s l d k then (if A.2.2 3 = 8 then -3 else nI (A.2.2 3)) else -2
def nx_might (A : Ab) (x p s l d k : Int32) : Ab := if ok_might A x p s l d k && !decide (A.2.2 3 = 8) then oA_ A (v_block p s l d) x k.toInt.toNat else A
theorem mg_f {A : Ab} {x p s l d k : Int32} (c : ok_might A x p s l d k = false) : an_might A x p s l d k = -2 ∧ nx_might A x p s l d k = A := by unfold an_might nx_might; rw [c]; exact ⟨rfl, rfl⟩
theorem mg_u {A : Ab} {x p s l d k : Int32} (c : ok_might A x p s l d k = true) (e : A.2.2 3 = 8) : an_might A x p s l d k = -3 ∧ nx_might A x p s l d k = A := by unfold an_might nx_might; rw [c, e]; exact ⟨rfl, rfl⟩
theorem mg_t {A : Ab} {x p s l d k : Int32} (c : ok_might A x p s l d k = true) (e : A.2.2 3 ≠ 8) : an_might A x p s l d k = nI (A.2.2 3) ∧ nx_might A x p s l d k = oA_ A (v_block p s l d) x k.toInt.toNat := by unfold an_might nx_might; rw [c, if_pos rfl, if_neg e, decide_eq_false e]; exact ⟨rfl, rfl⟩
section OA
variable {A : Ab} {v : Nat → Nat} {ar : Int32} {k : Nat}
theorem oA_1 {c j : Nat} : (oA_ A v ar k).1 c j = if c = 50 ∧ j = A.2.2 3 then k else if j = 121 + A.2.2 3 ∧ c < 7 then v c else A.1 c j := rfl
theorem oA_1n {c j : Nat} (h : j ≠ 121 + A.2.2 3) (hc : c < 7) : (oA_ A v ar k).1 c j = A.1 c j := by rw [oA_1, if_neg (by omega), if_neg (fun z => h z.1)]
theorem oA_1s {c : Nat} (hc : c < 7) : (oA_ A v ar k).1 c (121 + A.2.2 3) = v c := by rw [oA_1, if_neg (by omega), if_pos ⟨rfl, hc⟩]
theorem oA_1c {c : Nat} (h : 7 ≤ c) (h2 : c ≠ 50) : (oA_ A v ar k).1 c = A.1 c := by funext j; rw [oA_1, if_neg (fun z => h2 z.1), if_neg (by omega)]
theorem oA_50 {j : Nat} : (oA_ A v ar k).1 50 j = if j = A.2.2 3 then k else A.1 50 j := by
  rw [oA_1]
  by_cases h : j = A.2.2 3
  · rw [if_pos ⟨rfl, h⟩, if_pos h]
  · rw [if_neg (fun z => h z.2), if_neg (by omega), if_neg h]
theorem oA_2 {c j : Nat} : (oA_ A v ar k).2.1 c j = if j = 121 + A.2.2 3 ∧ c < 7 then (if c = 0 then ar else if c = 1 then -1 else if c = 5 then 0 else -1) else A.2.1 c j := rfl
theorem oA_2n {c j : Nat} (h : j ≠ 121 + A.2.2 3) : (oA_ A v ar k).2.1 c j = A.2.1 c j := by rw [oA_2, if_neg (fun z => h z.1)]
theorem oA_2c {c : Nat} (h : 7 ≤ c) : (oA_ A v ar k).2.1 c = A.2.1 c := by funext j; rw [oA_2, if_neg (by omega)]
theorem oA_3 : (oA_ A v ar k).2.2 3 = A.2.2 3 + 1 := rfl
theorem oA_3n {i : Nat} (h : i ≠ 3) : (oA_ A v ar k).2.2 i = A.2.2 i := by show (if i = 3 then _ else _) = _; rw [if_neg h]; rfl
end OA
theorem dn_might {a : Nat} {M : Mm} {A : Ab} {x p s l d k : Int32} {post : Int32 → Mm → Prop} (hS : SS a M A) (h : ∀ M1, DS a M1 (nx_might A x p s l d k) → MS (a + 32) M1 A → post (an_might A x p s l d k) M1) : PX10_mightCome a x p s l d k M post := by
  obtain ⟨hD, hM, hA⟩ := id hS
  have hz := hD.1.2.2.2.2
  have hT0 : ddT M a = 11 := DW_T hD.1 (i := 0) (by decide)
  have hDE := hD.2.2.2.2.1
  have hDO := hD.2.2.2.2.2.2
  have no : ok_might A x p s l d k = false → post (-2) M := fun c => by
    rw [(mg_f c).1, (mg_f c).2] at h
    exact h M hD hM
  refine se_isBlock (A := A) (d := d) (fun c => ⟨fun _ => no (by unfold ok_might; rw [c]; rfl), fun z => absurd rfl z⟩) (fun c => ⟨fun z => absurd z (by decide), fun _ => ⟨hT0, se_toCome hD hA (bz (fun z => no (by unfold ok_might; rw [c]; unfold isD; rw [z]; rfl)) (fun z => se_within (bn (fun z1 => ⟨hT0, fun n12 e12 M13 E13 n14 e14 M15 E15 => ?_⟩) (fun z1 => no ?_))))⟩⟩)
  · have z1 : wi_ k.toInt 0 1000000 = true := z1
    have okb : ok_block A x p s l d = true := by rw [c]; unfold isD; exact z
    have ok : ok_might A x p s l d k = true := by unfold ok_might; rw [okb, z1]; rfl
    obtain ⟨k1, k2, k3, k4, k5, k6, k7, k8⟩ := ok_block_t okb
    obtain ⟨v, ev⟩ : ∃ v, v = v_block p s l d := ⟨_, rfl⟩
    rw [← ev] at k1 k2 k3 k4 k5 k6 k8
    have v0 : v 0 = 0 := by rw [ev]; exact v_block_0
    have zk := wi_t.mp z1
    have ekn : nI k.toInt.toNat = k := nI_toNat (by omega)
    subst e12 e14
    have u13 : Un (fun _ _ => False) M M13 := by rw [E13]; exact Un.sN
    have z13 : ddZ M13 = ddZ M + 1 := by rw [E13]; rfl
    have D13 : DS a M13 A := DS_scr hD u13 (fun b k q => q.elim)
    have key := se_init (M0 := M13) (G := fun c _ => v c) (j := 0) (ar := x) (post := fun M17 => PX5_init (ddZ M) (some (ddZ M13)) k M17 (fun M19 => ∃ aq20 : Nat, (ddR M a 3) = some aq20 ∧ (ddT M19 aq20 = 10 ∧ (PX9_offer aq20 (some (ddZ M)) M19 (fun r23 M24 => post r23 M24))))) k1 (fun M17 hN => by
      obtain ⟨u, uz, hO, f8, f1, f9, f10, f11, f12, fk⟩ := hN
      have u17 : Un (fun _ _ => False) M M17 := (u13.tr u).wk (fun b k _ q => q.elim id id)
      have t6 : ddT M17 (ddZ M) = 6 := by rw [u.T (by omega), E13, gT_N, if_pos rfl]
      refine ⟨t6, fun M18 E18 M19 E19 => ?_⟩
      have u19 : Un (fun b _ => b = ddZ M) M17 M19 := by rw [E19, E18]; exact (Un.sR.tr Un.sI).wk (fun b j _ q => by omega)
      have u19' : Un (fun _ _ => False) M M19 := (u17.tr u19).wk (fun b j hb q => by
        rcases q with q | q
        · exact q
        · omega)
      have D19 : DS a M19 A := DS_scr hD u19' (fun b k q => q.elim)
      have M19S : MS (a + 32) M19 A := MS_keep hM hz u19' (fun b k q => q.elim)
      have z19 : ddZ M19 = ddZ M17 := by rw [E19, E18]; rfl
      have hDO19 := D19.2.2.2.2.2.2
      obtain ⟨o1, o2, o3, o4⟩ := id hDO19
      have T10 : ddT M19 (a + 11) = 10 := DW_T D19.1 (by decide)
      have T29 : ddT M19 (a + 29) = 27 := DW_T D19.1 (by decide)
      have N29 : ddN M19 (a + 29) = 8 := DW_N D19.1 (by decide)
      have t6' : ddT M19 (ddZ M) = 6 := by rw [u19.T (by omega)]; exact t6
      refine ⟨a + 11, DW_R hD.1 (i := 0) (by decide), T10, T10, a + 29, DW_R D19.1 (by decide), T29, pk_lt (A.2.2 3) 8 (fun y => ⟨by rw [N29, o2]; exact nI_in2 y (by decide), ddZ M, rfl, t6', fun M10 E10 M11 E11 => ?_⟩) (fun y => ?_) o2 (by rw [N29]; rfl) (by omega) (by omega)⟩
      · rw [(mg_t ok (by omega)).1, (mg_t ok (by omega)).2, ← ev] at h
        rw [o2, nI_cl (by omega)] at E10
        have s10 : ddI M10 (a + 11) 3 = nI (A.2.2 3) := by rw [E10]; exact o2
        rw [s10, nI_1] at E11
        have s11 : ddI M11 (a + 11) 3 = nI (A.2.2 3 + 1) := by rw [E11, gI_I, if_pos ⟨rfl, rfl⟩]
        rw [s11, show nI (A.2.2 3 + 1) - 1 = nI (A.2.2 3) from nI_pred _]
        have w : Un (fun b j => (b = a + 29 ∧ j = A.2.2 3) ∨ (b = a + 11 ∧ j = 3)) M19 M11 := by rw [E11, E10]; exact Un.sR.tr Un.sI
        have z11 : ddZ M11 = ddZ M19 := by rw [E11, E10]; rfl
        have w2 : Un (fun b j => (b = a + 29 ∧ j = A.2.2 3) ∨ (b = a + 11 ∧ j = 3)) M M11 := (u19'.tr w).wk (fun b j _ q => by
          rcases q with q | q
          · exact q.elim
          · exact q)
        have n65 : ∀ q k, nw_ a M19 q → ¬ ((q = a + 29 ∧ k = A.2.2 3) ∨ (q = a + 11 ∧ k = 3)) := fun q k hq z => by have := hq.1; omega
        have R29 : ∀ j, j ≠ A.2.2 3 → ddR M11 (a + 29) j = ddR M19 (a + 29) j := fun j hj => w.R (by omega) (by omega)
        have R29n : ddR M11 (a + 29) (A.2.2 3) = some (ddZ M) := by
          rw [E11, E10]
          show ddR (suR M19 (a + 29) (A.2.2 3) (some (ddZ M))) _ _ = _
          rw [gR_R, if_pos ⟨rfl, rfl⟩]
        have newO : OO a M11 (ddZ M) (ddZ M13) (oA_ A v x k.toInt.toNat) (A.2.2 3) := by
          have nr : nw_ a M19 (ddZ M13) := ⟨by omega, by omega⟩
          have nq : nw_ a M19 (ddZ M) := ⟨by omega, by omega⟩
          have fr : fx_ a M17 (ddZ M13) := fun f hf => by
            rw [f8] at hf
            cases hf
            exact ⟨by omega, by omega⟩
          have hne : ¬ (ddZ M13 = ddZ M) := by omega
          have E17 : EO M19 (ddZ M13) (fun c _ => v c) 0 := EO_keep (a := a) hO ⟨by omega, by omega⟩ fr u19 (fun k _ z => hne z) (fun f k hf z => by
            rw [f8] at hf
            cases hf
            omega)
          have fr19 : fx_ a M19 (ddZ M13) := fx_keep fr ⟨by omega, by omega⟩ u19 hne
          have I19 : ∀ j, ddI M11 (ddZ M13) j = ddI M17 (ddZ M13) j := fun j => by rw [w.I (by omega) (by omega), u19.I (by omega) hne]
          have R19 : ∀ j, ddR M11 (ddZ M13) j = ddR M17 (ddZ M13) j := fun j => by rw [w.R (by omega) (by omega), u19.R (by omega) hne]
          have L19 : ∀ j, ddL M11 (ddZ M13) j = ddL M17 (ddZ M13) j := fun j => by rw [w.L (by omega) (by omega), u19.L (by omega) hne]
          refine ⟨⟨by omega, by omega⟩, by rw [w.T (by omega)]; exact t6', ?_, ?_, ⟨by omega, by omega⟩, fx_keep fr19 nr w (n65 _ _ nr), EO_tr (fun c hc => oA_1s hc) (EO_keep (a := a) E17 nr fr19 w (fun k _ => n65 _ k nr) (fun f k hf => n65 _ k (fr19 f hf))), ?_, ?_, ?_, ?_, ?_, ?_, ?_, ?_, ?_, ?_⟩
          · rw [w.R (by omega) (by omega), E19]
            show ddR M18 _ _ = _
            rw [E18, gR_R, if_pos ⟨rfl, rfl⟩]
          · rw [w.I (by omega) (by omega), E19, gI_I, if_pos ⟨rfl, rfl⟩, oA_50, if_pos rfl, ekn]
          · rw [I19, f1, oA_2, if_pos ⟨rfl, by omega⟩, if_pos rfl]
          · rw [I19]; exact f9
          · rw [I19]; exact f10
          · rw [I19]; exact f11
          · rw [I19]; exact f12
          · rw [R19]; exact (fk 13 (by omega)).1
          · rw [R19]; exact (fk 14 (by omega)).1
          · rw [R19]; exact (fk 15 (by omega)).1
          · rw [L19]; exact (fk 16 (by omega)).2
          · rw [L19]; exact (fk 17 (by omega)).2
        have oldO : ∀ o q r, o < A.2.2 3 → ddR M19 (a + 29) o = some q → OO a M19 q r A o → OO a M11 q r (oA_ A v x k.toInt.toNat) o := fun o q r ho _ hoo => by
          obtain ⟨p1, p2, p3, p4, p5, p6, p7, p8, p9⟩ := OO_keep hoo w (fun k => n65 q k hoo.1) (fun k => n65 r k hoo.2.2.2.2.1) (fun f k hf _ => n65 f k hf)
          exact ⟨p1, p2, p3, by rw [oA_50, if_neg (by omega)]; exact p4, p5, p6, EO_cg (fun c hc => oA_1n (by omega) hc) p7, by rw [oA_2n (by omega)]; exact p8, p9⟩
        refine h M11 (DS_asm hD w2 (fun b j q => by omega) (DE_cgj (DE_keep hDE hz w2 (by omega) (fun e q => by omega) (fun q k hq _ z => by have := hq.1; omega)) (oA_3n (by omega)) (fun c hc j hj => oA_1n (by have := hDE.1; omega) hc) (fun c hc j hj => oA_2n (by have := hDE.1; omega))) ⟨by rw [oA_3]; omega, by rw [oA_3]; exact s11, fun o ho => ?_, fun o o' q q' r ho ho' q1 q2 r1 r2 => ?_⟩ (fun l hl => (hA.2.2.2.2.1 l hl).1) (fun c h1 h2 => oA_1c h1 h2) (fun c hc j hj => oA_1n (by have := hDE.1; omega) hc) (fun c hc => oA_2c hc) (fun i _ hi => oA_3n hi)) (MS_keep hM hz w2 (fun b j q => by omega))
        · rw [oA_3] at ho
          by_cases hon : o = A.2.2 3
          · subst hon
            exact ⟨ddZ M, ddZ M13, R29n, newO⟩
          · obtain ⟨q, r, q1, q2⟩ := o3 o (by omega)
            exact ⟨q, r, by rw [R29 o hon]; exact q1, oldO o q r (by omega) q1 q2⟩
        · rw [oA_3] at ho ho'
          have cls : ∀ o q r, o < A.2.2 3 + 1 → ddR M11 (a + 29) o = some q → ddR M11 q 0 = some r → (o = A.2.2 3 ∧ r = ddZ M13) ∨ (o < A.2.2 3 ∧ r < ddZ M ∧ ddR M19 (a + 29) o = some q ∧ ddR M19 q 0 = some r) := fun o q r ho h1 h2 => by
            by_cases hon : o = A.2.2 3
            · subst hon
              rw [R29n] at h1
              cases h1
              rw [newO.2.2.1] at h2
              cases h2
              exact Or.inl ⟨rfl, rfl⟩
            · rw [R29 o hon] at h1
              obtain ⟨q', r', y1, y2⟩ := o3 o (by omega)
              rw [h1] at y1
              cases y1
              rw [(oldO o q r' (by omega) h1 y2).2.2.1] at h2
              cases h2
              refine Or.inr ⟨by omega, ?_, h1, y2.2.2.1⟩
              obtain ⟨q0, r0, x1, x2⟩ := hDO.2.2.1 o (by omega)
              have e1 : ddR M19 (a + 29) o = ddR M (a + 29) o := u19'.R (by omega) (fun z => z)
              rw [e1, x1] at h1
              cases h1
              have e2 : ddR M19 q 0 = ddR M q 0 := u19'.R x2.1.2 (fun z => z)
              have e3 := y2.2.2.1
              rw [e2, x2.2.2.1] at e3
              cases e3
              exact x2.2.2.2.2.1.2
          rcases cls o q r ho q1 r1 with ⟨c1, c2⟩ | ⟨c1, c2, c3, c4⟩
          · rcases cls o' q' r ho' q2 r2 with ⟨c5, c6⟩ | ⟨c5, c6, c7, c8⟩
            · omega
            · omega
          · rcases cls o' q' r ho' q2 r2 with ⟨c5, c6⟩ | ⟨c5, c6, c7, c8⟩
            · omega
            · exact o4 o o' q q' r c1 c5 c3 c7 c4 c8
      · rw [(mg_u ok (by omega)).1, (mg_u ok (by omega)).2] at h
        exact h M19 D19 M19S)
    have key : PX2_init (ddZ M13) (nI (v 0)) x (nI (v 1)) (nI (v 3)) (nI (v 4)) (nI (v 5)) (nI (v 6)) (suN M13 3 0) _ := key
    rw [v0, k2, k3, k4, k5, k6] at key
    rw [E15]
    exact key
  · unfold ok_might; rw [show wi_ k.toInt 0 1000000 = false from z1, Bool.and_false]
theorem mn_might {m : Nat} {M : Mm} {A : Ab} {x p s l d k : Int32} {post : Int32 → Mm → Prop} (hM : MS m M A) (hA : WA A) (hz : m + 33 ≤ ddZ M) (h : ∀ M1, MS m M1 (nx_might A x p s l d k) → Un (fun b _ => m ≤ b ∧ b < m + 33) M M1 → post (an_might A x p s l d k) M1) : PX11_mightCome m x p s l d k M post := by
  obtain ⟨d1, d2, d3, d4, d5, d6, d7⟩ := id hM
  have no : ok_might A x p s l d k = false → post (-2) M := fun c => by
    rw [(mg_f c).1, (mg_f c).2] at h
    exact h M hM Un.rf
  refine ⟨d1.1, sp_mayBlock hM hA (bz (fun c => no (by unfold ok_might; rw [c]; rfl)) (fun c => sp_in (bn (fun z1 => ⟨d1.1, ?_⟩) (fun z1 => no (by rw [wd_T] at z1; unfold ok_might; rw [show wi_ k.toInt 0 1000000 = false from z1, Bool.and_false])))))⟩
  rw [wd_T] at z1
  have z1 : wi_ k.toInt 0 1000000 = true := z1
  have ok : ok_might A x p s l d k = true := by unfold ok_might; rw [c, z1]; rfl
  obtain ⟨k1, k2, k3, k4, k5, k6, k7, k8⟩ := ok_block_t c
  obtain ⟨v, ev⟩ : ∃ v, v = v_block p s l d := ⟨_, rfl⟩
  rw [← ev] at k1 k2 k3 k4 k5 k6 k8
  have v0 : v 0 = 0 := by rw [ev]; exact v_block_0
  have zk := wi_t.mp z1
  have ekn : nI k.toInt.toNat = k := nI_toNat (by omega)
  obtain ⟨m1, m2, m3⟩ := id d7
  have h120 := d5.1
  rw [m2, show (8 : Int32) = nI 8 from rfl, nI_eq (by omega) (by omega), show (121 : Int32) + nI (A.2.2 3) = nI (121 + A.2.2 3) by rw [show (121 : Int32) = nI 121 from rfl, nI_add]]
  refine ⟨fun y => ?_, fun y => ?_⟩
  · rw [(mg_t ok y).1, (mg_t ok y).2, ← ev] at h
    obtain ⟨g1, g2, g3⟩ := d1.f36
    have key : PX11_put m (nI (121 + A.2.2 3)) (nI (v 0)) x (nI (v 1)) (nI (v 3)) (nI (v 4)) (nI (v 5)) (nI (v 6)) (-1) M (fun r10 M11 => ddT M11 m = 12 ∧ (∃ aq13 : Nat, (ddR M11 m 36) = some aq13 ∧ (ddT M11 aq13 = 20 ∧ (vp_in (ddI M11 m 35) (ddN M11 aq13) ∧ (∀ M17 : Mm, M17 = suI M11 aq13 (Int32.toNatClampNeg (ddI M11 m 35)) k → (∀ M18 : Mm, M18 = suI M17 m 35 ((ddI M17 m 35) + 1) → (post ((ddI M18 m 35) - 1) M18))))))) := sp_put (A := A) d1 hz (by omega) k1 (fun _ => k8) (fun M1 u uz hR hH => by
      have s1 : ddI M1 m 35 = nI (A.2.2 3) := by rw [u.I (by omega) (by omega)]; exact m2
      rw [s1, nI_cl (by omega)]
      refine ⟨by rw [u.T (by omega)]; exact d1.1, m + 31, by rw [u.R (by omega) (by omega)]; exact g1, by rw [u.T (by omega)]; exact g2, by rw [u.N (by omega), g3]; exact nI_in2 (by omega) (by decide), fun M17 E17 M18 E18 => ?_⟩
      have s17 : ddI M17 m 35 = nI (A.2.2 3) := by rw [E17, gI_I, if_neg (by omega)]; exact s1
      rw [s17, nI_1] at E18
      have s18 : ddI M18 m 35 = nI (A.2.2 3 + 1) := by rw [E18, gI_I, if_pos ⟨rfl, rfl⟩]
      rw [s18, show nI (A.2.2 3 + 1) - 1 = nI (A.2.2 3) from nI_pred _]
      have w1 : Un (fun b j => (b = m + 31 ∧ j = A.2.2 3) ∨ (b = m ∧ j = 35)) M1 M18 := by rw [E18, E17]; exact Un.sI.tr Un.sI
      have w : Un (fun b j => (m + 1 ≤ b ∧ b < m + 15 ∧ j = 121 + A.2.2 3) ∨ (b = m + 31 ∧ j = A.2.2 3) ∨ (b = m ∧ j = 35)) M M18 := u.tr w1
      have hz1 : m + 33 ≤ ddZ M1 := by omega
      have eE : ∀ c, c < 7 → (oA_ A v x k.toInt.toNat).1 c (121 + A.2.2 3) = (ent_ A (121 + A.2.2 3) v x (-1)).1 c (121 + A.2.2 3) := fun c hc => by rw [oA_1s hc, et_1 hc]
      refine h M18 (MS_asm hM hz w (fun b j q => by omega) ⟨by rw [oA_3n (by omega)]; exact d5.1, by rw [oA_3n (by omega), w.I (by omega) (by omega)]; exact d5.2.1, fun e he => ?_⟩ ⟨by rw [oA_3]; omega, by rw [oA_3]; exact s18, fun o ho => ?_⟩ (fun c h1 h2 => oA_1c h1 h2) (fun c hc => oA_2c hc) (fun i _ hi => oA_3n hi)) (w.wk (fun b j _ q => by omega))
      · rw [oA_3n (by omega)] at he
        obtain ⟨q1, q2⟩ := d5.2.2 e he
        exact ⟨MR_cg (fun c hc => oA_1n (by omega) hc) (MR_keep2 q1 hz w (fun o _ _ z => by omega)), HR_cg (fun c hc => oA_1n (by omega) hc) (fun c hc => oA_2n (by omega)) (HR_keep q2 hz w (fun o _ _ z => by omega))⟩
      · rw [oA_3] at ho
        by_cases hon : o = A.2.2 3
        · subst hon
          refine ⟨MR_cg eE (MR_keep2 hR hz1 w1 (fun o _ _ z => by omega)), HR_cg eE (fun c hc => rfl) (HR_keep hH hz1 w1 (fun o _ _ z => by omega)), by rw [oA_1s (by omega)]; exact v0, ?_⟩
          rw [oA_50, if_pos rfl, ekn, E18, gI_I, if_neg (by omega), E17, gI_I, if_pos ⟨rfl, rfl⟩]
        · obtain ⟨q1, q2, q3, q4⟩ := m3 o (by omega)
          refine ⟨MR_cg (fun c hc => oA_1n (by omega) hc) (MR_keep2 q1 hz w (fun o _ _ z => by omega)), HR_cg (fun c hc => oA_1n (by omega) hc) (fun c hc => oA_2n (by omega)) (HR_keep q2 hz w (fun o _ _ z => by omega)), by rw [oA_1n (by omega) (by omega)]; exact q3, ?_⟩
          rw [oA_50, if_neg hon, w.I (by omega) (by omega)]; exact q4)
    rw [v0, k2, k3, k4, k5, k6] at key
    exact key
  · rw [(mg_u ok y).1, (mg_u ok y).2] at h
    exact h M hM Un.rf
theorem wa_might {A : Ab} {x p s l d k : Int32} (hA : WA A) (h120 : A.2.2 0 ≤ 120) : WA (nx_might A x p s l d k) := by
  unfold nx_might
  split
  · next hc =>
    rw [Bool.and_eq_true] at hc
    have hc1 := hc.1
    unfold ok_might at hc1
    rw [Bool.and_eq_true] at hc1
    obtain ⟨k1, k2, k3, k4, k5, k6, k7, k8⟩ := ok_block_t hc1.1
    have zk := wi_t.mp hc1.2
    obtain ⟨w1, w2, w3, w4, w5, w6, w7, w8⟩ := hA
    have c1 : ∀ c, 7 ≤ c → c ≠ 50 → (oA_ A (v_block p s l d) x k.toInt.toNat).1 c = A.1 c := fun c h1 h2 => oA_1c h1 h2
    have cj : ∀ c j, j < 121 → c < 7 → (oA_ A (v_block p s l d) x k.toInt.toNat).1 c j = A.1 c j := fun c j hj hc => oA_1n (by omega) hc
    have c2 : ∀ c j, j < 121 → (oA_ A (v_block p s l d) x k.toInt.toNat).2.1 c j = A.2.1 c j := fun c j hj => oA_2n (by omega)
    refine ⟨by rw [oA_3n (by omega)]; exact w1, ?_, ?_, fun e he => ?_, fun l' hl => ?_, ?_, ?_, fun o ho => ?_⟩
    · rw [c1 40 (by omega) (by omega), c1 41 (by omega) (by omega)]; exact w2
    · rw [c1 30 (by omega) (by omega), c1 31 (by omega) (by omega), c1 32 (by omega) (by omega), c1 33 (by omega) (by omega), c1 34 (by omega) (by omega)]; exact w3
    · rw [oA_3n (by omega)] at he
      obtain ⟨y1, y2, y3, y4⟩ := w4 e he
      rw [oA_3n (by omega), cj 0 e (by omega) (by omega), cj 6 e (by omega) (by omega), cj 3 e (by omega) (by omega), cj 4 e (by omega) (by omega), cj 2 e (by omega) (by omega), c2 0 e (by omega), c2 1 e (by omega), c2 3 e (by omega), c2 4 e (by omega), c2 5 e (by omega), c2 6 e (by omega)]
      refine ⟨y1, y2, ?_, fun z => ?_⟩
      · rcases y3 with y3 | ⟨y0, dd, o, ss, q1, q2, q3, q4, q5, q6, q7, q8, q9, q10, q11, q12⟩
        · exact Or.inl y3
        · refine Or.inr ⟨y0, dd, o, ss, q1, q2, q3, q4, q5, q6, q7, by rw [cj 0 o (by omega) (by omega)]; exact q8, by rw [cj 3 o (by omega) (by omega)]; exact q9, by rw [cj 6 o (by omega) (by omega)]; exact q10, by rw [cj 4 o (by omega) (by omega), cj 2 o (by omega) (by omega)]; exact q11, ?_⟩
          rcases q12 with q12 | ⟨r, t1, t2, t3, t4, t5, t6, t7⟩
          · exact Or.inl q12
          · exact Or.inr ⟨r, t1, t2, t3, by rw [cj 0 r (by omega) (by omega)]; exact t4, by rw [cj 6 r (by omega) (by omega)]; exact t5, by rw [cj 4 r (by omega) (by omega), cj 2 r (by omega) (by omega)]; exact t6, by rw [cj 3 r (by omega) (by omega)]; exact t7⟩
      · obtain ⟨b, t1, t2, t3, t4, t5, t6⟩ := y4 z
        exact ⟨b, t1, t2, by rw [cj 0 b (by omega) (by omega)]; exact t3, by rw [cj 3 b (by omega) (by omega)]; exact t4, by rw [cj 6 b (by omega) (by omega)]; exact t5, by rw [cj 4 b (by omega) (by omega), cj 2 b (by omega) (by omega)]; exact t6⟩
    · rw [oA_3n (by omega)] at hl
      have hb := (w5 l' hl).1
      rw [c1 10 (by omega) (by omega), c1 11 (by omega) (by omega), c1 12 (by omega) (by omega), oA_2c (by omega), oA_3n (i := 0) (by omega), oA_3n (i := 4) (by omega), cj 0 _ (by omega) (by omega), cj 6 _ (by omega) (by omega), cj 3 _ (by omega) (by omega), cj 4 _ (by omega) (by omega), cj 2 _ (by omega) (by omega)]
      exact w5 l' hl
    · rw [oA_3n (i := 2) (by omega), oA_3n (i := 1) (by omega), oA_3n (i := 4) (by omega), c1 20 (by omega) (by omega), c1 21 (by omega) (by omega), c1 22 (by omega) (by omega)]; exact w6
    · rw [oA_3n (i := 2) (by omega), c1 21 (by omega) (by omega)]; exact w7
    · rw [oA_3] at ho
      by_cases hon : o = A.2.2 3
      · subst hon
        rw [oA_50, if_pos rfl, oA_2, if_pos ⟨rfl, by omega⟩, if_pos rfl, oA_2, if_pos ⟨rfl, by omega⟩, if_neg (by omega), if_pos rfl]
        exact ⟨by omega, k7, rfl⟩
      · rw [oA_50, if_neg hon, oA_2n (by omega), oA_2n (by omega)]
        exact w8 o (by omega)
  · exact hA
