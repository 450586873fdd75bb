/-! line -/
def hb_ (G : Nat → Nat → Nat) (j : Nat) (g : Int32) : Bool := decide (npI g.toInt = nI (G 4 j - G 2 j)) && (G 3 j).testBit (dg_ g.toInt.toNat (G 4 j - G 2 j) 0)
theorem hb_t {G : Nat → Nat → Nat} {j : Nat} {g : Int32} (hG : GW G j) (h0 : G 2 j < G 4 j) (h : hb_ G j g = true) : isF (g.toInt.toNat : Int) (G 4 j - G 2 j) ∧ g = nI g.toInt.toNat ∧ g.toInt.toNat < 2 ^ 31 ∧ npI g.toInt = nI (G 4 j - G 2 j) ∧ (G 3 j).testBit (dg_ g.toInt.toNat (G 4 j - G 2 j) 0) = true := by
  unfold hb_ at h
  rw [Bool.and_eq_true, decide_eq_true_eq] at h
  have g5 := hG.2.2.2.2.2.2.1
  have g4 := hG.2.2.2.2.2.1
  have hr := xi_rng g
  rcases npI_cases g.toInt with ⟨e1, -⟩ | ⟨p, hp, hF, e1⟩
  · rw [e1] at h
    exact absurd h.1.symm (nI_m1 (by omega))
  · have e2 : p = G 4 j - G 2 j := nI_inj (by omega) (by omega) (e1.symm.trans h.1)
    have h1 : (1 : Int) ≤ 10 ^ p := Int.pow_pos (by decide)
    have h2 := hF.1
    have e3 : ((g.toInt.toNat : Nat) : Int) = g.toInt := by omega
    refine ⟨by rw [e3, ← e2]; exact hF, (nI_toNat (by omega)).symm, by omega, h.1, h.2⟩
theorem se_hasBehind {M : Mm} {q : Nat} {G : Nat → Nat → Nat} {j : Nat} {g : Int32} {post : Int32 → Mm → Prop} (hE : EO M q G j) (h0 : G 2 j < G 4 j) (h : post (b2_ (hb_ G j g)) M) : PX2_hasBehind q g M post := by
  obtain ⟨hT, e0, e2, e3, e4, e5, e6, e7, hG, -⟩ := hE
  have g3 := hG.2.2.2.2.1
  have g5 := hG.2.2.2.2.2.2.1
  have g4 := hG.2.2.2.2.2.1
  have hr := xi_rng g
  have no : hb_ G j g = false → post 0 M := fun c => by rw [c] at h; exact h
  unfold PX2_hasBehind
  refine se_plI ?_
  rcases npI_cases g.toInt with ⟨e1, -⟩ | ⟨p, hp, hF, e1⟩
  · have c : hb_ G j g = false := by
      unfold hb_
      rw [e1, decide_eq_false (fun z => nI_m1 (n := G 4 j - G 2 j) (by omega) z.symm)]; rfl
    rw [e1]
    exact ⟨fun _ => no c, fun z => absurd (by decide : (-1 : Int32) ≤ 0) z⟩
  · rw [e1]
    have h1 : (1 : Int) ≤ 10 ^ p := Int.pow_pos (by decide)
    have h2 := hF.1
    have eg : Int32.toInt64 g = lN g.toInt.toNat := by
      rw [← i2l_nI (by omega), nI_toNat (by omega)]
    have nop : p ≠ G 4 j - G 2 j → hb_ G j g = false := fun z => by
      unfold hb_
      rw [e1, decide_eq_false (fun y => z (nI_inj (by omega) (by omega) y))]; rfl
    refine pk_le p 0 (fun c => no (nop (by omega))) (fun c => ⟨hT, hT, ?_⟩) rfl rfl (by omega) (by omega)
    rw [e5, e3, pk_sub (by omega)]
    refine ⟨fun c1 => no (nop (fun z => c1 (by rw [z]))), fun c1 => ⟨hT, ?_⟩⟩
    have ep : p = G 4 j - G 2 j := nI_inj (by omega) (by omega) c1
    rw [eg]
    refine sp_figureBit (i := 0) (by omega) (by omega) c ?_
    have ed : g.toInt.toNat / 10 ^ (p - 1 - 0) % 10 = dg_ g.toInt.toNat p 0 := rfl
    rw [ed, e4]
    have eb : hb_ G j g = (G 3 j).testBit (dg_ g.toInt.toNat p 0) := by
      unfold hb_
      rw [e1, ← ep, decide_eq_true rfl]; rfl
    rw [eb] at h
    refine ⟨fun c4 => ?_, fun c4 => ?_⟩
    · rw [ands_tb g3 (dg_lt _ _ _)] at c4
      rw [c4] at h; exact h
    · rw [ands_tb g3 (dg_lt _ _ _)] at c4
      rw [show (G 3 j).testBit (dg_ g.toInt.toNat p 0) = true by simpa using c4] at h; exact h
def ok_line (A : Ab) (x g : Int32) : Bool := isB A x && (inF A x.toInt.toNat (nI (A.2.2 4)) && hb_ A.1 x.toInt.toNat g)
def lA_ (A : Ab) (e w : Nat) : Ab := uC_ (uH_ (uN_ (uN_ (uN_ A 10 (A.2.2 1) e) 11 (A.2.2 1) w) 12 (A.2.2 1) (A.2.2 4)) 10 (A.2.2 1) (-1)) 1 (A.2.2 1 + 1)
def lk_ (A : Ab) (x g : Int32) : Int32 := lo_ A x.toInt.toNat g.toInt.toNat (nI (A.2.2 4))
def an_line (A : Ab) (x g : Int32) : Int32 := if ok_line A x g then (if lk_ A x g = -1 then (if A.2.2 1 = 300 then -3 else nI (A.2.2 1)) else -1) else -2
def nx_line (A : Ab) (x g : Int32) : Ab := if ok_line A x g && (decide (lk_ A x g = -1) && !decide (A.2.2 1 = 300)) then lA_ A x.toInt.toNat g.toInt.toNat else A
theorem an_line_f {A : Ab} {x g : Int32} (c : ok_line A x g = false) : an_line A x g = -2 ∧ nx_line A x g = A := by unfold an_line nx_line; rw [c]; exact ⟨rfl, rfl⟩
theorem an_line_k {A : Ab} {x g : Int32} (c : ok_line A x g = true) (c1 : ¬ lk_ A x g = -1) : an_line A x g = -1 ∧ nx_line A x g = A := by unfold an_line nx_line; rw [c, if_pos rfl, if_neg c1, decide_eq_false c1]; exact ⟨rfl, rfl⟩
theorem an_line_u {A : Ab} {x g : Int32} (c : ok_line A x g = true) (c1 : lk_ A x g = -1) (c2 : A.2.2 1 = 300) : an_line A x g = -3 ∧ nx_line A x g = A := by unfold an_line nx_line; rw [c, if_pos rfl, if_pos c1, if_pos c2, decide_eq_true c1, decide_eq_true c2]; exact ⟨rfl, rfl⟩
theorem an_line_t {A : Ab} {x g : Int32} (c : ok_line A x g = true) (c1 : lk_ A x g = -1) (c2 : A.2.2 1 ≠ 300) : an_line A x g = nI (A.2.2 1) ∧ nx_line A x g = lA_ A x.toInt.toNat g.toInt.toNat := by unfold an_line nx_line; rw [c, if_pos rfl, if_pos c1, if_neg c2, decide_eq_true c1, decide_eq_false c2]; exact ⟨rfl, rfl⟩
theorem lA_1 {A : Ab} {e w c j : Nat} : (lA_ A e w).1 c j = if j = A.2.2 1 then (if c = 10 then e else if c = 11 then w else if c = 12 then A.2.2 4 else A.1 c j) else A.1 c j := by
  unfold lA_
  simp only [uC_1, uH_1, uN_1]
  by_cases hk : j = A.2.2 1
  · simp only [hk, and_true, if_true]
    by_cases h0 : c = 12
    · subst h0; simp
    · by_cases h1 : c = 11
      · subst h1; simp
      · by_cases h2 : c = 10
        · subst h2; simp
        · simp [h0, h1, h2]
  · simp [hk]
theorem lA_1c {A : Ab} {e w c : Nat} (h : c < 10 ∨ 13 ≤ c) : (lA_ A e w).1 c = A.1 c := by
  funext j
  rw [lA_1]
  split
  · rw [if_neg (by omega), if_neg (by omega), if_neg (by omega)]
  · rfl
theorem lA_1n {A : Ab} {e w c j : Nat} (h : j ≠ A.2.2 1) : (lA_ A e w).1 c j = A.1 c j := by rw [lA_1, if_neg h]
theorem lA_10 {A : Ab} {e w : Nat} : (lA_ A e w).1 10 (A.2.2 1) = e := by rw [lA_1, if_pos rfl, if_pos rfl]
theorem lA_11 {A : Ab} {e w : Nat} : (lA_ A e w).1 11 (A.2.2 1) = w := by rw [lA_1, if_pos rfl, if_neg (by omega), if_pos rfl]
theorem lA_12 {A : Ab} {e w : Nat} : (lA_ A e w).1 12 (A.2.2 1) = A.2.2 4 := by rw [lA_1, if_pos rfl, if_neg (by omega), if_neg (by omega), if_pos rfl]
theorem lA_2 {A : Ab} {e w c j : Nat} : (lA_ A e w).2.1 c j = if c = 10 ∧ j = A.2.2 1 then -1 else A.2.1 c j := rfl
theorem lA_2c {A : Ab} {e w c : Nat} (h : c ≠ 10) : (lA_ A e w).2.1 c = A.2.1 c := by funext j; rw [lA_2, if_neg (fun z => h z.1)]
theorem lA_3 {A : Ab} {e w : Nat} : (lA_ A e w).2.2 1 = A.2.2 1 + 1 := rfl
theorem lA_3n {A : Ab} {e w i : Nat} (h : i ≠ 1) : (lA_ A e w).2.2 i = A.2.2 i := by show (if i = 1 then _ else _) = _; rw [if_neg h]; rfl
theorem dn_line {a : Nat} {M : Mm} {A : Ab} {x g : Int32} {post : Int32 → Mm → Prop} (hS : SS a M A) (h : ∀ M1, DS a M1 (nx_line A x g) → MS (a + 32) M1 A → post (an_line A x g) M1) : PX10_line a x g M post := by
  obtain ⟨hD, hM, hW⟩ := hS
  have hz := hD.1.2.2.2.2
  have hT0 : ddT M a = 11 := DW_T hD.1 (i := 0) (by decide)
  have hT4 : ddT M (a + 4) = 5 := DW_T hD.1 (by decide)
  have hT5 : ddT M (a + 5) = 26 := DW_T hD.1 (by decide)
  have hN5 : ddN M (a + 5) = 300 := DW_N hD.1 (by decide)
  have hDE := hD.2.2.2.2.1
  have hDL := hD.2.2.2.2.2.1
  have hk : ddI M a 4 = nI (A.2.2 4) := hD.2.1
  have no : ok_line A x g = false → post (-2) M := fun c => by
    rw [(an_line_f c).1, (an_line_f c).2] at h
    exact h M hD hM
  refine ⟨hT0, a + 1, DW_R hD.1 (i := 0) (by decide), DW_T hD.1 (by decide), se_blockAt hD.1 hDE (fun c => co_none (no (by unfold ok_line; rw [c]; rfl)) rfl) (fun e q c c1 c2 c3 c4 c5 hq => co_some q ⟨hT0, hq.T, ?_⟩ rfl)⟩
  have hO := hq.2.2.2.1
  have hG := hO.2.2.2.2.2.2.2.2.1
  have hkl := GW_kl hG c4
  rw [hk]
  refine se_inF hq (bz (fun c6 => no (by unfold ok_line; rw [c, ← c2, c6]; rfl)) (fun c6 => ⟨hq.T, se_hasBehind hO hkl (bn (fun c7 => ⟨hT0, a + 4, DW_R hD.1 (i := 0) (by decide), hT4, ?_⟩) (fun c7 => no (by unfold ok_line; rw [← c2, c7, Bool.and_false, Bool.and_false])))⟩))
  have ok : ok_line A x g = true := by unfold ok_line; rw [c, ← c2, c6, c7]; rfl
  obtain ⟨hF, eg, hw31, hnp, htb⟩ := hb_t hG hkl c7
  obtain ⟨w, ew⟩ : ∃ w, w = g.toInt.toNat := ⟨_, rfl⟩
  rw [← ew] at hF eg hw31 htb
  have elk : lk_ A x g = lo_ A e w (nI (A.2.2 4)) := by unfold lk_; rw [← c2, ← ew]
  have eg2 : Int32.toInt64 g = lN w := by rw [eg, i2l_nI hw31]
  rw [hk, eg2]
  refine se_findOn hD.1 hDE hDL hW c3 hq (by omega) ⟨fun c8 => ⟨hT0, a + 4, DW_R hD.1 (i := 0) (by decide), hT4, ?_⟩, fun c8 => ?_⟩
  · rw [← elk] at c8
    obtain ⟨a1, a2, a3, a4, a5, a6⟩ := id hDL
    rw [hk]
    refine ⟨hT4, a + 5, DW_R hD.1 (by decide), hT5, pk_lt (A.2.2 1) 300 (fun y n6 e6 M7 E7 => ?_) (fun y => ?_) a2 (by rw [hN5]; rfl) (by omega) (by omega)⟩
    · subst e6
      rw [(an_line_t ok c8 (by omega)).1, (an_line_t ok c8 (by omega)).2, ← c2, ← ew] at h
      have t4 : ddT M7 (ddZ M) = 4 := by rw [E7, gT_N, if_pos rfl]
      refine ⟨t4, fun M2 E2 M3 E3 => se_plI ?_⟩
      rw [hnp, eg2]
      have g5 := hG.2.2.2.2.2.2.1
      have g4 := hG.2.2.2.2.2.1
      refine sp_figureBit (i := 0) (by omega) (by omega) (by omega) ⟨by subst E3 E2; exact t4, fun M9 E9 M10 E10 M11 E11 => ⟨?_, ?_, ?_, fun M13 E13 => ⟨?_, fun M15 E15 => ?_⟩⟩⟩
      · subst E11 E10 E9 E3 E2 E7
        show ddT (suN M 4 0) (a + 5) = 26
        rw [gT_N, if_neg (by omega)]; exact hT5
      · subst E11 E10 E9 E3 E2 E7
        show vp_in (ddI M (a + 4) 1) (ddN (suN M 4 0) (a + 5))
        rw [gN_N, if_neg (by omega), hN5, a2]
        exact nI_in2 y (by decide)
      · subst E11 E10 E9 E3 E2
        exact t4
      · subst E13 E11 E10 E9 E3 E2 E7
        show ddT (suN M 4 0) (a + 4) = 5
        rw [gT_N, if_neg (by omega)]; exact hT4
      · have ed : w / 10 ^ (A.1 4 e - A.1 2 e - 1 - 0) % 10 = dg_ w (A.1 4 e - A.1 2 e) 0 := rfl
        rw [ed] at E9
        rw [a2, nI_cl (by omega)] at E13
        have n1 : ¬ (a + 4 = ddZ M) := by omega
        have n2 : ¬ (ddZ M = a + 4) := by omega
        have n3 : ¬ (a + 5 = ddZ M) := by omega
        have n4 : ¬ (ddZ M = a + 5) := by omega
        have s13 : ddI M13 (a + 4) 1 = nI (A.2.2 1) := by
          subst E13 E11 E10 E9 E3 E2 E7
          simp only [gI_R, gI_I, gI_N, n1, false_and, if_false]
          exact a2
        rw [s13, nI_1] at E15
        have u : Un (fun b k => (b = a + 5 ∧ k = A.2.2 1) ∨ (b = a + 4 ∧ k = 1)) M M15 := by
          subst E15 E13 E11 E10 E9 E3 E2 E7
          exact ((((((((Un.sN.tr Un.sR).tr Un.sI).tr Un.sI).tr Un.sI).tr Un.sI).tr Un.sR).tr Un.sI).wk (fun b k hb z => by
            rcases z with ((((((z | z) | z) | z) | z) | z) | z) | z
            · exact z.elim
            · omega
            · omega
            · omega
            · omega
            · omega
            · exact Or.inl z
            · exact Or.inr z))
        have z15 : ddZ M15 = ddZ M + 1 := by subst E15 E13 E11 E10 E9 E3 E2 E7; rfl
        have pT : ddT M15 (ddZ M) = 4 := by subst E15 E13 E11 E10 E9 E3 E2; exact t4
        have p0 : ddR M15 (ddZ M) 0 = some q := by
          subst E15 E13 E11 E10 E9 E3 E2 E7
          simp only [gR_I, gR_R, n4, false_and, if_false, true_and, if_true]
        have p5 : ddR M15 (ddZ M) 5 = none := by
          subst E15 E13 E11 E10 E9 E3 E2 E7
          simp only [gR_I, gR_R, gR_N, n4, false_and, if_false, if_true, true_and, Nat.reduceEqDiff]
        have p1 : ddI M15 (ddZ M) 1 = g := by
          subst E15 E13 E11 E10 E9 E3 E2 E7
          simp only [gI_R, gI_I, n2, false_and, if_false, true_and, if_true, Nat.reduceEqDiff]
        have p2 : ddI M15 (ddZ M) 2 = nI (2 ^ dg_ w (A.1 4 e - A.1 2 e) 0) := by
          subst E15 E13 E11 E10 E9 E3 E2 E7
          simp only [gI_R, gI_I, n2, false_and, if_false, true_and, if_true, Nat.reduceEqDiff]
        have p3 : ddI M15 (ddZ M) 3 = nI (A.2.2 4) := by
          subst E15 E13 E11 E10 E9 E3 E2 E7
          simp only [gI_R, gI_I, n2, false_and, if_false, true_and, if_true, Nat.reduceEqDiff]
        have p4 : ddI M15 (ddZ M) 4 = -1 := by
          subst E15 E13 E11 E10 E9 E3 E2 E7
          simp only [gI_R, gI_I, n2, false_and, if_false, true_and, if_true, Nat.reduceEqDiff]
        have r5 : ddR M15 (a + 5) (A.2.2 1) = some (ddZ M) := by
          subst E15 E13
          simp only [gR_I, gR_R, true_and, and_self, if_true]
        have i4 : ddI M15 (a + 4) 1 = nI (A.2.2 1 + 1) := by rw [E15, gI_I, if_pos ⟨rfl, rfl⟩]
        have n8 : ∀ p k, nw_ a M p → ¬ ((p = a + 5 ∧ k = A.2.2 1) ∨ (p = a + 4 ∧ k = 1)) := fun p k hp z => by have := hp.1; omega
        rw [i4, show nI (A.2.2 1 + 1) - 1 = nI (A.2.2 1) from nI_pred _]
        refine h M15 (DS_L hD u (fun b k z => ?_) ⟨by rw [lA_3]; omega, by rw [lA_3]; exact i4, by rw [lA_3n (by omega)]; exact a3, by rw [lA_3n (by omega), u.I (by omega) (by omega)]; exact a4, fun l' hl' => ?_, fun l' l'' q' hl' hl'' q1 q2 => ?_⟩ (fun c hc => lA_1c (by omega)) (fun c hc => lA_2c hc) (fun i hi _ => lA_3n hi)) (MS_keep hM hz u (fun b k z => by omega))
        · rcases z with z | z
          · exact Or.inr (Or.inl z.1)
          · exact Or.inl ⟨z.1, Or.inl z.2⟩
        · rw [lA_3] at hl'
          by_cases hll : l' = A.2.2 1
          · subst hll
            refine ⟨ddZ M, r5, ⟨by omega, by omega⟩, pT, ?_, ?_, ?_, ?_, ?_, ?_⟩
            · rw [lA_10, p0, u.R (by omega) (by omega)]; exact hq.1.symm
            · rw [lA_11, p1]; exact eg
            · rw [lA_11, lA_10, lA_1c (c := 4) (by omega), lA_1c (c := 2) (by omega)]; exact p2
            · rw [lA_12]; exact p3
            · rw [lA_2, if_pos ⟨rfl, rfl⟩]; exact p4
            · rw [p5, lA_3n (by omega)]
              refine ch_none (fun j hj => ?_)
              rw [lA_1c (by omega)]
              have := (hW.2.2.2.2.2.1 j hj).2.2
              omega
          · obtain ⟨q', q1, q2⟩ := a5 l' (by omega)
            obtain ⟨k1, k2, k3, k4, k5, k6, k7, k8⟩ := LO_keep q2 hz u (fun k => n8 _ k q2.1) (fun e z => by omega) (fun p k hp _ => n8 p k hp)
            refine ⟨q', by rw [u.R (by omega) (by omega)]; exact q1, k1, k2, ?_, ?_, ?_, ?_, ?_, ?_⟩
            · rw [lA_1n hll]; exact k3
            · rw [lA_1n hll]; exact k4
            · rw [lA_1n hll, lA_1n hll, lA_1c (c := 4) (by omega), lA_1c (c := 2) (by omega)]; exact k5
            · rw [lA_1n hll]; exact k6
            · rw [lA_2, if_neg (fun z => hll z.2)]; exact k7
            · rw [lA_3n (by omega)]
              exact ch_cg (fun c _ _ => lA_1c (by omega)) k8
        · rw [lA_3] at hl' hl''
          have old : ∀ l, l < A.2.2 1 + 1 → ddR M15 (a + 5) l = some q' → (l = A.2.2 1 ∧ q' = ddZ M) ∨ (l < A.2.2 1 ∧ ddR M (a + 5) l = some q' ∧ q' < ddZ M) := fun l hl hr => by
            by_cases hll : l = A.2.2 1
            · subst hll
              rw [r5] at hr
              exact Or.inl ⟨rfl, (Option.some.inj hr).symm⟩
            · rw [u.R (by omega) (by omega)] at hr
              obtain ⟨q'', y1, y2⟩ := a5 l (by omega)
              rw [y1] at hr
              cases hr
              exact Or.inr ⟨by omega, y1, y2.1.2⟩
          rcases old l' hl' q1 with ⟨y1, y2⟩ | ⟨y1, y2, y3⟩
          · rcases old l'' hl'' q2 with ⟨v1, v2⟩ | ⟨v1, v2, v3⟩
            · omega
            · omega
          · rcases old l'' hl'' q2 with ⟨v1, v2⟩ | ⟨v1, v2, v3⟩
            · omega
            · exact a6 l' l'' q' y1 v1 y2 v2
    · rw [(an_line_u ok c8 (by omega)).1, (an_line_u ok c8 (by omega)).2] at h
      exact h M hD hM
  · rw [← elk] at c8
    rw [(an_line_k ok c8).1, (an_line_k ok c8).2] at h
    exact h M hD hM
theorem mn_line {m : Nat} {M : Mm} {A : Ab} {x g : Int32} {post : Int32 → Mm → Prop} (hM : MS m M A) (hW : WA A) (hz : m + 33 ≤ ddZ M) (h : ∀ M1, MS m M1 (nx_line A x g) → Un (fun b _ => m ≤ b ∧ b < m + 33) M M1 → post (an_line A x g) M1) : PX11_line m x g M post := by
  obtain ⟨d1, d2, d3, d4, d5, d6, d7⟩ := id hM
  have hk : ddI M m 0 = nI (A.2.2 4) := d2
  have no : ok_line A x g = false → post (-2) M := fun c => by
    rw [(an_line_f c).1, (an_line_f c).2] at h
    exact h M hM Un.rf
  have nb : isB A x = false → ok_line A x g = false := fun c => by unfold ok_line; rw [c]; rfl
  refine ⟨d1.1, sp_isEntry d1 d5 (bz (fun c => no (nb (by unfold isB; rw [c]; rfl))) (fun c => ?_))⟩
  obtain ⟨c1, c2⟩ := isE_t c
  obtain ⟨e, el⟩ : ∃ e, e = x.toInt.toNat := ⟨_, rfl⟩
  rw [← el] at c1 c2
  obtain ⟨a1, a2, a3⟩ := d1.f2
  obtain ⟨b1, b2, b3⟩ := d1.f6
  obtain ⟨f1, f2, f3⟩ := d1.f4
  obtain ⟨s1, s2, s3⟩ := d1.f5
  have h120 := d5.1
  have hin : vp_in (nI e) 130 := nI_in2 (by omega) (by decide)
  obtain ⟨⟨r0, r1, r3, r4, r5, r6, hG⟩, -⟩ := d5.2.2 e c1
  have hk3 := hG.1
  have g3 := hG.2.2.2.2.1
  have g5 := hG.2.2.2.2.2.2.1
  have g4 := hG.2.2.2.2.2.1
  have gw := hG.w
  have hr := xi_rng g
  rw [c2, nI_cl (by omega)]
  refine ⟨d1.1, m + 1, a1, a2, by rw [a3]; exact hin, ?_⟩
  rw [r0, nI_ne0' (by omega)]
  refine ⟨fun c3 => no (nb (by unfold isB; rw [← el, decide_eq_false c3, Bool.and_false])), fun c3 => ?_⟩
  have cB : isB A x = true := by unfold isB; rw [c, ← el, decide_eq_true c3]; rfl
  have hkl := GW_kl hG c3
  rw [hk]
  refine sp_inF d1 d5 c1 (bn (fun c6 => sp_figI ⟨d1.1, m + 5, b1, b2, by rw [b3]; exact hin, m + 3, f1, f2, by rw [f3]; exact hin, ?_⟩) (fun c6 => no (by unfold ok_line; rw [← el, c6, Bool.false_and, Bool.and_false])))
  rw [wd_T, r1, r4]
  refine sp_lengthOf (by omega) hG.2.1 (by omega) ?_
  rw [pk_sub (by omega)]
  refine ⟨fun c7 => no (by unfold ok_line hb_; rw [← el, decide_eq_false c7, Bool.false_and, Bool.and_false, Bool.and_false]), fun c7 => ⟨d1.1, m + 4, s1, s2, by rw [s3]; exact hin, ?_⟩⟩
  rcases npI_cases g.toInt with ⟨e1, -⟩ | ⟨p, hp, hF, e1⟩
  · rw [e1] at c7
    exact absurd c7.symm (nI_m1 (by omega))
  have h1 : (1 : Int) ≤ 10 ^ p := Int.pow_pos (by decide)
  have h2 := hF.1
  obtain ⟨w, ew⟩ : ∃ w, w = g.toInt.toNat := ⟨_, rfl⟩
  have eg : g = nI w := by rw [ew]; exact (nI_toNat (by omega)).symm
  have ep : p = A.1 4 e - A.1 2 e := nI_inj (by omega) (by omega) (e1.symm.trans c7)
  have hw31 : w < 2 ^ 31 := by omega
  have eg2 : Int32.toInt64 g = lN w := by rw [eg, i2l_nI hw31]
  have hF' : isF (w : Int) p := by rw [show (w : Int) = g.toInt by omega]; exact hF
  rw [eg2]
  refine sp_figureAt (i := 0) (by omega) hF' (by omega) (by omega) ?_
  have ed : w / 10 ^ (p - 1 - 0) % 10 = dg_ w p 0 := rfl
  rw [ed, r3, sh_bit (by omega) (by have := dg_lt w p 0; omega)]
  have ehb : hb_ A.1 e g = (A.1 3 e).testBit (dg_ w p 0) := by unfold hb_; rw [c7, decide_eq_true rfl, ← ew, ep]; rfl
  refine bn (fun c8 => ⟨d1.1, ?_⟩) (fun c8 => no (by unfold ok_line; rw [← el, ehb, c8, Bool.and_false, Bool.and_false]))
  have ok : ok_line A x g = true := by unfold ok_line; rw [cB, ← el, c6, ehb, c8]; rfl
  have elk : lk_ A x g = lo_ A e w (nI (A.2.2 4)) := by unfold lk_; rw [← el, ← ew]
  rw [hk]
  refine sp_lineOn d1 d5 d6 hW c1 (by omega) ⟨fun c9 => ⟨d1.1, ?_⟩, fun c9 => ?_⟩
  · rw [← elk] at c9
    obtain ⟨m1, m2, m3, m4, m5, m6⟩ := id d6
    rw [m2, show (300 : Int32) = nI 300 from rfl, nI_eq (by omega) (by omega)]
    refine ⟨fun y => ?_, fun y => ?_⟩
    · rw [(an_line_t ok c9 y).1, (an_line_t ok c9 y).2, ← el, ← ew] at h
      obtain ⟨k1, k2, k3⟩ := d1.f17
      obtain ⟨l1, l2, l3⟩ := d1.f18
      obtain ⟨n1, n2, n3⟩ := d1.f19
      obtain ⟨o1, o2, o3⟩ := d1.f20
      have hi3 : vp_in (nI (A.2.2 1)) 300 := nI_in2 (by omega) (by decide)
      rw [nI_cl (by omega)]
      refine ⟨m + 15, k1, k2, by rw [k3]; exact hi3, fun M1 E1 => ?_⟩
      have t1 : ddI M1 m 16 = nI (A.2.2 1) := by rw [E1, gI_I, if_neg (by omega)]; exact m2
      rw [t1, nI_cl (by omega)]
      refine ⟨m + 16, by rw [E1]; exact l1, by rw [E1]; exact l2, by rw [E1]; show vp_in _ (ddN M _); rw [l3]; exact hi3, fun M2 E2 => ?_⟩
      have t2 : ddI M2 m 16 = nI (A.2.2 1) := by rw [E2]; exact t1
      have t20 : ddI M2 m 0 = nI (A.2.2 4) := by rw [E2, E1]; show ddI (suI _ _ _ _) _ _ = _; rw [gI_I, if_neg (by omega)]; exact hk
      rw [t2, t20, nI_cl (by omega)]
      refine ⟨m + 17, by rw [E2, E1]; exact n1, by rw [E2, E1]; exact n2, by rw [E2, E1]; show vp_in _ (ddN M _); rw [n3]; exact hi3, fun M3 E3 => ?_⟩
      have t3 : ddI M3 m 16 = nI (A.2.2 1) := by rw [E3, gI_I, if_neg (by omega)]; exact t2
      rw [t3, nI_cl (by omega)]
      refine ⟨m + 18, by rw [E3, E2, E1]; exact o1, by rw [E3, E2, E1]; exact o2, by rw [E3, E2, E1]; show vp_in _ (ddN M _); rw [o3]; exact hi3, fun M4 E4 M5 E5 => ?_⟩
      have t4 : ddI M4 m 16 = nI (A.2.2 1) := by rw [E4, gI_I, if_neg (by omega)]; exact t3
      rw [t4, nI_1] at E5
      have t5 : ddI M5 m 16 = nI (A.2.2 1 + 1) := by rw [E5, gI_I, if_pos ⟨rfl, rfl⟩]
      rw [t5, show nI (A.2.2 1 + 1) - 1 = nI (A.2.2 1) from nI_pred _]
      have u : Un (fun b k => (k = A.2.2 1 ∧ (b = m + 15 ∨ b = m + 16 ∨ b = m + 17 ∨ b = m + 18)) ∨ (b = m ∧ k = 16)) M M5 := by
        rw [E5, E4, E3, E2, E1]
        exact ((((Un.sI.tr Un.sL).tr Un.sI).tr Un.sI).tr Un.sI).wk (fun b k _ z => by omega)
      refine h M5 (MS_L hM hz u (fun b k z => by omega) ⟨by rw [lA_3]; omega, by rw [lA_3]; exact t5, by rw [lA_3n (by omega)]; exact m3, by rw [lA_3n (by omega), u.I (by omega) (by omega)]; exact m4, fun l' hl' => ?_, fun k hk => ?_⟩ (fun c hc => lA_1c (by omega)) (fun c hc => lA_2c hc) (fun i hi _ => lA_3n hi)) (u.wk (fun b k _ z => by omega))
      · rw [lA_3] at hl'
        by_cases hll : l' = A.2.2 1
        · subst hll
          rw [lA_10, lA_11, lA_12, lA_2, if_pos ⟨rfl, rfl⟩]
          have q15 : ¬ (m + 15 = m) := by omega
          have q16 : ¬ (m + 16 = m) := by omega
          have q17 : ¬ (m + 17 = m) := by omega
          have q18 : ¬ (m + 18 = m) := by omega
          have qa : ¬ (m + 15 = m + 17) := by omega
          have qb : ¬ (m + 15 = m + 18) := by omega
          have qc : ¬ (m + 17 = m + 18) := by omega
          subst E5 E4 E3 E2 E1
          simp only [gI_I, gI_L, gL_I, gL_L, q15, q16, q17, q18, qa, qb, qc, false_and, if_false, true_and, and_self, if_true]
        · rw [u.I (b := m + 15) (by omega) (by omega), u.L (b := m + 16) (by omega) (by omega), u.I (b := m + 17) (by omega) (by omega), u.I (b := m + 18) (by omega) (by omega), lA_1n hll, lA_1n hll, lA_1n hll, lA_2, if_neg (fun z => hll z.2)]
          exact m5 l' (by omega)
      · rw [lA_3n (by omega)] at hk
        rw [u.I (b := m + 19) (by omega) (by omega), u.I (b := m + 20) (by omega) (by omega), u.I (b := m + 21) (by omega) (by omega), lA_1c (c := 20) (by omega), lA_1c (c := 21) (by omega), lA_1c (c := 22) (by omega)]
        exact m6 k hk
    · rw [(an_line_u ok c9 y).1, (an_line_u ok c9 y).2] at h
      exact h M hM Un.rf
  · rw [← elk] at c9
    rw [(an_line_k ok c9).1, (an_line_k ok c9).2] at h
    exact h M hM Un.rf
theorem wa_line {A : Ab} {x g : Int32} (hW : WA A) (hGW : ∀ e, e < A.2.2 0 → GW A.1 e) : WA (nx_line A x g) := by
  unfold nx_line
  split
  · next hc =>
    rw [Bool.and_eq_true] at hc
    have hc1 := hc.1
    unfold ok_line isB at hc1
    simp only [Bool.and_eq_true, decide_eq_true_eq] at hc1
    obtain ⟨⟨cE, c4⟩, c6, c7⟩ := hc1
    obtain ⟨c1, -⟩ := isE_t cE
    have hG := hGW _ c1
    obtain ⟨hF, eg, hw31, hnp, htb⟩ := hb_t hG (GW_kl hG c4) c7
    have hd6 := hG.2.2.2.2.2.2.2.1
    obtain ⟨w1, w2, w3, w4, w5, w6, w7, w8⟩ := hW
    have hfd : A.1 6 x.toInt.toNat ≤ A.2.2 4 := by
      unfold inF inB at c6
      rw [Bool.and_eq_true] at c6
      have y := c6.1
      simp only [Bool.not_eq_true', decide_eq_false_iff_not] at y
      rw [nI_ltI (by omega) (by omega)] at y
      omega
    refine ⟨by rw [lA_3n (by omega)]; exact w1, ?_, ?_, ?_, fun l hl => ?_, fun k hk => ?_, ?_, ?_⟩
    · rw [lA_1c (by omega), lA_1c (by omega)]; exact w2
    · rw [lA_1c (by omega), lA_1c (by omega), lA_1c (by omega), lA_1c (by omega), lA_1c (by omega)]; exact w3
    · rw [lA_3n (by omega), lA_1c (c := 0) (by omega), lA_1c (c := 6) (by omega), lA_1c (c := 3) (by omega), lA_1c (c := 4) (by omega), lA_1c (c := 2) (by omega), lA_2c (c := 0) (by omega), lA_2c (c := 1) (by omega), lA_2c (c := 3) (by omega), lA_2c (c := 4) (by omega), lA_2c (c := 5) (by omega), lA_2c (c := 6) (by omega)]; exact w4
    · rw [lA_3] at hl
      rw [lA_3n (i := 0) (by omega), lA_3n (i := 4) (by omega), lA_1c (c := 0) (by omega), lA_1c (c := 6) (by omega), lA_1c (c := 3) (by omega), lA_1c (c := 4) (by omega), lA_1c (c := 2) (by omega)]
      by_cases hll : l = A.2.2 1
      · subst hll
        rw [lA_10, lA_11, lA_12, lA_2, if_pos ⟨rfl, rfl⟩]
        exact ⟨c1, c4, hw31, hF, htb, hfd, Nat.le_refl _, Or.inl rfl⟩
      · rw [lA_1n hll, lA_1n hll, lA_1n hll, lA_2, if_neg (fun z => hll z.2)]
        exact w5 l (by omega)
    · rw [lA_3n (by omega)] at hk
      rw [lA_3n (i := 4) (by omega), lA_3, lA_1c (c := 20) (by omega), lA_1c (c := 21) (by omega), lA_1c (c := 22) (by omega)]
      obtain ⟨y1, y2, y3⟩ := w6 k hk
      exact ⟨y1, y2, by omega⟩
    · rw [lA_3n (by omega), lA_1c (by omega)]; exact w7
    · rw [lA_3n (by omega), lA_1c (by omega), lA_2c (by omega), lA_2c (by omega)]; exact w8
  · exact hW
