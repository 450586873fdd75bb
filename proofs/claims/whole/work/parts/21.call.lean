/-! call, waits -/
theorem dwR6 : ∀ j, j < 4 → (6, j, 7 + j) ∈ dw_R := by decide
theorem dwT7 : ∀ j, j < 4 → (7 + j, 1) ∈ dw_T := by decide
theorem se_callWith {a : Nat} {M : Mm} {x : Int32} {post : Option Nat → Mm → Prop} (hD : DW a M) (h1 : wi_ x.toInt 0 3 = false → post none M) (h2 : ∀ j, j < 4 → x = nI j → post (some (a + 7 + j)) M) : PX10_callWith a x M post := by
  refine ⟨fun c => h1 ?_, fun c => ⟨DW_T hD (i := 0) (by decide), a + 6, DW_R hD (i := 0) (by decide), DW_T hD (by decide), ?_⟩⟩
  · rw [xi_lt] at c
    exact wi_f.mpr (by have c : x.toInt < 0 := c; omega)
  · rw [DW_N hD (i := 6) (n := 4) (by decide)]
    rw [xi_lt] at c
    have c : ¬ x.toInt < 0 := c
    refine ⟨fun c1 => h1 ?_, fun c1 => ?_⟩
    · rw [xi_le] at c1
      have c1 : (4 : Int) ≤ x.toInt := c1
      exact wi_f.mpr (by omega)
    · rw [xi_le] at c1
      have c1 : ¬ (4 : Int) ≤ x.toInt := c1
      have e : nI x.toInt.toNat = x := nI_toNat (by omega)
      have hj : x.toInt.toNat < 4 := by omega
      rw [← e]
      refine ⟨nI_in2 hj (by decide), ?_⟩
      rw [nI_cl (by omega), DW_R hD (dwR6 _ hj), show a + (7 + x.toInt.toNat) = a + 7 + x.toInt.toNat by omega]
      exact h2 _ hj e.symm
theorem DW_c {a : Nat} {M : Mm} (hD : DW a M) {j : Nat} (hj : j < 4) : ddT M (a + 7 + j) = 1 := by
  have := DW_T hD (dwT7 j hj)
  rw [show a + (7 + j) = a + 7 + j by omega] at this
  exact this
theorem sp_isCall {m : Nat} {M : Mm} {x : Int32} {post : Int32 → Mm → Prop} (h : post (b2_ (wi_ x.toInt 0 3)) M) : PX11_isCall m x M post := by
  refine sp_in ⟨b2_01 _, ?_⟩
  rw [wd_T]
  exact h
theorem wi_nI {x : Int32} {n : Nat} (h : wi_ x.toInt 0 n = true) : ∃ j, j = x.toInt.toNat ∧ j ≤ n ∧ x = nI j := by
  have w := wi_t.mp h
  exact ⟨_, rfl, by omega, (nI_toNat (by omega)).symm⟩
def an_call (A : Ab) (x : Int32) : Int32 := if wi_ x.toInt 0 3 then nI (A.2.2 4) else -2
def bg_call (A : Ab) (j : Nat) : Ab := uH_ (uN_ (uN_ (uN_ (uN_ (uN_ A 30 j 1) 31 j 0) 32 j (A.2.2 4)) 33 j 0) 34 j 1) 30 j (-1)
def nx_call (A : Ab) (x : Int32) : Ab := if wi_ x.toInt 0 3 then bg_call A x.toInt.toNat else A
theorem bg_1 {A : Ab} {j c k : Nat} : (bg_call A j).1 c k = if k = j then (if c = 30 then 1 else if c = 31 then 0 else if c = 32 then A.2.2 4 else if c = 33 then 0 else if c = 34 then 1 else A.1 c k) else A.1 c k := by
  unfold bg_call
  simp only [uN_1, uH_1, uN_2]
  by_cases hk : k = j
  · simp only [hk, and_true, if_true]
    by_cases h0 : c = 34
    · subst h0; simp
    · by_cases h1 : c = 33
      · subst h1; simp
      · by_cases h2 : c = 32
        · subst h2; simp
        · by_cases h3 : c = 31
          · subst h3; simp
          · by_cases h4 : c = 30
            · subst h4; simp
            · simp [h0, h1, h2, h3, h4]
  · simp [hk]
theorem bg_2 {A : Ab} {j c k : Nat} : (bg_call A j).2.1 c k = if c = 30 ∧ k = j then -1 else A.2.1 c k := rfl
theorem bg_3 {A : Ab} {j : Nat} : (bg_call A j).2.2 = A.2.2 := rfl
theorem dn_call {a : Nat} {M : Mm} {A : Ab} {x : Int32} {post : Int32 → Mm → Prop} (hS : SS a M A) (h : ∀ M1, DS a M1 (nx_call A x) → MS (a + 32) M1 A → post (an_call A x) M1) : PX10_call a x M post := by
  obtain ⟨hD, hM, hW⟩ := hS
  have hz := hD.1.2.2.2.2
  have hT0 : ddT M a = 11 := DW_T hD.1 (i := 0) (by decide)
  refine ⟨hT0, se_callWith hD.1 (fun c => ⟨fun _ => ?_, fun q hq => by cases hq⟩) (fun j hj ex => ⟨fun q => (by cases q), fun q hq => ?_⟩)⟩
  · have e1 : an_call A x = -2 := by unfold an_call; rw [if_neg (by rw [c]; decide)]
    have e2 : nx_call A x = A := by unfold nx_call; rw [if_neg (by rw [c]; decide)]
    rw [e1, e2] at h
    exact h M hD hM
  cases hq
  have hx : x.toInt = j := by rw [ex, nI_T (by omega)]
  have cx : wi_ x.toInt 0 3 = true := wi_t.mpr (by omega)
  have ej : x.toInt.toNat = j := by omega
  have e1 : an_call A x = nI (A.2.2 4) := by unfold an_call; rw [if_pos cx]
  have e2 : nx_call A x = bg_call A j := by unfold nx_call; rw [if_pos cx, ej]
  rw [e1, e2] at h
  refine ⟨hT0, DW_c hD.1 hj, DW_c hD.1 hj, fun M2 E2 M3 E3 M4 E4 M5 E5 M6 E6 M7 E7 => ?_⟩
  have hk : ddI M a 4 = nI (A.2.2 4) := hD.2.1
  rw [hk] at E4
  have u : Un (fun b k => b = a + 7 + j) M M7 := by
    rw [E7, E6, E5, E4, E3, E2]
    exact ((((((Un.sI.tr Un.sI).tr Un.sI).tr Un.sI).tr Un.sI).tr Un.sL).wk (fun b k _ q => by omega))
  have e0 : ddI M7 a 4 = ddI M a 4 := u.I (by omega) (by omega)
  refine ⟨by rw [u.T (by omega)]; exact hT0, ?_⟩
  rw [e0, hk]
  refine h M7 (DS_C hD u (fun b k q => Or.inr (by omega)) (fun i hi => ?_) (fun c hc => ?_) (fun c hc => ?_) rfl) (MS_keep hM hz u (fun b k q => by omega))
  · have di := hD.2.2.2.1 i hi
    simp only [bg_1, bg_2]
    by_cases hij : i = j
    · subst hij
      rw [E7, E6, E5, E4, E3, E2]
      simp [gI_I, gI_L, gL_L, gL_I]
      exact ⟨rfl, rfl, rfl⟩
    · have n1 : ¬ (a + 7 + i = a + 7 + j) := by omega
      simp only [hij, if_false, and_false]
      rw [u.I (by omega) n1, u.I (by omega) n1, u.I (by omega) n1, u.I (by omega) n1, u.I (by omega) n1, u.L (by omega) n1]
      exact di
  · funext k
    rw [bg_1]
    by_cases hk : k = j
    · rw [if_pos hk, if_neg (by omega), if_neg (by omega), if_neg (by omega), if_neg (by omega), if_neg (by omega)]
    · rw [if_neg hk]
  · funext k
    rw [bg_2, if_neg (fun q => hc q.1)]
theorem mn_call {m : Nat} {M : Mm} {A : Ab} {x : Int32} {post : Int32 → Mm → Prop} (hM : MS m M A) (hz : m + 33 ≤ ddZ M) (h : ∀ M1, MS m M1 (nx_call A x) → Un (fun b _ => m ≤ b ∧ b < m + 33) M M1 → post (an_call A x) M1) : PX11_call m x M post := by
  refine ⟨hM.1.1, sp_isCall ⟨fun c => ?_, fun c => ?_⟩⟩
  · rw [b2_n] at c
    obtain ⟨j, ej, hj, ex⟩ := wi_nI (n := 3) c
    have hj : j < 4 := by omega
    have e1 : an_call A x = nI (A.2.2 4) := by unfold an_call; rw [if_pos c]
    have e2 : nx_call A x = bg_call A j := by unfold nx_call; rw [if_pos c, ej]
    rw [e1, e2] at h
    rw [ex, nI_cl (by omega)]
    have hin : vp_in (nI j) 4 := nI_in2 hj (by decide)
    obtain ⟨a1, a2, a3⟩ := hM.1.f30
    obtain ⟨b1, b2, b3⟩ := hM.1.f25
    obtain ⟨c1, c2, c3⟩ := hM.1.f26
    obtain ⟨d1, d2, d3⟩ := hM.1.f28
    obtain ⟨f1, f2, f3⟩ := hM.1.f29
    have hk : ddI M m 0 = nI (A.2.2 4) := hM.2.1
    refine ⟨hM.1.1, m + 27, a1, a2, by rw [a3]; exact hin, fun M2 E2 => ⟨m + 22, by rw [E2]; exact b1, by rw [E2]; exact b2, by rw [E2]; show vp_in _ (ddN M (m + 22)); rw [b3]; exact hin, fun M3 E3 => ⟨m + 23, by rw [E3, E2]; exact c1, by rw [E3, E2]; exact c2, by rw [E3, E2]; show vp_in _ (ddN M (m + 23)); rw [c3]; exact hin, fun M4 E4 => ⟨m + 25, by rw [E4, E3, E2]; exact d1, by rw [E4, E3, E2]; exact d2, by rw [E4, E3, E2]; show vp_in _ (ddN M (m + 25)); rw [d3]; exact hin, fun M5 E5 => ⟨m + 26, by rw [E5, E4, E3, E2]; exact f1, by rw [E5, E4, E3, E2]; exact f2, by rw [E5, E4, E3, E2]; show vp_in _ (ddN M (m + 26)); rw [f3]; exact hin, fun M6 E6 => ?_⟩⟩⟩⟩⟩
    have e20 : ddI M2 m 0 = nI (A.2.2 4) := by rw [E2, gI_I, if_neg (by omega)]; exact hk
    rw [e20] at E3
    have u : Un (fun b k => k = j ∧ (b = m + 27 ∨ b = m + 22 ∨ b = m + 23 ∨ b = m + 25 ∨ b = m + 26)) M M6 := by
      rw [E6, E5, E4, E3, E2]
      exact (((((Un.sI.tr Un.sI).tr Un.sI).tr Un.sI).tr Un.sI).wk (fun b k _ q => by omega))
    rw [u.I (by omega) (by omega), hk]
    refine h M6 (MS_C hM hz u (fun b k q => Or.inr (by omega)) (fun i hi => ?_) (fun c hc => ?_) (fun c hc => ?_) rfl) (u.wk (fun b k _ q => by omega))
    · obtain ⟨g1, g2, g3, g4, g5, g6⟩ := hM.2.2.2.1 i hi
      simp only [bg_1, bg_2]
      by_cases hij : i = j
      · subst hij
        rw [E6, E5, E4, E3, E2]
        simp [gI_I]
        exact ⟨rfl, rfl⟩
      · simp only [hij, if_false, and_false]
        rw [u.I (by omega) (by omega), u.I (by omega) (by omega), u.I (by omega) (by omega), u.I (by omega) (by omega), u.I (by omega) (by omega)]
        exact ⟨g1, g2, g3, g4, g5, fun k hk => by rw [u.I (by omega) (by omega)]; exact g6 k hk⟩
    · funext k
      rw [bg_1]
      by_cases hk : k = j
      · rw [if_pos hk, if_neg (by omega), if_neg (by omega), if_neg (by omega), if_neg (by omega), if_neg (by omega)]
      · rw [if_neg hk]
    · funext k
      rw [bg_2, if_neg (fun q => hc q.1)]
  · rw [b2_0] at c
    have e1 : an_call A x = -2 := by unfold an_call; rw [if_neg (by rw [c]; decide)]
    have e2 : nx_call A x = A := by unfold nx_call; rw [if_neg (by rw [c]; decide)]
    rw [e1, e2] at h
    exact h M hM Un.rf
def ok_waits (A : Ab) (j : Nat) : Bool := decide (A.1 30 j = 1) && decide (A.1 31 j = 0)
def an_waits (A : Ab) (x : Int32) : Int32 := if wi_ x.toInt 0 3 then (if ok_waits A x.toInt.toNat then (if A.2.1 30 x.toInt.toNat = 2 then 1 else 0) else -1) else -2
def nx_waits (A : Ab) (x : Int32) : Ab := if wi_ x.toInt 0 3 && (ok_waits A x.toInt.toNat && decide (A.2.1 30 x.toInt.toNat = 2)) then uN_ A 31 x.toInt.toNat 1 else A
theorem nI_1' {n : Nat} (h : n ≤ 1) : nI n = 0 ↔ n = 0 := nI_ne0' (by omega)
theorem se_isOpen {a : Nat} {M : Mm} {A : Ab} {j : Nat} {post : Int32 → Mm → Prop} (hD : DS a M A) (hW : WA A) (hj : j < 4) (h : post (b2_ (ok_waits A j)) M) : PX0_isOpen (a + 7 + j) M post := by
  obtain ⟨c0, c1, -⟩ := hD.2.2.2.1 j hj
  obtain ⟨w0, w1, -⟩ := hW.2.2.1 j hj
  unfold PX0_isOpen
  rw [c0, c1, nI_1' w0, nI_1' w1]
  refine ⟨DW_c hD.1 hj, fun c => ?_, fun c => ⟨fun d => ?_, fun d => ?_⟩⟩
  · have e : ok_waits A j = false := by unfold ok_waits; rw [decide_eq_false (by omega)]; rfl
    rw [e] at h; exact h
  · have e : ok_waits A j = false := by unfold ok_waits; rw [Bool.and_eq_false_iff]; exact Or.inr (decide_eq_false d)
    rw [e] at h; exact h
  · have e : ok_waits A j = true := by unfold ok_waits; rw [decide_eq_true (by omega), decide_eq_true d]; rfl
    rw [e] at h; exact h
theorem uN_same {A : Ab} {c j : Nat} : uN_ A c j (A.1 c j) = A := by
  unfold uN_
  refine Prod.ext ?_ rfl
  funext c' j'
  show (if c' = c ∧ j' = j then A.1 c j else A.1 c' j') = A.1 c' j'
  split
  · next h => rw [h.1, h.2]
  · rfl
theorem DC_over {a : Nat} {M M' : Mm} {A : Ab} {j v : Nat} (hD : DC a M A) (hj : j < 4) (e : M' = suI M (a + 7 + j) 1 (nI v)) : DC a M' (uN_ A 31 j v) := by
  intro i hi
  have di := hD i hi
  simp only [uN_1, uN_2]
  rw [e]
  simp only [gI_I, gL_I]
  by_cases hij : i = j
  · subst hij
    obtain ⟨k0, k1, k2, k3, k4, k5⟩ := di
    simp
    exact ⟨k0, k2, k3, k4, k5⟩
  · have n1 : ¬ (a + 7 + i = a + 7 + j) := by omega
    simp only [hij, n1, and_false, false_and, if_false]
    exact di
theorem dn_waits {a : Nat} {M : Mm} {A : Ab} {x : Int32} {post : Int32 → Mm → Prop} (hS : SS a M A) (h : ∀ M1, DS a M1 (nx_waits A x) → MS (a + 32) M1 A → post (an_waits A x) M1) : PX10_waits a x M post := by
  obtain ⟨hD, hM, hW⟩ := hS
  have hz := hD.1.2.2.2.2
  have hT0 : ddT M a = 11 := DW_T hD.1 (i := 0) (by decide)
  refine ⟨hT0, se_callWith hD.1 (fun c => ⟨fun _ => ?_, fun q hq => by cases hq⟩) (fun j hj ex => ⟨fun q => (by cases q), fun q hq => ?_⟩)⟩
  · have e1 : an_waits A x = -2 := by unfold an_waits; rw [if_neg (by rw [c]; decide)]
    have e2 : nx_waits A x = A := by unfold nx_waits; rw [c, Bool.false_and, if_neg (by decide)]
    rw [e1, e2] at h
    exact h M hD hM
  cases hq
  have hx : x.toInt = j := by rw [ex, nI_T (by omega)]
  have cx : wi_ x.toInt 0 3 = true := wi_t.mpr (by omega)
  have ej : x.toInt.toNat = j := by omega
  unfold an_waits nx_waits at h
  rw [cx, ej, if_pos rfl, Bool.true_and] at h
  refine ⟨DW_c hD.1 hj, se_isOpen hD hW hj ⟨fun c => ⟨DW_c hD.1 hj, ?_⟩, fun c => ?_⟩⟩
  · rw [b2_n] at c
    rw [c, if_pos rfl, Bool.true_and] at h
    obtain ⟨c0, c1, c2, c3, -⟩ := hD.2.2.2.1 j hj
    have hov : A.1 31 j = 0 := by unfold ok_waits at c; simp at c; exact c.2
    rw [c3]
    refine ⟨fun d M2 E2 => ?_, fun d M2 E2 => ?_⟩
    · rw [if_neg d, decide_eq_false d, if_neg (by decide)] at h
      have u : Un (fun b k => b = a + 7 + j) M M2 := by rw [E2]; exact Un.sI.wk (fun b k _ q => q.1)
      have dc : DC a M2 A := by
        have := DC_over (v := 0) hD.2.2.2.1 hj E2
        rw [← hov, uN_same] at this
        exact this
      refine ⟨fun _ => h M2 (DS_C hD u (fun b k q => Or.inr (by omega)) dc (fun _ _ => rfl) (fun _ _ => rfl) rfl) (MS_keep hM hz u (fun b k q => by omega)), fun q => absurd ?_ q⟩
      rw [E2, gI_I, if_pos ⟨rfl, rfl⟩]
    · rw [if_pos d, decide_eq_true d, if_pos rfl] at h
      have u : Un (fun b k => b = a + 7 + j) M M2 := by rw [E2]; exact Un.sI.wk (fun b k _ q => q.1)
      have dc : DC a M2 (uN_ A 31 j 1) := DC_over (v := 1) hD.2.2.2.1 hj E2
      refine ⟨fun q => ?_, fun _ => h M2 (DS_C hD u (fun b k q => Or.inr (by omega)) dc (fun c hc => ?_) (fun _ _ => rfl) rfl) (MS_keep hM hz u (fun b k q => by omega))⟩
      · rw [E2, gI_I, if_pos ⟨rfl, rfl⟩] at q
        exact absurd q (by decide)
      · funext k
        rw [uN_1, if_neg (by omega)]
  · rw [b2_0] at c
    rw [c, Bool.false_and, if_neg (by decide), if_neg (by decide)] at h
    exact h M hD hM
theorem mn_waits {m : Nat} {M : Mm} {A : Ab} {x : Int32} {post : Int32 → Mm → Prop} (hM : MS m M A) (hW : WA A) (hz : m + 33 ≤ ddZ M) (h : ∀ M1, MS m M1 (nx_waits A x) → Un (fun b _ => m ≤ b ∧ b < m + 33) M M1 → post (an_waits A x) M1) : PX11_waits m x M post := by
  refine ⟨hM.1.1, sp_isCall ⟨fun c => ?_, fun c => ?_⟩⟩
  · rw [b2_n] at c
    obtain ⟨j, ej, hj, ex⟩ := wi_nI (n := 3) c
    have hj : j < 4 := by omega
    unfold an_waits nx_waits at h
    rw [c, ← ej, if_pos rfl, Bool.true_and] at h
    rw [ex, nI_cl (by omega)]
    have hin : vp_in (nI j) 4 := nI_in2 hj (by decide)
    obtain ⟨a1, a2, a3⟩ := hM.1.f30
    obtain ⟨d1, d2, d3⟩ := hM.1.f28
    obtain ⟨f1, f2, f3⟩ := hM.1.f29
    obtain ⟨g1, g2, g3, g4, g5, g6⟩ := hM.2.2.2.1 j hj
    obtain ⟨w0, w1, -⟩ := hW.2.2.1 j hj
    refine ⟨hM.1.1, m + 27, a1, a2, by rw [a3]; exact hin, ?_⟩
    rw [g1, nI_1' w0]
    refine ⟨fun q => ?_, fun q => ⟨m + 26, f1, f2, by rw [f3]; exact hin, ?_⟩⟩
    · have e : ok_waits A j = false := by unfold ok_waits; rw [decide_eq_false (by omega)]; rfl
      rw [e, Bool.false_and, if_neg (by decide), if_neg (by decide)] at h
      exact h M hM Un.rf
    · rw [g2, nI_1' w1]
      refine ⟨fun q2 => ⟨m + 25, d1, d2, by rw [d3]; exact hin, ?_⟩, fun q2 => ?_⟩
      · have e : ok_waits A j = true := by unfold ok_waits; rw [decide_eq_true (by omega), decide_eq_true q2]; rfl
        rw [e, if_pos rfl, Bool.true_and] at h
        rw [g4]
        refine ⟨fun d => ⟨by rw [f3]; exact hin, fun M2 E2 => ?_⟩, fun d => ?_⟩
        · rw [if_pos d, decide_eq_true d, if_pos rfl] at h
          have u : Un (fun b k => b = m + 26 ∧ k = j) M M2 := by rw [E2]; exact Un.sI
          refine h M2 (MS_C hM hz u (fun b k q => Or.inr (by omega)) (fun i hi => ?_) (fun c hc => ?_) (fun _ _ => rfl) rfl) (u.wk (fun b k _ q => by omega))
          · obtain ⟨k1, k2, k3, k4, k5, k6⟩ := hM.2.2.2.1 i hi
            simp only [uN_1, uN_2]
            rw [u.I (b := m + 27) (by omega) (by omega), u.I (b := m + 22) (by omega) (by omega), u.I (b := m + 25) (by omega) (by omega), u.I (b := m + 23) (by omega) (by omega)]
            refine ⟨by simpa using k1, ?_, by simpa using k3, k4, by simpa using k5, fun z hz2 => ?_⟩
            · rw [E2, gI_I]
              by_cases hij : i = j
              · subst hij
                simp
                rfl
              · simp only [hij, and_false, if_false]
                exact k2
            · rw [u.I (by omega) (by omega)]
              simp only [Nat.reduceEqDiff, false_and, if_false] at hz2 ⊢
              exact k6 z hz2
          · funext k
            rw [uN_1, if_neg (by omega)]
        · rw [if_neg d, decide_eq_false d, if_neg (by decide)] at h
          exact h M hM Un.rf
      · have e : ok_waits A j = false := by unfold ok_waits; rw [Bool.and_eq_false_iff]; exact Or.inr (decide_eq_false q2)
        rw [e, Bool.false_and, if_neg (by decide), if_neg (by decide)] at h
        exact h M hM Un.rf
  · rw [b2_0] at c
    have e1 : an_waits A x = -2 := by unfold an_waits; rw [if_neg (by rw [c]; decide)]
    have e2 : nx_waits A x = A := by unfold nx_waits; rw [c, Bool.false_and, if_neg (by decide)]
    rw [e1, e2] at h
    exact h M hM Un.rf
