/-! places that hold no state -/
def Scr (a b k : Nat) : Prop := b = a + 3 ∨ (b = a + 1 ∧ (k = 2 ∨ k = 3)) ∨ b = a + 30 ∨ b = a + 31 ∨ (b = a + 11 ∧ k = 6)
def MScr (m b k : Nat) : Prop := b = m + 28 ∨ (b = m ∧ k = 32) ∨ b = m + 32
theorem rnS : ∀ q ∈ dw_R, ¬ (q.1 = 3 ∨ (q.1 = 1 ∧ (q.2.1 = 2 ∨ q.2.1 = 3)) ∨ q.1 = 30 ∨ q.1 = 31 ∨ (q.1 = 11 ∧ q.2.1 = 6)) := by decide
theorem rnC : ∀ q ∈ dw_R, ¬ (7 ≤ q.1 ∧ q.1 < 11) ∧ ¬ (13 ≤ q.1 ∧ q.1 < 29) := by decide
section SC
variable {P : Nat → Nat → Prop} {M M' : Mm} {a m : Nat} {A A' : Ab}
/-- the desk, its calls and its scratch places changed -/
theorem DS_C (h : DS a M A) (u : Un P M M') (hP : ∀ b k, P b k → Scr a b k ∨ (a + 7 ≤ b ∧ b < a + 11)) (hC : DC a M' A') (h1 : ∀ c, c < 30 ∨ 35 ≤ c → A'.1 c = A.1 c) (h2 : ∀ c, c ≠ 30 → A'.2.1 c = A.2.1 c) (h3 : A'.2.2 = A.2.2) : DS a M' A' := by
  obtain ⟨d1, d2, d3, d4, d5, d6, d7⟩ := h
  have hz := d1.2.2.2.2
  have nn : ∀ b k, ¬ (Scr a b k ∨ (a + 7 ≤ b ∧ b < a + 11)) → ¬ P b k := fun b k q z => q (hP b k z)
  unfold Scr at nn
  refine ⟨DW_keep d1 u (fun q hq => nn _ _ ?_) (fun j hj => nn _ _ (by omega)), ?_, DD_cg (DD_keep d3 hz u (fun j hj => ⟨nn _ _ (by omega), nn _ _ (by omega)⟩)) (h1 40 (by omega)) (h1 41 (by omega)), hC, DE_cg (DE_keep d5 hz u (nn _ _ (by omega)) (fun e => nn _ _ (by omega)) (fun q k hq _ => nn _ _ (by have := hq.1; omega))) (by rw [h3]) (fun c hc => h1 c (by omega)) (fun c hc => h2 c (by omega)), DL_cg (DL_keep d6 hz u ⟨nn _ _ (by omega), nn _ _ (by omega)⟩ (fun e => nn _ _ (by omega)) (fun e => nn _ _ (by omega)) (fun q k hq _ => nn _ _ (by have := hq.1; omega))) (by rw [h3]) (by rw [h3]) (fun c hc => h1 c (by omega)) (h2 10 (by omega)), DO_cg (DO_keep d7 hz u (nn _ _ (by omega)) (fun e => nn _ _ (by omega)) (fun q k hq _ => nn _ _ (by have := hq.1; omega)) (fun q k hq _ _ => nn _ _ (by have := hq.1; omega)) (fun q k hq _ => nn _ _ (by have := hq.1; omega))) (by rw [h3]) (fun c hc o _ => by rw [h1 c (by omega)]) (fun o _ => by rw [h2 0 (by omega)]) (h1 50 (by omega))⟩
  · have r1 := rnS q hq
    have r2 := rnC q hq
    omega
  · have := DK_keep d2 hz u (nn _ _ (by omega))
    unfold DK at this ⊢
    rw [h3]
    exact this
theorem DS_scr (h : DS a M A) (u : Un P M M') (hP : ∀ b k, P b k → Scr a b k) : DS a M' A :=
  DS_C h u (fun b k q => Or.inl (hP b k q)) (DC_keep h.2.2.2.1 h.1.2.2.2.2 u (fun k f hk q => by have := hP _ _ q; unfold Scr at this; omega)) (fun _ _ => rfl) (fun _ _ => rfl) rfl
theorem DS_D (h : DS a M A) (u : Un P M M') (hP : ∀ b k, P b k → a + 13 ≤ b ∧ b < a + 29 ∧ k ≠ 0) (hC : DD a M' A') (h1 : ∀ c, c < 40 ∨ 42 ≤ c → A'.1 c = A.1 c) (h2 : A'.2 = A.2) : DS a M' A' := by
  obtain ⟨d1, d2, d3, d4, d5, d6, d7⟩ := h
  have hz := d1.2.2.2.2
  have nn : ∀ b k, ¬ (a + 13 ≤ b ∧ b < a + 29 ∧ k ≠ 0) → ¬ P b k := fun b k q z => q (hP b k z)
  refine ⟨DW_keep d1 u (fun q hq => nn _ _ ?_) (fun j hj => nn _ _ (by omega)), ?_, hC, DC_cg (DC_keep d4 hz u (fun k f hk => nn _ _ (by omega))) (fun c _ _ => h1 c (by omega)) (by rw [h2]), DE_cg (DE_keep d5 hz u (nn _ _ (by omega)) (fun e => nn _ _ (by omega)) (fun q k hq _ => nn _ _ (by have := hq.1; omega))) (by rw [h2]) (fun c hc => h1 c (by omega)) (fun c hc => by rw [h2]), DL_cg (DL_keep d6 hz u ⟨nn _ _ (by omega), nn _ _ (by omega)⟩ (fun e => nn _ _ (by omega)) (fun e => nn _ _ (by omega)) (fun q k hq _ => nn _ _ (by have := hq.1; omega))) (by rw [h2]) (by rw [h2]) (fun c hc => h1 c (by omega)) (by rw [h2]), DO_cg (DO_keep d7 hz u (nn _ _ (by omega)) (fun e => nn _ _ (by omega)) (fun q k hq _ => nn _ _ (by have := hq.1; omega)) (fun q k hq _ _ => nn _ _ (by have := hq.1; omega)) (fun q k hq _ => nn _ _ (by have := hq.1; omega))) (by rw [h2]) (fun c hc o _ => by rw [h1 c (by omega)]) (fun o _ => by rw [h2]) (h1 50 (by omega))⟩
  · have r2 := rnC q hq
    omega
  · have := DK_keep d2 hz u (nn _ _ (by omega))
    unfold DK at this ⊢
    rw [h2]
    exact this
theorem MS_C (h : MS m M A) (hz : m + 33 ≤ ddZ M) (u : Un P M M') (hP : ∀ b k, P b k → MScr m b k ∨ (m + 22 ≤ b ∧ b < m + 28)) (hC : MC m M' A') (h1 : ∀ c, c < 30 ∨ 35 ≤ c → A'.1 c = A.1 c) (h2 : ∀ c, c ≠ 30 → A'.2.1 c = A.2.1 c) (h3 : A'.2.2 = A.2.2) : MS m M' A' := by
  obtain ⟨d1, d2, d3, d4, d5, d6, d7⟩ := h
  have nn : ∀ b k, ¬ (MScr m b k ∨ (m + 22 ≤ b ∧ b < m + 28)) → ¬ P b k := fun b k q z => q (hP b k z)
  unfold MScr at nn
  refine ⟨MW_keep d1 hz u (fun k _ _ _ _ _ _ => nn _ _ (by omega)), ?_, MD_cg (MD_keep d3 hz u (fun j hj => ⟨nn _ _ (by omega), nn _ _ (by omega)⟩)) (h1 40 (by omega)) (h1 41 (by omega)), hC, ME_cg (ME_keep d5 hz u (nn _ _ (by omega)) (fun o j _ _ _ => nn _ _ (by omega))) (by rw [h3]) (fun c hc => h1 c (by omega)) (fun c hc => h2 c (by omega)), ML_cg (ML_keep d6 hz u ⟨nn _ _ (by omega), nn _ _ (by omega)⟩ (fun o j _ _ => nn _ _ (by omega))) (by rw [h3]) (by rw [h3]) (fun c hc => h1 c (by omega)) (h2 10 (by omega)), MO_cg (MO_keep d7 hz u (nn _ _ (by omega)) (fun o j _ _ _ => nn _ _ (by omega)) (fun j => nn _ _ (by omega))) (by rw [h3]) (fun c hc o _ => by rw [h1 c (by omega)]) (fun c hc o _ => by rw [h2 c (by omega)]) (h1 50 (by omega))⟩
  have := MK_keep d2 hz u (nn _ _ (by omega))
  unfold MK at this ⊢
  rw [h3]
  exact this
theorem MS_scr (h : MS m M A) (hz : m + 33 ≤ ddZ M) (u : Un P M M') (hP : ∀ b k, P b k → MScr m b k) : MS m M' A :=
  MS_C h hz u (fun b k q => Or.inl (hP b k q)) (MC_keep h.2.2.2.1 hz u (fun o j _ _ q => by have := hP _ _ q; unfold MScr at this; omega)) (fun _ _ => rfl) (fun _ _ => rfl) rfl
theorem MS_D (h : MS m M A) (hz : m + 33 ≤ ddZ M) (u : Un P M M') (hP : ∀ b k, P b k → b = m + 29 ∨ b = m + 30) (hC : MD m M' A') (h1 : ∀ c, c < 40 ∨ 42 ≤ c → A'.1 c = A.1 c) (h2 : A'.2 = A.2) : MS m M' A' := by
  obtain ⟨d1, d2, d3, d4, d5, d6, d7⟩ := h
  have nn : ∀ b k, ¬ (b = m + 29 ∨ b = m + 30) → ¬ P b k := fun b k q z => q (hP b k z)
  refine ⟨MW_keep d1 hz u (fun k _ _ _ _ _ _ => nn _ _ (by omega)), ?_, hC, MC_cg (MC_keep d4 hz u (fun o j _ _ => nn _ _ (by omega))) (fun c _ _ => h1 c (by omega)) (by rw [h2]), ME_cg (ME_keep d5 hz u (nn _ _ (by omega)) (fun o j _ _ _ => nn _ _ (by omega))) (by rw [h2]) (fun c hc => h1 c (by omega)) (fun c hc => by rw [h2]), ML_cg (ML_keep d6 hz u ⟨nn _ _ (by omega), nn _ _ (by omega)⟩ (fun o j _ _ => nn _ _ (by omega))) (by rw [h2]) (by rw [h2]) (fun c hc => h1 c (by omega)) (by rw [h2]), MO_cg (MO_keep d7 hz u (nn _ _ (by omega)) (fun o j _ _ _ => nn _ _ (by omega)) (fun j => nn _ _ (by omega))) (by rw [h2]) (fun c hc o _ => by rw [h1 c (by omega)]) (fun c hc o _ => by rw [h2]) (h1 50 (by omega))⟩
  have := MK_keep d2 hz u (nn _ _ (by omega))
  unfold MK at this ⊢
  rw [h2]
  exact this
end SC
theorem uN_1 {A : Ab} {c j v c' j' : Nat} : (uN_ A c j v).1 c' j' = if c' = c ∧ j' = j then v else A.1 c' j' := rfl
theorem uN_2 {A : Ab} {c j v : Nat} : (uN_ A c j v).2 = A.2 := rfl
theorem uH_1 {A : Ab} {c j : Nat} {v : Int32} : (uH_ A c j v).1 = A.1 := rfl
theorem uH_2 {A : Ab} {c j c' j' : Nat} {v : Int32} : (uH_ A c j v).2.1 c' j' = if c' = c ∧ j' = j then v else A.2.1 c' j' := rfl
theorem uH_3 {A : Ab} {c j : Nat} {v : Int32} : (uH_ A c j v).2.2 = A.2.2 := rfl
theorem uC_1 {A : Ab} {c v : Nat} : (uC_ A c v).1 = A.1 := rfl
theorem uC_2 {A : Ab} {c v : Nat} : (uC_ A c v).2.1 = A.2.1 := rfl
theorem uC_3 {A : Ab} {c v c' : Nat} : (uC_ A c v).2.2 c' = if c' = c then v else A.2.2 c' := rfl
/-! demand -/
def ok_demand (x y z : Int32) : Bool := wi_ x.toInt 0 15 && (wi_ y.toInt 0 1000000000 && wi_ z.toInt 0 1000000)
def an_demand (A : Ab) (x y z : Int32) : Int32 := if ok_demand x y z then nI (A.1 40 x.toInt.toNat) else -2
def nx_demand (A : Ab) (x y z : Int32) : Ab := if ok_demand x y z then uN_ (uN_ A 40 x.toInt.toNat y.toInt.toNat) 41 x.toInt.toNat z.toInt.toNat else A
theorem nI_toNat {x : Int32} (h : 0 ≤ x.toInt) : nI x.toInt.toNat = x := by
  have hr := xi_rng x
  apply Int32.toInt_inj.mp
  rw [nI_T (by omega)]
  omega
theorem dwR12 : ∀ j, j < 16 → (12, j, 13 + j) ∈ dw_R := by decide
theorem dwT13 : ∀ j, j < 16 → (13 + j, 2) ∈ dw_T := by decide
theorem se_demandOf {a : Nat} {M : Mm} {x : Int32} {post : Option Nat → Mm → Prop} (hD : DW a M) (h1 : wi_ x.toInt 0 15 = false → post none M) (h2 : ∀ j, j < 16 → x = nI j → post (some (a + 13 + j)) M) : PX9_demandOf (a + 11) x M post := by
  refine ⟨fun c => h1 ?_, fun c => ⟨DW_T hD (by decide), a + 12, DW_R hD (by decide), DW_T hD (by decide), ?_⟩⟩
  · rw [xi_lt] at c
    exact wi_f.mpr (by have c : x.toInt < 0 := c; omega)
  · rw [DW_N hD (i := 12) (n := 16) (by decide)]
    rw [xi_lt] at c
    have c : ¬ x.toInt < 0 := c
    refine ⟨fun c1 => h1 ?_, fun c1 => ?_⟩
    · rw [xi_le] at c1
      have c1 : (16 : Int) ≤ x.toInt := c1
      exact wi_f.mpr (by omega)
    · rw [xi_le] at c1
      have c1 : ¬ (16 : Int) ≤ x.toInt := c1
      have e : nI x.toInt.toNat = x := nI_toNat (by omega)
      have hj : x.toInt.toNat < 16 := by omega
      rw [← e]
      refine ⟨nI_in2 hj (by decide), ?_⟩
      rw [nI_cl (by omega), DW_R hD (dwR12 _ hj), show a + (13 + x.toInt.toNat) = a + 13 + x.toInt.toNat by omega]
      exact h2 _ hj e.symm
theorem dn_demand {a : Nat} {M : Mm} {A : Ab} {x y z : Int32} {post : Int32 → Mm → Prop} (hS : SS a M A) (h : ∀ M1, DS a M1 (nx_demand A x y z) → MS (a + 32) M1 A → post (an_demand A x y z) M1) : PX10_demand a x y z M post := by
  obtain ⟨hD, hM, hW⟩ := hS
  have hz := hD.1.2.2.2.2
  have no : ok_demand x y z = false → post (-2) M := fun c => by
    have e1 : an_demand A x y z = -2 := by unfold an_demand; rw [if_neg (by rw [c]; decide)]
    have e2 : nx_demand A x y z = A := by unfold nx_demand; rw [if_neg (by rw [c]; decide)]
    rw [e1, e2] at h
    exact h M hD hM
  unfold ok_demand at no
  refine ⟨DW_T hD.1 (i := 0) (by decide), a + 11, DW_R hD.1 (i := 0) (by decide), DW_T hD.1 (by decide), se_demandOf hD.1 (fun c => ⟨fun _ => no (by rw [c]; rfl), fun q hq => by cases hq⟩) (fun j hj ex => ⟨fun q => (by cases q), fun q hq => ?_⟩)⟩
  cases hq
  refine se_within ⟨fun c => ?_, fun c => se_within ⟨fun c1 => ⟨?_, fun v hv M2 e2 M3 e3 => ?_⟩, fun c1 => ?_⟩⟩
  · rw [b2_0] at c
    exact no (by rw [show wi_ y.toInt 0 1000000000 = false from c]; simp)
  · have := DW_T hD.1 (dwT13 j hj)
    rw [show a + (13 + j) = a + 13 + j by omega] at this
    exact this
  · rw [b2_n] at c c1
    have c : wi_ y.toInt 0 1000000000 = true := c
    have c1 : wi_ z.toInt 0 1000000 = true := c1
    have hx : x.toInt = j := by rw [ex, nI_T (by omega)]
    have cx : wi_ x.toInt 0 15 = true := wi_t.mpr (by omega)
    have ok : ok_demand x y z = true := by unfold ok_demand; rw [cx, c, c1]; rfl
    have ej : x.toInt.toNat = j := by omega
    have e4 : an_demand A x y z = nI (A.1 40 j) := by unfold an_demand; rw [if_pos ok, ej]
    have e5 : nx_demand A x y z = uN_ (uN_ A 40 j y.toInt.toNat) 41 j z.toInt.toNat := by unfold nx_demand; rw [if_pos ok, ej]
    have d3 := hD.2.2.1 j hj
    rw [e4, e5] at h
    rw [hv, d3.1]
    have u : Un (fun b k => (b = a + 13 + j ∧ k = 1) ∨ (b = a + 13 + j ∧ k = 2)) M M3 := by rw [e3, e2]; exact Un.sI.tr Un.sI
    have wy := wi_t.mp c
    have wz := wi_t.mp c1
    refine h M3 (DS_D hD u (fun b k q => by omega) (fun i hi => ?_) (fun c hc => ?_) rfl) (MS_keep hM hz u (fun b k q => by omega))
    · have di := hD.2.2.1 i hi
      rw [e3, e2, gI_I, gI_I, gI_I, gI_I]
      simp only [uN_1]
      by_cases hij : i = j
      · subst hij
        simp only [true_and, and_true, if_true, if_pos, Nat.reduceEqDiff, false_and, if_false]
        rw [nI_toNat (by omega), nI_toNat (by omega)]
        exact ⟨rfl, rfl⟩
      · have n1 : ¬ (a + 13 + i = a + 13 + j) := by omega
        simp only [n1, hij, and_false, false_and, if_false]
        exact di
    · funext k
      simp only [uN_1]
      rw [if_neg (by omega), if_neg (by omega)]
  · rw [b2_0] at c1
    exact no (by rw [show wi_ z.toInt 0 1000000 = false from c1]; simp)
theorem mn_demand {m : Nat} {M : Mm} {A : Ab} {x y z : Int32} {post : Int32 → Mm → Prop} (hM : MS m M A) (hz : m + 33 ≤ ddZ M) (h : ∀ M1, MS m M1 (nx_demand A x y z) → Un (fun b _ => m ≤ b ∧ b < m + 33) M M1 → post (an_demand A x y z) M1) : PX11_demand m x y z M post := by
  have no : ok_demand x y z = false → post (-2) M := fun c => by
    have e1 : an_demand A x y z = -2 := by unfold an_demand; rw [if_neg (by rw [c]; decide)]
    have e2 : nx_demand A x y z = A := by unfold nx_demand; rw [if_neg (by rw [c]; decide)]
    rw [e1, e2] at h
    exact h M hM Un.rf
  unfold ok_demand at no
  unfold PX11_demand
  refine sp_in ⟨fun c => ?_, fun c => sp_in ⟨fun c1 => ?_, fun c1 => sp_in ⟨fun c2 => ?_, fun c2 => ?_⟩⟩⟩
  · rw [b2_0, wd_T] at c
    exact no (by rw [show wi_ x.toInt 0 15 = false from c]; rfl)
  · rw [b2_0, wd_T] at c1
    exact no (by rw [show wi_ y.toInt 0 1000000000 = false from c1]; simp)
  · rw [b2_n, wd_T] at c c1 c2
    have c : wi_ x.toInt 0 15 = true := c
    have c1 : wi_ y.toInt 0 1000000000 = true := c1
    have c2 : wi_ z.toInt 0 1000000 = true := c2
    have ok : ok_demand x y z = true := by unfold ok_demand; rw [c, c1, c2]; rfl
    have wx := wi_t.mp c
    have wy := wi_t.mp c1
    have wz := wi_t.mp c2
    obtain ⟨j, ej⟩ : ∃ j, j = x.toInt.toNat := ⟨_, rfl⟩
    have hj : j < 16 := by omega
    have ex : x = nI j := by rw [ej]; exact (nI_toNat (by omega)).symm
    have e4 : an_demand A x y z = nI (A.1 40 j) := by unfold an_demand; rw [if_pos ok, ej]
    have e5 : nx_demand A x y z = uN_ (uN_ A 40 j y.toInt.toNat) 41 j z.toInt.toNat := by unfold nx_demand; rw [if_pos ok, ej]
    obtain ⟨a1, a2, a3⟩ := hM.1.f33
    obtain ⟨b1, b2, b3⟩ := hM.1.f34
    have d3 := hM.2.2.1 j hj
    rw [e4, e5] at h
    rw [ex]
    have hin : vp_in (nI j) 16 := nI_in2 hj (by decide)
    rw [nI_cl (by omega)]
    refine ⟨hM.1.1, m + 29, a1, a2, by rw [a3]; exact hin, fun v hv => ⟨by rw [a3]; exact hin, fun M2 e2 => ?_⟩⟩
    have r34 : ddR M2 m 34 = some (m + 30) := by rw [e2]; exact b1
    have t30 : ddT M2 (m + 30) = 20 := by rw [e2]; exact b2
    have n30 : ddN M2 (m + 30) = 16 := by rw [e2]; exact b3
    refine ⟨m + 30, r34, t30, by rw [n30]; exact hin, fun M3 e3 => ?_⟩
    rw [hv, d3.1]
    have u : Un (fun b k => (b = m + 29 ∧ k = j) ∨ (b = m + 30 ∧ k = j)) M M3 := by rw [e3, e2]; exact Un.sI.tr Un.sI
    refine h M3 (MS_D hM hz u (fun b k q => by omega) (fun i hi => ?_) (fun c hc => ?_) rfl) (u.wk (fun b k _ q => by omega))
    · have di := hM.2.2.1 i hi
      rw [e3, e2, gI_I, gI_I, gI_I, gI_I]
      simp only [uN_1]
      have n1 : ¬ (m + 29 = m + 30) := by omega
      have n2 : ¬ (m + 30 = m + 29) := by omega
      by_cases hij : i = j
      · subst hij
        simp only [n1, n2, true_and, and_true, if_true, if_pos, Nat.reduceEqDiff, false_and, if_false]
        rw [nI_toNat (by omega), nI_toNat (by omega)]
        exact ⟨rfl, rfl⟩
      · simp only [hij, and_false, if_false]
        exact di
    · funext k
      simp only [uN_1]
      rw [if_neg (by omega), if_neg (by omega)]
  · rw [b2_0, wd_T] at c2
    exact no (by rw [show wi_ z.toInt 0 1000000 = false from c2]; simp)
