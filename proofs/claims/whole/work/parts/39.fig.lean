/-! figure -/
def cgA (A : Ab) (k c w : Nat) : Ab := uN_ (uN_ A 33 k c) 34 k w
def fgA (A : Ab) (k c w an : Nat) : Ab := uH_ (uN_ (cgA A k c w) 31 k (an % 2)) 30 k (nI an)
section FG
variable {A : Ab} {k c w an : Nat}
theorem cg_1 {e j : Nat} : (cgA A k c w).1 e j = if j = k then (if e = 33 then c else if e = 34 then w else A.1 e j) else A.1 e j := by
  unfold cgA
  simp only [uN_1]
  by_cases hk : j = k
  · simp only [hk, and_true, if_true]
    by_cases h0 : e = 34
    · subst h0; simp
    · by_cases h1 : e = 33
      · subst h1; simp
      · simp [h0, h1]
  · simp [hk]
theorem cg_1c {e : Nat} (h : e ≠ 33) (h2 : e ≠ 34) : (cgA A k c w).1 e = A.1 e := by
  funext j
  rw [cg_1, if_neg h, if_neg h2]
  split <;> rfl
theorem cg_1n {e j : Nat} (h : j ≠ k) : (cgA A k c w).1 e j = A.1 e j := by rw [cg_1, if_neg h]
theorem cg_33 : (cgA A k c w).1 33 k = c := by rw [cg_1, if_pos rfl, if_pos rfl]
theorem cg_34 : (cgA A k c w).1 34 k = w := by rw [cg_1, if_pos rfl, if_neg (by omega), if_pos rfl]
theorem fg_1 {e j : Nat} : (fgA A k c w an).1 e j = if e = 31 ∧ j = k then an % 2 else (cgA A k c w).1 e j := rfl
theorem fg_1c {e : Nat} (h : e ≠ 31) : (fgA A k c w an).1 e = (cgA A k c w).1 e := by
  funext j
  rw [fg_1, if_neg (fun z => h z.1)]
theorem fg_2 {e j : Nat} : (fgA A k c w an).2.1 e j = if e = 30 ∧ j = k then nI an else A.2.1 e j := rfl
theorem fg_2c {e : Nat} (h : e ≠ 30) : (fgA A k c w an).2.1 e = A.2.1 e := by
  funext j
  rw [fg_2, if_neg (fun z => h z.1)]
theorem fg_3 : (fgA A k c w an).2.2 = A.2.2 := rfl
end FG
def fgn (A : Ab) (k f : Nat) : Nat := ans_ A (A.1 34 k * 10 + f) (A.1 33 k + 1) (nI (A.1 32 k))
theorem ans_lt (A : Ab) (w c : Nat) (d : Int32) : ans_ A w c d ≤ 3 := by
  unfold ans_
  split
  · split <;> omega
  · split <;> omega
def ok_fig (x f : Int32) : Bool := wi_ x.toInt 0 3 && wi_ f.toInt 0 9
def nf_A (A : Ab) (k f : Nat) : Ab := fgA A k (A.1 33 k + 1) (A.1 34 k * 10 + f) (fgn A k f)
def an_figure (A : Ab) (x f : Int32) : Int32 := if ok_fig x f then (if ok_waits A x.toInt.toNat then nI (fgn A x.toInt.toNat f.toInt.toNat) else -1) else -2
def nx_figure (A : Ab) (x f : Int32) : Ab := if ok_fig x f && ok_waits A x.toInt.toNat then nf_A A x.toInt.toNat f.toInt.toNat else A
theorem an_fig_f {A : Ab} {x f : Int32} (c : ok_fig x f = false) : an_figure A x f = -2 ∧ nx_figure A x f = A := by unfold an_figure nx_figure; rw [c]; exact ⟨rfl, rfl⟩
theorem an_fig_n {A : Ab} {x f : Int32} (c : ok_fig x f = true) (c1 : ok_waits A x.toInt.toNat = false) : an_figure A x f = -1 ∧ nx_figure A x f = A := by unfold an_figure nx_figure; rw [c, c1]; exact ⟨rfl, rfl⟩
theorem an_fig_t {A : Ab} {x f : Int32} (c : ok_fig x f = true) (c1 : ok_waits A x.toInt.toNat = true) : an_figure A x f = nI (fgn A x.toInt.toNat f.toInt.toNat) ∧ nx_figure A x f = nf_A A x.toInt.toNat f.toInt.toNat := by unfold an_figure nx_figure; rw [c, c1]; exact ⟨rfl, rfl⟩
theorem ow_t {A : Ab} {k : Nat} (hA : WA A) (hk : k < 4) (h : ok_waits A k = true) : A.1 30 k = 1 ∧ A.1 31 k = 0 ∧ 10 ^ A.1 33 k ≤ A.1 34 k ∧ A.1 34 k < 2 * 10 ^ A.1 33 k ∧ A.1 33 k ≤ 14 ∧ A.1 32 k ≤ 20000 := by
  unfold ok_waits at h
  rw [Bool.and_eq_true, decide_eq_true_eq, decide_eq_true_eq] at h
  obtain ⟨w1, w2, w3, w4, w5, w6, w7⟩ := hA.2.2.1 k hk
  refine ⟨h.1, h.2, (w5 h.1).1, (w5 h.1).2, ?_, w3⟩
  rcases Nat.lt_or_ge (A.1 33 k) 15 with z | z
  · omega
  · have := w6 (by omega)
    omega
theorem snoc_F {w c f : Nat} (hf : f < 10) (h : 10 ^ c ≤ w ∧ w < 2 * 10 ^ c) : 10 ^ (c + 1) ≤ w * 10 + f ∧ w * 10 + f < 2 * 10 ^ (c + 1) := by
  rw [Nat.pow_succ]
  omega
theorem dg_snoc {w c f j : Nat} (hf : f < 10) (hj : j < c + 1) : dg_ (w * 10 + f) (c + 1) j = if j < c then dg_ w c j else f := by
  unfold dg_
  split
  · next h =>
    rw [show c + 1 - 1 - j = (c - 1 - j) + 1 by omega, Nat.pow_succ', ← Nat.div_div_eq_div_mul, show (w * 10 + f) / 10 = w by omega]
  · next h =>
    rw [show c + 1 - 1 - j = 0 by omega, Nat.pow_zero, Nat.div_one]
    omega
theorem dn_figure {a : Nat} {M : Mm} {A : Ab} {x f : Int32} {post : Int32 → Mm → Prop} (hS : SS a M A) (h : ∀ M1, DS a M1 (nx_figure A x f) → MS (a + 32) M1 A → post (an_figure A x f) M1) : PX10_figure a x f M post := by
  obtain ⟨hD, hM, hA⟩ := id hS
  have hz := hD.1.2.2.2.2
  have hT0 : ddT M a = 11 := DW_T hD.1 (i := 0) (by decide)
  have hDE := hD.2.2.2.2.1
  have no : ok_fig x f = false → post (-2) M := fun c => by
    rw [(an_fig_f c).1, (an_fig_f c).2] at h
    exact h M hD hM
  refine ⟨hT0, se_callWith hD.1 (fun c => co_none (no (by unfold ok_fig; rw [c]; rfl)) rfl) (fun k hk ex => co_some (a + 7 + k) (se_within (bn (fun z => ⟨DW_c hD.1 hk, se_isOpen hD hA hk (bn (fun z1 => ⟨DW_c hD.1 hk, DW_c hD.1 hk, fun M2 E2 M3 E3 => ?_⟩) (fun z1 => ?_))⟩) (fun z => no ?_))) rfl)⟩
  · have hx : x.toInt = k := by rw [ex, nI_T (by omega)]
    have cx : wi_ x.toInt 0 3 = true := wi_t.mpr (by omega)
    have ek : x.toInt.toNat = k := by omega
    have z : wi_ f.toInt 0 9 = true := z
    have zf := wi_t.mp z
    have ok : ok_fig x f = true := by unfold ok_fig; rw [cx, z]; rfl
    rw [(an_fig_t ok (by rw [ek]; exact z1)).1, (an_fig_t ok (by rw [ek]; exact z1)).2, ek] at h
    obtain ⟨v, ev⟩ : ∃ v, v = f.toInt.toNat := ⟨_, rfl⟩
    rw [← ev] at h
    have hv : v < 10 := by omega
    have efv : f = nI v := by rw [ev]; exact (nI_toNat (by omega)).symm
    obtain ⟨o1, o2, o3, o4, o5, o6⟩ := ow_t hA hk z1
    obtain ⟨c0, c1, c2, c3, c4, c5⟩ := hD.2.2.2.1 k hk
    have hTq := DW_c hD.1 hk
    rw [c5, efv, i2l_nI (by omega), show (10 : Int64) = lN 10 from rfl, lN_mul, lN_add] at E2
    have k24 : ddI M2 (a + 7 + k) 4 = nI (A.1 33 k) := by rw [E2]; exact c4
    rw [k24, nI_1] at E3
    have u3 : Un (fun b _ => b = a + 7 + k) M M3 := by rw [E3, E2]; exact (Un.sL.tr Un.sI).wk (fun b j _ y => by omega)
    have W3 : DW a M3 := DW_keep hD.1 u3 (fun q hq y => by have := rnC q hq; omega) (fun j hj y => by omega)
    have D3 : DE a M3 A := DE_keep hDE hz u3 (by omega) (fun e y => by omega) (fun q j hq _ y => by have := hq.1; omega)
    have i0 : ddI M3 (a + 7 + k) 0 = nI (A.1 30 k) := by rw [E3, gI_I, if_neg (by omega), E2]; exact c0
    have i2 : ddI M3 (a + 7 + k) 2 = nI (A.1 32 k) := by rw [E3, gI_I, if_neg (by omega), E2]; exact c2
    have i4 : ddI M3 (a + 7 + k) 4 = nI (A.1 33 k + 1) := by rw [E3, gI_I, if_pos ⟨rfl, rfl⟩]
    have i5 : ddL M3 (a + 7 + k) 5 = lN (A.1 34 k * 10 + v) := by rw [E3]; show ddL M2 _ _ = _; rw [E2, gL_L, if_pos ⟨rfl, rfl⟩]
    have hF := snoc_F hv ⟨o3, o4⟩
    refine ⟨DW_T W3 (i := 0) (by decide), DW_c W3 hk, a + 1, DW_R W3 (i := 0) (by decide), DW_T W3 (by decide), ?_⟩
    rw [i5, i4, i2]
    refine se_read W3 D3 hF (by omega) (fun M4 u4 hr => ⟨a + 3, rfl, ?_, ?_⟩)
    · rw [u4.T (by have := u3.1; omega)]; exact DW_T W3 (by decide)
    · obtain ⟨v0, v1, v2, v3⟩ := hr
      have z3 := u3.1
      have W4 := DW_P3 W3 u4
      have han := ans_lt A (A.1 34 k * 10 + v) (A.1 33 k + 1) (nI (A.1 32 k))
      obtain ⟨an, ean⟩ : ∃ an, an = fgn A k v := ⟨_, rfl⟩
      have han : an ≤ 3 := by rw [ean]; exact han
      have nA : nf_A A k v = fgA A k (A.1 33 k + 1) (A.1 34 k * 10 + v) an := by unfold nf_A; rw [ean]
      rw [nA, ← ean] at h
      have done : ∀ (ov : Nat) (M29 M' : Mm), M29 = suI M4 (a + 7 + k) 3 (nI an) → M' = suI M29 (a + 7 + k) 1 (nI ov) → ov = an % 2 → post (ddI M' (a + 7 + k) 3) M' := fun ov M29 M' E29 E' eov => by
        have r3 : ddI M' (a + 7 + k) 3 = nI an := by rw [E', gI_I, if_neg (by omega), E29, gI_I, if_pos ⟨rfl, rfl⟩]
        rw [r3]
        have u' : Un (fun b _ => b = a + 7 + k ∨ b = a + 3) M M' := by
          rw [E', E29]
          exact (((u3.tr u4).tr Un.sI).tr Un.sI).wk (fun b j _ y => by unfold P3 at y; omega)
        have z4 := u4.1
        refine h M' (DS_C hD u' (fun b j y => ?_) (fun i hi => ?_) (fun e he => ?_) (fun e he => fg_2c he) fg_3) (MS_keep hM hz u' (fun b j y => by omega))
        · rcases y with y | y
          · exact Or.inr (by omega)
          · exact Or.inl (Or.inl y)
        · by_cases hik : i = k
          · subst hik
            rw [fg_1c (e := 30) (by omega), fg_1c (e := 32) (by omega), fg_1c (e := 33) (by omega), fg_1c (e := 34) (by omega), fg_1 (e := 31), if_pos ⟨rfl, rfl⟩, fg_2, if_pos ⟨rfl, rfl⟩, cg_1c (e := 30) (by omega) (by omega), cg_1c (e := 32) (by omega) (by omega), cg_33, cg_34]
            refine ⟨?_, ?_, ?_, r3, ?_, ?_⟩
            · rw [E', gI_I, if_neg (by omega), E29, gI_I, if_neg (by omega), u4.I (by omega) (by unfold P3; omega)]; exact i0
            · rw [E', gI_I, if_pos ⟨rfl, rfl⟩, eov]
            · rw [E', gI_I, if_neg (by omega), E29, gI_I, if_neg (by omega), u4.I (by omega) (by unfold P3; omega)]; exact i2
            · rw [E', gI_I, if_neg (by omega), E29, gI_I, if_neg (by omega), u4.I (by omega) (by unfold P3; omega)]; exact i4
            · rw [E', E29]
              show ddL M4 _ _ = _
              rw [u4.L (by omega) (by unfold P3; omega)]; exact i5
          · rw [fg_1c (e := 30) (by omega), fg_1c (e := 32) (by omega), fg_1c (e := 33) (by omega), fg_1c (e := 34) (by omega), fg_1 (e := 31), if_neg (fun y => hik y.2), fg_2, if_neg (fun y => hik y.2), cg_1n hik, cg_1n hik, cg_1n hik, cg_1n hik, cg_1n hik, u'.I (by omega) (by omega), u'.I (by omega) (by omega), u'.I (by omega) (by omega), u'.I (by omega) (by omega), u'.I (by omega) (by omega), u'.L (by omega) (by omega)]
            exact hD.2.2.2.1 i hi
        · rw [fg_1c (by omega), cg_1c (by omega) (by omega)]
      have fin : ∀ r, r = nI an → ddT M4 (a + 7 + k) = 1 ∧ (∀ M29 : Mm, M29 = suI M4 (a + 7 + k) 3 r → (((ddI M29 (a + 7 + k) 3) = 1 → (∀ M31 : Mm, M31 = suI M29 (a + 7 + k) 1 1 → (post (ddI M31 (a + 7 + k) 3) M31))) ∧ (¬ (ddI M29 (a + 7 + k) 3) = 1 → ((¬ (ddI M29 (a + 7 + k) 3) = 3 → (∀ M33 : Mm, M33 = suI M29 (a + 7 + k) 1 0 → (post (ddI M33 (a + 7 + k) 3) M33))) ∧ ((ddI M29 (a + 7 + k) 3) = 3 → (∀ M34 : Mm, M34 = suI M29 (a + 7 + k) 1 1 → (post (ddI M34 (a + 7 + k) 3) M34))))))) := fun r er => by
        refine ⟨DW_c W4 hk, fun M29 E29 => ?_⟩
        rw [er] at E29
        have r29 : ddI M29 (a + 7 + k) 3 = nI an := by rw [E29, gI_I, if_pos ⟨rfl, rfl⟩]
        rw [r29, show (1 : Int32) = nI 1 from rfl, nI_eq (by omega) (by omega), show (3 : Int32) = nI 3 from rfl, nI_eq (by omega) (by omega)]
        exact ⟨fun y M31 E31 => done 1 M29 M31 E29 E31 (by omega), fun y => ⟨fun y1 M33 E33 => done 0 M29 M33 E29 E33 (by omega), fun y1 M34 E34 => done 1 M29 M34 E29 E34 (by omega)⟩⟩
      have emm := mm_ex A (A.1 34 k * 10 + v) (A.1 33 k + 1) (nI (A.1 32 k)) (A.2.2 0)
      have t4 : ddT M4 (a + 3) = 9 := DW_T W4 (by decide)
      have ba := mm_lt (A := A) (w := A.1 34 k * 10 + v) (c := A.1 33 k + 1) (d := nI (A.1 32 k)) (GW_E hDE)
      refine ⟨t4, ?_⟩
      rw [v0, v3]
      have fe : fgn A k v = ans_ A (A.1 34 k * 10 + v) (A.1 33 k + 1) (nI (A.1 32 k)) := rfl
      unfold ans_ at fe
      rw [← emm, ← ean] at fe
      refine bz (fun y => ?_) (fun y => ?_)
      · rw [y, if_neg (by decide)] at fe
        cases ho : mmq_ A (A.1 34 k * 10 + v) (A.1 33 k + 1) (nI (A.1 32 k)) (A.2.2 0) with
        | none =>
          rw [ho] at fe
          exact ⟨fun y1 => absurd rfl y1, fun _ => fin 3 (by rw [fe]; rfl)⟩
        | some b =>
          rw [ho] at fe
          have := ba b ho
          exact ⟨fun _ => fin 0 (by rw [fe]; rfl), fun y1 => absurd y1 (nI_m1 (by omega))⟩
      · rw [y, if_pos rfl] at fe
        cases ho : mmq_ A (A.1 34 k * 10 + v) (A.1 33 k + 1) (nI (A.1 32 k)) (A.2.2 0) with
        | none =>
          rw [ho] at fe
          exact ⟨fun y1 => absurd rfl y1, fun _ => fin 1 (by rw [fe]; rfl)⟩
        | some b =>
          rw [ho] at fe
          have := ba b ho
          exact ⟨fun _ => fin 2 (by rw [fe]; rfl), fun y1 => absurd y1 (nI_m1 (by omega))⟩
  · have hx : x.toInt = k := by rw [ex, nI_T (by omega)]
    have cx : wi_ x.toInt 0 3 = true := wi_t.mpr (by omega)
    have ek : x.toInt.toNat = k := by omega
    have z : wi_ f.toInt 0 9 = true := z
    have ok : ok_fig x f = true := by unfold ok_fig; rw [cx, z]; rfl
    rw [(an_fig_n ok (by rw [ek]; exact z1)).1, (an_fig_n ok (by rw [ek]; exact z1)).2] at h
    exact h M hD hM
  · unfold ok_fig; rw [show wi_ f.toInt 0 9 = false from z, Bool.and_false]
theorem mn_figure {m : Nat} {M : Mm} {A : Ab} {x f : Int32} {post : Int32 → Mm → Prop} (hM : MS m M A) (hA : WA A) (hz : m + 33 ≤ ddZ M) (h : ∀ M1, MS m M1 (nx_figure A x f) → Un (fun b _ => m ≤ b ∧ b < m + 33) M M1 → post (an_figure A x f) M1) : PX11_figure m x f M post := by
  have no : ok_fig x f = false → post (-2) M := fun c => by
    rw [(an_fig_f c).1, (an_fig_f c).2] at h
    exact h M hM Un.rf
  refine ⟨hM.1.1, sp_isCall (bz (fun c => no (by unfold ok_fig; rw [c]; rfl)) (fun c => sp_in (bn (fun z => ⟨hM.1.1, ?_⟩) (fun z => no (by rw [wd_T] at z; unfold ok_fig; rw [show wi_ f.toInt 0 9 = false from z, Bool.and_false])))))⟩
  rw [wd_T] at z
  have z : wi_ f.toInt 0 9 = true := z
  have zf := wi_t.mp z
  obtain ⟨k, ek, hk, ex⟩ := wi_nI (n := 3) c
  have hk : k < 4 := by omega
  have ok : ok_fig x f = true := by unfold ok_fig; rw [c, z]; rfl
  have hin : vp_in (nI k) 4 := nI_in2 hk (by decide)
  obtain ⟨a1, a2, a3⟩ := hM.1.f30
  obtain ⟨b1, b2, b3⟩ := hM.1.f29
  obtain ⟨p1, p2, p3⟩ := hM.1.f26
  obtain ⟨q1, q2, q3⟩ := hM.1.f27
  obtain ⟨g1, g2, g3, g4, g5, g6⟩ := hM.2.2.2.1 k hk
  obtain ⟨w0, w1, -⟩ := hA.2.2.1 k hk
  have none_ : ok_waits A k = false → post (-1) M := fun y => by
    rw [(an_fig_n ok (by rw [← ek]; exact y)).1, (an_fig_n ok (by rw [← ek]; exact y)).2] at h
    exact h M hM Un.rf
  rw [ex, nI_cl (by omega)]
  refine ⟨m + 27, a1, a2, by rw [a3]; exact hin, ?_⟩
  rw [g1, nI_1' w0]
  refine ⟨fun y => none_ (by unfold ok_waits; rw [decide_eq_false (by omega)]; rfl), fun y => ⟨m + 26, b1, b2, by rw [b3]; exact hin, ?_⟩⟩
  rw [g2, nI_1' w1]
  refine ⟨fun y1 => ⟨m + 23, p1, p2, by rw [p3]; exact hin, m + 24, q1, q2, ?_⟩, fun y1 => none_ (by unfold ok_waits; rw [decide_eq_false y1, Bool.and_false])⟩
  have z1 : ok_waits A k = true := by unfold ok_waits; rw [decide_eq_true (by omega), decide_eq_true y1]; rfl
  rw [(an_fig_t ok (by rw [← ek]; exact z1)).1, (an_fig_t ok (by rw [← ek]; exact z1)).2, ← ek] at h
  obtain ⟨v, ev⟩ : ∃ v, v = f.toInt.toNat := ⟨_, rfl⟩
  rw [← ev] at h
  have hv : v < 10 := by omega
  have efv : f = nI v := by rw [ev]; exact (nI_toNat (by omega)).symm
  obtain ⟨o1, o2, o3, o4, o5, o6⟩ := ow_t hA hk z1
  have e16 : (16 : Int32) * nI k + nI (A.1 33 k) = nI (16 * k + A.1 33 k) := by rw [show (16 : Int32) = nI 16 from rfl, pk_mul, nI_add]
  rw [g5, e16, nI_cl (n := 16 * k + A.1 33 k) (by omega)]
  refine ⟨by rw [q3]; exact nI_in2 (by omega) (by decide), fun M27 E27 => ⟨m + 23, by rw [E27]; exact p1, by rw [E27]; exact p2, ?_, ?_, fun M33 E33 => ?_⟩⟩
  · rw [E27]; show vp_in _ (ddN M _); rw [p3]; exact hin
  · rw [E27]; show vp_in _ (ddN M _); rw [p3]; exact hin
  have k27 : ddI M27 (m + 23) k = nI (A.1 33 k) := by rw [E27, gI_I, if_neg (by omega)]; exact g5
  rw [k27, nI_1] at E33
  have u33 : Un (fun b _ => b = m + 23 ∨ b = m + 24) M M33 := by rw [E33, E27]; exact (Un.sI.tr Un.sI).wk (fun b j _ y => by omega)
  have hz33 : m + 33 ≤ ddZ M33 := Nat.le_trans hz u33.1
  obtain ⟨A1, eA1⟩ : ∃ A1, A1 = cgA A k (A.1 33 k + 1) (A.1 34 k * 10 + v) := ⟨_, rfl⟩
  have hM33 : MS m M33 A1 := by
    refine MS_C hM hz u33 (fun b j y => Or.inr (by omega)) (fun i hi => ?_) (fun e he => by rw [eA1]; exact cg_1c (by omega) (by omega)) (fun e he => by rw [eA1]; rfl) (by rw [eA1]; rfl)
    obtain ⟨t1, t2, t3, t4, t5, t6⟩ := hM.2.2.2.1 i hi
    have wi := (hA.2.2.1 i hi).2.2.2.1
    rw [u33.I (b := m + 27) (by omega) (by omega), u33.I (b := m + 26) (by omega) (by omega), u33.I (b := m + 22) (by omega) (by omega), u33.I (b := m + 25) (by omega) (by omega), eA1]
    by_cases hik : i = k
    · subst hik
      rw [cg_1c (e := 30) (by omega) (by omega), cg_1c (e := 31) (by omega) (by omega), cg_1c (e := 32) (by omega) (by omega), cg_33, cg_34]
      refine ⟨t1, t2, t3, t4, by rw [E33, gI_I, if_pos ⟨rfl, rfl⟩], fun j hj => ?_⟩
      rw [E33, gI_I, if_neg (by omega), E27, gI_I, dg_snoc hv hj]
      by_cases hjc : j < A.1 33 i
      · rw [if_neg (by omega), if_pos hjc]; exact t6 j hjc
      · rw [if_pos ⟨rfl, by omega⟩, if_neg hjc]; exact efv
    · rw [cg_1n hik, cg_1n hik, cg_1n hik, cg_1n hik, cg_1n hik]
      refine ⟨t1, t2, t3, t4, by rw [E33, gI_I, if_neg (fun y => hik y.2), E27, gI_I, if_neg (by omega)]; exact t5, fun j hj => ?_⟩
      rw [E33, gI_I, if_neg (by omega), E27, gI_I, if_neg (by omega)]
      exact t6 j hj
  have e33 : A1.1 33 k = A.1 33 k + 1 := by rw [eA1]; exact cg_33
  have e34 : A1.1 34 k = A.1 34 k * 10 + v := by rw [eA1]; exact cg_34
  have e32 : A1.1 32 k = A.1 32 k := by rw [eA1, cg_1c (by omega) (by omega)]
  refine sp_takeCall hM33 hz33 hk (by rw [e33]; omega) (fun M35 u35 hH => ?_)
  rw [e33, e34] at hH
  have s35 := MS_H hM33 hz33 u35
  have hz35 : m + 33 ≤ ddZ M35 := Nat.le_trans hz33 u35.1
  have E35 : ME m M35 A := ME_cg s35.2.2.2.2.1 (by rw [eA1]; rfl) (fun e he => by rw [eA1]; exact (cg_1c (by omega) (by omega)).symm) (fun e he => by rw [eA1]; rfl)
  obtain ⟨c1, c2, c3⟩ := s35.1.f25
  obtain ⟨d1, d2, d3⟩ := s35.1.f28
  obtain ⟨r1, r2, r3⟩ := s35.1.f29
  obtain ⟨y1, y2, y3, y4, y5, y6⟩ := s35.2.2.2.1 k hk
  refine ⟨s35.1.1, m + 22, c1, c2, by rw [c3]; exact hin, ?_⟩
  rw [y3, e32]
  have han : fgn A k v ≤ 3 := ans_lt _ _ _ _
  refine sp_answer s35.1 E35 hH (by omega) ⟨m + 25, d1, d2, by rw [d3]; exact hin, fun M47 E47 => ?_⟩
  have ea : ans_ A (A.1 34 k * 10 + v) (A.1 33 k + 1) (nI (A.1 32 k)) = fgn A k v := rfl
  rw [ea] at E47
  obtain ⟨an, ean⟩ : ∃ an, an = fgn A k v := ⟨_, rfl⟩
  have nA : nf_A A k v = fgA A k (A.1 33 k + 1) (A.1 34 k * 10 + v) an := by unfold nf_A; rw [ean]
  rw [nA, ← ean] at h
  rw [← ean] at E47 han
  have r47 : ddI M47 (m + 25) k = nI an := by rw [E47, gI_I, if_pos ⟨rfl, rfl⟩]
  have done : ∀ (ov : Nat) (M58 : Mm), M58 = suI M47 (m + 26) k (nI ov) → ov = an % 2 → ∃ aq59 : Nat, (ddR M58 m 28) = some aq59 ∧ (ddT M58 aq59 = 20 ∧ (vp_in (nI k) (ddN M58 aq59) ∧ (post (ddI M58 aq59 k) M58))) := fun ov M58 E58 eov => by
    refine ⟨m + 25, by rw [E58, E47]; exact d1, by rw [E58, E47]; exact d2, ?_, ?_⟩
    · rw [E58, E47]; show vp_in _ (ddN M35 _); rw [d3]; exact hin
    · have r58 : ddI M58 (m + 25) k = nI an := by rw [E58, gI_I, if_neg (by omega)]; exact r47
      rw [r58]
      have u58 : Un (fun b j => (b = m + 25 ∨ b = m + 26) ∧ j = k) M35 M58 := by rw [E58, E47]; exact (Un.sI.tr Un.sI).wk (fun b j _ y => by omega)
      refine h M58 (MS_C s35 hz35 u58 (fun b j y => Or.inr (by omega)) (fun i hi => ?_) (fun e he => by rw [eA1]; exact fg_1c (by omega)) (fun e he => by rw [eA1]; exact fg_2c he) (by rw [eA1]; rfl)) (((u33.tr u35).tr u58).wk (fun b j _ y => by unfold MH at y; omega))
      obtain ⟨t1, t2, t3, t4, t5, t6⟩ := s35.2.2.2.1 i hi
      rw [eA1] at t1 t2 t3 t4 t5 t6
      rw [fg_1c (e := 30) (by omega), fg_1c (e := 32) (by omega), fg_1c (e := 33) (by omega), fg_1c (e := 34) (by omega), u58.I (b := m + 27) (by omega) (by omega), u58.I (b := m + 22) (by omega) (by omega), u58.I (b := m + 23) (by omega) (by omega)]
      refine ⟨t1, ?_, t3, ?_, t5, fun j hj => by rw [u58.I (b := m + 24) (by omega) (by omega)]; exact t6 j hj⟩
      · by_cases hik : i = k
        · subst hik
          rw [fg_1, if_pos ⟨rfl, rfl⟩, E58, gI_I, if_pos ⟨rfl, rfl⟩, eov]
        · rw [fg_1, if_neg (fun y => hik y.2), u58.I (by omega) (fun y => hik y.2)]; exact t2
      · by_cases hik : i = k
        · subst hik
          rw [fg_2, if_pos ⟨rfl, rfl⟩]; exact r58
        · rw [fg_2, if_neg (fun y => hik y.2), u58.I (by omega) (fun y => hik y.2)]; exact t4
  refine ⟨by rw [E47]; exact s35.1.1, m + 25, by rw [E47]; exact d1, by rw [E47]; exact d2, ?_, ?_⟩
  · rw [E47]; show vp_in _ (ddN M35 _); rw [d3]; exact hin
  · rw [r47]
    have r1' : ddR M47 m 29 = some (m + 26) := by rw [E47]; exact r1
    have r2' : ddT M47 (m + 26) = 22 := by rw [E47]; exact r2
    have r3' : vp_in (nI k) (ddN M47 (m + 26)) := by rw [E47]; show vp_in _ (ddN M35 _); rw [r3]; exact hin
    have odd : (nI an &&& 1) = 1 ↔ an % 2 = 1 := by
      rcases (by omega : an = 0 ∨ an = 1 ∨ an = 2 ∨ an = 3) with e | e | e | e <;> (rw [e]; decide)
    rw [odd]
    exact ⟨fun y => ⟨m + 26, r1', r2', r3', fun M58 E58 => done 0 M58 E58 (by omega)⟩, fun y => ⟨m + 26, r1', r2', r3', fun M58 E58 => done 1 M58 E58 (by omega)⟩⟩
theorem wa_figure {A : Ab} {x f : Int32} (hA : WA A) (hGW : ∀ e, e < A.2.2 0 → GW A.1 e) : WA (nx_figure A x f) := by
  unfold nx_figure
  split
  · next hc =>
    rw [Bool.and_eq_true] at hc
    have hc1 := hc.1
    unfold ok_fig at hc1
    rw [Bool.and_eq_true] at hc1
    have zx := wi_t.mp hc1.1
    have zf := wi_t.mp hc1.2
    obtain ⟨k, ek⟩ : ∃ k, k = x.toInt.toNat := ⟨_, rfl⟩
    obtain ⟨v, ev⟩ : ∃ v, v = f.toInt.toNat := ⟨_, rfl⟩
    rw [← ek, ← ev]
    have hk : k < 4 := by omega
    have hv : v < 10 := by omega
    obtain ⟨o1, o2, o3, o4, o5, o6⟩ := ow_t hA hk (by rw [ek]; exact hc.2)
    have hF := snoc_F hv ⟨o3, o4⟩
    have han : fgn A k v ≤ 3 := ans_lt _ _ _ _
    obtain ⟨w1, w2, w3, w4, w5, w6, w7, w8⟩ := hA
    have c1 : ∀ e, e < 30 ∨ 35 ≤ e → (nf_A A k v).1 e = A.1 e := fun e he => by unfold nf_A; rw [fg_1c (by omega), cg_1c (by omega) (by omega)]
    have c2 : ∀ e, e ≠ 30 → (nf_A A k v).2.1 e = A.2.1 e := fun e he => fg_2c he
    have c3 : (nf_A A k v).2.2 = A.2.2 := rfl
    refine ⟨w1, ?_, fun i hi => ?_, ?_, ?_, ?_, ?_, ?_⟩
    · rw [c1 40 (by omega), c1 41 (by omega)]; exact w2
    · obtain ⟨y1, y2, y3, y4, y5, y6, y7⟩ := w3 i hi
      unfold nf_A
      rw [fg_1c (e := 30) (by omega), fg_1c (e := 32) (by omega), fg_1c (e := 33) (by omega), fg_1c (e := 34) (by omega), fg_1, cg_1c (e := 30) (by omega) (by omega), cg_1c (e := 31) (by omega) (by omega), cg_1c (e := 32) (by omega) (by omega)]
      by_cases hik : i = k
      · subst hik
        rw [cg_33, cg_34, if_pos ⟨rfl, rfl⟩]
        refine ⟨y1, by omega, y3, by omega, fun _ => hF, fun z => ?_, fun z => by omega⟩
        have nog : ex_ (isG A (A.1 34 i * 10 + v) (A.1 33 i + 1) (nI (A.1 32 i))) (A.2.2 0) = false := by
          have : ∀ n, n ≤ A.2.2 0 → ex_ (isG A (A.1 34 i * 10 + v) (A.1 33 i + 1) (nI (A.1 32 i))) n = false := by
            intro n
            induction n with
            | zero => intro _; rfl
            | succ n ih =>
              intro hn
              show (ex_ _ n || _) = false
              rw [ih (by omega), Bool.false_or]
              have g5 := (hGW n (by omega)).2.2.2.2.2.2.1
              unfold isG goB
              rw [decide_eq_false (by omega), Bool.false_and, Bool.and_false]
          exact this _ (Nat.le_refl _)
        unfold fgn ans_
        rw [nog]
        split <;> rfl
      · rw [cg_1n hik, cg_1n hik, if_neg (fun y => hik y.2)]
        exact ⟨y1, y2, y3, y4, y5, y6, y7⟩
    · rw [c3, c1 0 (by omega), c1 6 (by omega), c1 3 (by omega), c1 4 (by omega), c1 2 (by omega), c2 0 (by omega), c2 1 (by omega), c2 3 (by omega), c2 4 (by omega), c2 5 (by omega), c2 6 (by omega)]; exact w4
    · rw [c3, c1 0 (by omega), c1 6 (by omega), c1 3 (by omega), c1 4 (by omega), c1 2 (by omega), c1 10 (by omega), c1 11 (by omega), c1 12 (by omega), c2 10 (by omega)]; exact w5
    · rw [c3, c1 20 (by omega), c1 21 (by omega), c1 22 (by omega)]; exact w6
    · rw [c3, c1 21 (by omega)]; exact w7
    · rw [c3, c1 50 (by omega), c2 0 (by omega), c2 1 (by omega)]; exact w8
  · exact hA
