/-! a change of a block: the desk -/
def mcB (c : Nat) : Bool := decide (c = 1) || (decide (c = 3) || (decide (c = 4) || (decide (c = 5) || decide (c = 6))))
theorem mcB_t {c : Nat} : mcB c = true ↔ (c = 1 ∨ c = 3 ∨ c = 4 ∨ c = 5 ∨ c = 6) := by
  unfold mcB
  simp only [Bool.or_eq_true, decide_eq_true_eq]
def md_ (B : Ab) (e : Nat) (f : Nat → Int32) : Ab := (B.1, fun c j => if j = e ∧ mcB c = true then f c else B.2.1 c j, B.2.2)
section MDL
variable {B : Ab} {e : Nat} {f : Nat → Int32}
theorem md_1 : (md_ B e f).1 = B.1 := rfl
theorem md_3 : (md_ B e f).2.2 = B.2.2 := rfl
theorem md_2 {c j : Nat} : (md_ B e f).2.1 c j = if j = e ∧ mcB c = true then f c else B.2.1 c j := rfl
theorem md_2n {c j : Nat} (h : j ≠ e) : (md_ B e f).2.1 c j = B.2.1 c j := by rw [md_2, if_neg (fun z => h z.1)]
theorem md_2c {c : Nat} (h : mcB c = false) : (md_ B e f).2.1 c = B.2.1 c := by funext j; rw [md_2, if_neg (fun z => by rw [h] at z; exact absurd z.2 (by decide))]
theorem md_2e {c : Nat} (h : mcB c = true) : (md_ B e f).2.1 c e = f c := by rw [md_2, if_pos ⟨rfl, h⟩]
theorem md_id : md_ B e (fun c => B.2.1 c e) = B := by
  refine Prod.ext rfl (Prod.ext ?_ rfl)
  funext c j
  show (if j = e ∧ mcB c = true then B.2.1 c e else B.2.1 c j) = B.2.1 c j
  split
  · next h => rw [h.1]
  · rfl
theorem md_uH {c : Nat} {v : Int32} (hc : mcB c = true) : uH_ (md_ B e f) c e v = md_ B e (fun c' => if c' = c then v else f c') := by
  refine Prod.ext rfl (Prod.ext ?_ rfl)
  funext c' j
  show (if c' = c ∧ j = e then v else if j = e ∧ mcB c' = true then f c' else B.2.1 c' j) = if j = e ∧ mcB c' = true then (if c' = c then v else f c') else B.2.1 c' j
  by_cases h1 : j = e
  · by_cases h2 : c' = c
    · rw [if_pos ⟨h2, h1⟩, if_pos ⟨h1, by rw [h2]; exact hc⟩, if_pos h2]
    · rw [if_neg (fun z => h2 z.1), if_neg h2]
  · rw [if_neg (fun z => h1 z.2), if_neg (fun z => h1 z.1), if_neg (fun z => h1 z.1)]
theorem md_add {w : Nat → Nat} {ar en of' : Int32} (he : e ≠ B.2.2 0) : add_ (md_ B e f) w ar en of' = md_ (add_ B w ar en of') e f := by
  refine Prod.ext rfl (Prod.ext ?_ rfl)
  funext c j
  rw [ad_2, md_2, md_2, ad_2, md_3]
  by_cases h1 : j = e
  · have h2 : ¬ j = B.2.2 0 := fun z => he (h1.symm.trans z)
    simp only [h2, and_false, false_and, if_false]
  · simp only [h1, false_and, if_false]
end MDL
theorem DEx_md {a : Nat} {M : Mm} {B : Ab} {e : Nat} {f : Nat → Int32} (h : DEx a M B e) : DEx a M (md_ B e f) e := by
  obtain ⟨d1, d2, d3⟩ := h
  refine ⟨d1, d2, fun j hj => ?_⟩
  obtain ⟨p, p1, p2, p3, p4, e1, e9, e11, e15, ek, eh⟩ := d3 j hj
  refine ⟨p, p1, p2, p3, p4, ?_, e9, ?_, ?_, ek, fun hx => ?_⟩
  · rw [md_2c (c := 0) (by decide)]; exact e1
  · rw [md_2c (c := 2) (by decide)]; exact e11
  · rw [md_2c (c := 0) (by decide)]; exact e15
  · rw [md_2n hx, md_2n hx, md_2n hx, md_2n hx]; exact eh hx
theorem DE_fin {a : Nat} {M : Mm} {A : Ab} {e q : Nat} (h : DEx a M A e) (hq : ddR M (a + 2) e = some q) (h1 : ddI M q 10 = A.2.1 1 e) (h2 : ddI M q 12 = A.2.1 3 e) (h3 : ddR M q 13 = pt_ a M (A.2.1 6 e)) (h4 : ddR M q 14 = pt_ a M (A.2.1 4 e)) : DE a M A := by
  obtain ⟨d1, d2, d3⟩ := h
  refine ⟨d1, d2, fun j hj => ?_⟩
  obtain ⟨p, p1, p2, p3, p4, e1, e9, e11, e15, ek, eh⟩ := d3 j hj
  by_cases hje : j = e
  · subst hje
    rw [hq] at p1
    cases p1
    exact ⟨q, hq, p2, p3, p4, e1, e9, h1, e11, h2, h3, h4, e15, ek⟩
  · obtain ⟨e10, e12, e13, e14⟩ := eh hje
    exact ⟨p, p1, p2, p3, p4, e1, e9, e10, e11, e12, e13, e14, e15, ek⟩
theorem DEx_keep {P : Nat → Nat → Prop} {a : Nat} {M M' : Mm} {A : Ab} {e : Nat} (h : DEx a M A e) (hz : a + 65 ≤ ddZ M) (he : e < A.2.2 0) (u : Un P M M') (hP : ∀ b k, P b k → nw_ a M b ∧ ddT M b = 3 ∧ ((ddR M (a + 2) e = some b ∧ (k = 10 ∨ k = 12 ∨ k = 13 ∨ k = 14)) ∨ ddI M b 9 = -1)) : DEx a M' A e := by
  obtain ⟨d1, d2, d3⟩ := h
  have lo : ∀ b k, b < a + 65 → ¬ P b k := fun b k hb z => by have := (hP b k z).1.1; omega
  have f20 : ∀ f k, ddT M f = 20 → ¬ P f k := fun f k hf z => by
    have := (hP f k z).2.1
    rw [hf] at this
    cases this
  refine ⟨d1, by rw [u.I (by omega) (lo _ _ (by omega))]; exact d2, fun j hj => ?_⟩
  obtain ⟨p, p1, p2, p3, p4, e1, e9, e11, e15, ek, eh⟩ := d3 j hj
  have np : ∀ k, P p k → j = e ∧ (k = 10 ∨ k = 12 ∨ k = 13 ∨ k = 14) := fun k z => by
    obtain ⟨-, -, z | z⟩ := hP p k z
    · obtain ⟨p', q1, -, -, -, -, q9, -⟩ := d3 e he
      rw [z.1] at q1
      cases q1
      exact ⟨nI_inj (by omega) (by omega) (e9.symm.trans q9), z.2⟩
    · rw [e9] at z
      exact absurd z (nI_m1 (by omega))
  have no : ∀ k, k ≠ 10 → k ≠ 12 → k ≠ 13 → k ≠ 14 → ¬ P p k := fun k h1 h2 h3 h4 z => by have := (np k z).2; omega
  refine ⟨p, by rw [u.R (by omega) (lo _ _ (by omega))]; exact p1, nw_keep p2 u, fx_keep p3 p2 u (no 8 (by omega) (by omega) (by omega) (by omega)), EO_keep p4 p2 p3 u (fun k hk => no k (by omega) (by omega) (by omega) (by omega)) (fun f k hf => ?_), ?_, ?_, ?_, ?_, fun i hi => ?_, fun hx => ?_⟩
  · obtain ⟨-, -, -, -, -, -, -, -, -, f', f1, f2, -⟩ := p4
    rw [f1] at hf
    cases hf
    exact f20 _ k f2
  · rw [u.I p2.2 (no 1 (by omega) (by omega) (by omega) (by omega))]; exact e1
  · rw [u.I p2.2 (no 9 (by omega) (by omega) (by omega) (by omega))]; exact e9
  · rw [u.I p2.2 (no 11 (by omega) (by omega) (by omega) (by omega))]; exact e11
  · rw [u.R p2.2 (no 15 (by omega) (by omega) (by omega) (by omega)), pt_keep hz u (fun i => lo _ _ (by omega))]; exact e15
  · rw [u.L p2.2 (no 16 (by omega) (by omega) (by omega) (by omega)), u.L p2.2 (no 17 (by omega) (by omega) (by omega) (by omega))]; exact ek i hi
  · obtain ⟨e10, e12, e13, e14⟩ := eh hx
    have no2 : ∀ k, ¬ P p k := fun k z => hx (np k z).1
    exact ⟨by rw [u.I p2.2 (no2 10)]; exact e10, by rw [u.I p2.2 (no2 12)]; exact e12, by rw [u.R p2.2 (no2 13), pt_keep hz u (fun i => lo _ _ (by omega))]; exact e13, by rw [u.R p2.2 (no2 14), pt_keep hz u (fun i => lo _ _ (by omega))]; exact e14⟩
/-- on the way of a change -/
def QP (a : Nat) (M0 : Mm) (n b k : Nat) : Prop := (b = a + 2 ∧ n ≤ k) ∨ (b = a + 1 ∧ k = 1) ∨ (9 < k ∧ ∃ j, j < n ∧ ddR M0 (a + 2) j = some b)
def CS (a : Nat) (M0 : Mm) (n e q : Nat) (en : Int32) (ro : Option Nat) (M : Mm) (A : Ab) : Prop := DW a M ∧ DEx a M A e ∧ ptk A (A.2.2 0) ∧ Un (QP a M0 n) M0 M ∧ n ≤ A.2.2 0 ∧ (∀ j b, n ≤ j → j < A.2.2 0 → ddR M (a + 2) j = some b → ddZ M0 ≤ b) ∧ ddR M (a + 2) e = some q ∧ ddI M q 10 = en ∧ ddR M q 14 = ro
/-- a new entry's object, not in the plan -/
def NO (a : Nat) (M0 M : Mm) (r : Nat) (v : Nat → Nat) (ar : Int32) : Prop := ddZ M0 ≤ r ∧ nw_ a M r ∧ fx_ a M r ∧ EO M r (fun c _ => v c) 0 ∧ ddI M r 1 = ar ∧ ddI M r 9 = -1 ∧ ddI M r 12 = -1 ∧ ddR M r 13 = none ∧ ddR M r 14 = none ∧ ddL M r 16 = 0 ∧ ddL M r 17 = 0
theorem NO_keep {P : Nat → Nat → Prop} {a : Nat} {M0 M M' : Mm} {r : Nat} {v : Nat → Nat} {ar : Int32} (h : NO a M0 M r v ar) (u : Un P M M') (h1 : ∀ k, k ≠ 10 → k ≠ 11 → k ≠ 15 → ¬ P r k) (h2 : ∀ f k, nw_ a M f → ddT M f = 20 → ¬ P f k) : NO a M0 M' r v ar := by
  obtain ⟨o0, o1, o2, o3, o4, o5, o6, o7, o8, o9, o10⟩ := h
  refine ⟨o0, nw_keep o1 u, fx_keep o2 o1 u (h1 8 (by omega) (by omega) (by omega)), EO_keep o3 o1 o2 u (fun k hk => h1 k (by omega) (by omega) (by omega)) (fun f k hf => ?_), ?_, ?_, ?_, ?_, ?_, ?_, ?_⟩
  · obtain ⟨-, -, -, -, -, -, -, -, -, f', f1, f2, -⟩ := o3
    have hn := o2 f hf
    rw [f1] at hf
    cases hf
    exact h2 _ k hn f2
  · rw [u.I o1.2 (h1 1 (by omega) (by omega) (by omega))]; exact o4
  · rw [u.I o1.2 (h1 9 (by omega) (by omega) (by omega))]; exact o5
  · rw [u.I o1.2 (h1 12 (by omega) (by omega) (by omega))]; exact o6
  · rw [u.R o1.2 (h1 13 (by omega) (by omega) (by omega))]; exact o7
  · rw [u.R o1.2 (h1 14 (by omega) (by omega) (by omega))]; exact o8
  · rw [u.L o1.2 (h1 16 (by omega) (by omega) (by omega))]; exact o9
  · rw [u.L o1.2 (h1 17 (by omega) (by omega) (by omega))]; exact o10
theorem CS_q {a : Nat} {M0 : Mm} {n e q : Nat} {en : Int32} {ro : Option Nat} {M : Mm} {A : Ab} (h : CS a M0 n e q en ro M A) (he : e < A.2.2 0) : nw_ a M q ∧ ddT M q = 3 ∧ ddI M q 9 = nI e ∧ EO M q A.1 e ∧ ddI M q 1 = A.2.1 0 e := by
  obtain ⟨c1, c2, c3, c4, c5, c6, c7, c8, c9⟩ := h
  obtain ⟨p, p1, p2, p3, p4, e1, e9, -⟩ := c2.2.2 e he
  rw [c7] at p1
  cases p1
  exact ⟨p2, p4.1, e9, p4, e1⟩
/-- objects that are not in the plan change, or the block's own later field -/
theorem CS_keep {P : Nat → Nat → Prop} {a : Nat} {M0 : Mm} {n e q : Nat} {en : Int32} {ro ro' : Option Nat} {M M' : Mm} {A : Ab} (h : CS a M0 n e q en ro M A) (he : e < n) (hz0 : a + 65 ≤ ddZ M0) (hq0 : ddR M0 (a + 2) e = some q) (u : Un P M M') (hP : ∀ b k, P b k → nw_ a M b ∧ ddT M b = 3 ∧ ((b = q ∧ k = 14) ∨ (ddI M b 9 = -1 ∧ ddZ M0 ≤ b))) (hro : ddR M' q 14 = ro') : CS a M0 n e q en ro' M' A := by
  have hen : e < A.2.2 0 := by have := h.2.2.2.2.1; omega
  obtain ⟨q1, q2, q3, -⟩ := CS_q h hen
  obtain ⟨c1, c2, c3, c4, c5, c6, c7, c8, c9⟩ := h
  have hz := c1.2.2.2.2
  have lo : ∀ b k, b < a + 65 → ¬ P b k := fun b k hb z => by have := (hP b k z).1.1; omega
  have b2 : ∀ q ∈ dw_R, q.1 < 32 := by decide
  refine ⟨DW_keep c1 u (fun p hp => lo _ _ (by have := b2 p hp; omega)) (fun j hj => lo _ _ (by omega)), DEx_keep c2 hz hen u (fun b k z => ?_), c3, (c4.tr u).wk (fun b k hb z => ?_), c5, fun j b h1 h2 h3 => ?_, ?_, ?_, hro⟩
  · obtain ⟨z1, z2, z3 | z3⟩ := hP b k z
    · exact ⟨z1, z2, Or.inl ⟨by rw [z3.1]; exact c7, by omega⟩⟩
    · exact ⟨z1, z2, Or.inr z3.1⟩
  · rcases z with z | z
    · exact z
    · obtain ⟨z1, z2, z3 | z3⟩ := hP b k z
      · exact Or.inr (Or.inr ⟨by omega, e, he, by rw [z3.1]; exact hq0⟩)
      · omega
  · rw [u.R (by omega) (lo _ _ (by omega))] at h3
    exact c6 j b h1 h2 h3
  · rw [u.R (by omega) (lo _ _ (by omega))]; exact c7
  · rw [u.I q1.2 (fun z => ?_)]
    · exact c8
    · obtain ⟨-, -, z3 | z3⟩ := hP q 10 z
      · omega
      · rw [q3] at z3
        exact absurd z3.1 (nI_m1 (by have := c2.1; omega))
theorem CS_new {a : Nat} {M0 : Mm} {n e q : Nat} {en : Int32} {ro : Option Nat} {M M1 : Mm} {A : Ab} {v : Nat → Nat} {ar : Int32} (h : CS a M0 n e q en ro M A) (he : e < n) (hz0 : a + 65 ≤ ddZ M0) (hq0 : ddR M0 (a + 2) e = some q) (hN : NE M M1 (fun c _ => v c) 0 ar) : CS a M0 n e q en ro M1 A ∧ NO a M0 M1 (ddZ M) v ar ∧ ddI M1 (ddZ M) 10 = -1 ∧ ddI M1 (ddZ M) 11 = -1 ∧ ddR M1 (ddZ M) 15 = none := by
  obtain ⟨u, uz, hO, f8, f1, f9, f10, f11, f12, fk⟩ := hN
  have hen : e < A.2.2 0 := by have := h.2.2.2.2.1; omega
  have hz := h.1.2.2.2.2
  have z4 := h.2.2.2.1.1
  obtain ⟨q1, -⟩ := CS_q h hen
  refine ⟨CS_keep h he hz0 hq0 u (fun b k z => z.elim) (by rw [u.R q1.2 (fun z => z)]; exact h.2.2.2.2.2.2.2.2), ⟨z4, ⟨by omega, by omega⟩, fun f hf => ?_, hO, f1, f9, f12, (fk 13 (by omega)).1, (fk 14 (by omega)).1, (fk 16 (by omega)).2, (fk 17 (by omega)).2⟩, f10, f11, (fk 15 (by omega)).1⟩
  rw [f8] at hf
  cases hf
  exact ⟨by omega, by omega⟩
/-- what an append changes -/
def PA (a : Nat) (M : Mm) (r n b k : Nat) : Prop := (b = a + 2 ∧ k = n) ∨ (b = a + 1 ∧ k = 1) ∨ (b = r ∧ (k = 9 ∨ k = 10 ∨ k = 11)) ∨ ((k = 16 ∨ k = 17) ∧ ∃ j, j < n ∧ ddR M (a + 2) j = some b)
theorem CS_app {a : Nat} {M0 : Mm} {n e q : Nat} {en : Int32} {ro : Option Nat} {M : Mm} {A : Ab} {r : Nat} {v : Nat → Nat} {ar en2 : Int32} {post : Mm → Prop} (h : CS a M0 n e q en ro M A) (he : e < n) (hz0 : a + 65 ≤ ddZ M0) (hq0 : ddR M0 (a + 2) e = some q) (hD0 : ∀ j b, j < n → ddR M0 (a + 2) j = some b → a + 65 ≤ b) (hn : A.2.2 0 < 120) (hO : NO a M0 M r v ar) (h15 : ddR M r 15 = if v 0 = 3 then pt_ a M ar else none) (hv : v 0 = 3 → ar = -1 ∨ ∃ o, ar = nI o ∧ o < A.2.2 0)
    (hk : ∀ M1, CS a M0 n e q en ro M1 (add_ A v ar en2 (nI e)) → ddR M1 (a + 2) (A.2.2 0) = some r → ddI M1 r 9 = nI (A.2.2 0) → Un (PA a M r (A.2.2 0)) M M1 → post M1) : PX6_appendFrom (a + 1) (some q) (some r) en2 M post := by
  have hen : e < A.2.2 0 := by have := h.2.2.2.2.1; omega
  have hc2 := h.2.1
  obtain ⟨q1, q2, q3, q4, q5⟩ := CS_q h hen
  obtain ⟨o0, o1, o2, o3, o4, o5, o6, o7, o8, o9, o10⟩ := id hO
  have r65 := o1.1
  have q65 := q1.1
  have hqr : q ≠ r := fun z => by
    rw [z, o5] at q3
    exact nI_m1 (n := e) (by omega) q3.symm
  refine ⟨q, rfl, q2, r, rfl, o3.1, fun M7 E7 M8 E8 => ?_⟩
  rw [q3] at E7
  have u8 : Un (fun b k => b = r ∧ (k = 10 ∨ k = 11)) M M8 := by rw [E8, E7]; exact (Un.sI.tr Un.sI).wk (fun b k _ z => by omega)
  have z8 : ddZ M8 = ddZ M := by rw [E8, E7]; rfl
  have h8 := CS_keep (ro' := ro) h he hz0 hq0 u8 (fun b k z => by rw [z.1]; exact ⟨o1, o3.1, Or.inr ⟨o5, o0⟩⟩) (by rw [u8.R q1.2 (fun z => hqr z.1)]; exact h.2.2.2.2.2.2.2.2)
  have hO8 := NO_keep hO u8 (fun k h1 h2 h3 z => by omega) (fun f k hf ht z => by rw [z.1, o3.1] at ht; cases ht)
  have i10 : ddI M8 r 10 = en2 := by rw [E8, gI_I, if_pos ⟨rfl, rfl⟩]
  have i11 : ddI M8 r 11 = nI e := by rw [E8, gI_I, if_neg (by omega), E7, gI_I, if_pos ⟨rfl, rfl⟩]
  have r15 : ddR M8 r 15 = if v 0 = 3 then pt_ a M8 ar else none := by
    rw [u8.R o1.2 (by omega), h15, pt_keep (by have := h.1.2.2.2.2; omega) u8 (fun i z => by omega)]
  obtain ⟨c1, c2, c3, c4, c5, c6, c7, c8, c9⟩ := id h8
  obtain ⟨p0, p1, p2, p3, p4, p5, p6, p7, p8, p9, p10⟩ := id hO8
  have hz8 := c1.2.2.2.2
  have hOG : EO M8 r (add_ A v ar en2 (nI e)).1 (A.2.2 0) := EO_tr (fun c hc => ad_1s hc) p3
  refine ⟨DW_T c1 (by decide), se_append (G := (add_ A v ar en2 (nI e)).1) c1 c2.1 c2.2.1 (WE_of c2) p1 p2 (fun _ => hOG) p5 (fun z => by omega) (fun M1 _ hA => ?_)⟩
  have hX := DE_add hz8 c2 c3 hn p1 p2 hOG ⟨p4, p5, i10, i11, p6, p7, p8, r15, p9, p10⟩ hv hA
  obtain ⟨w, wz, wr, ws, wi, wk⟩ := id hA
  have b2 : ∀ q ∈ dw_R, q.1 < 32 ∧ ¬ (q.1 = 2) ∧ ¬ (q.1 = 1 ∧ q.2.1 = 1) := by decide
  have ent : ∀ b, (∃ j, j < A.2.2 0 ∧ ddR M8 (a + 2) j = some b) → nw_ a M8 b ∧ ddT M8 b = 3 := fun b ⟨j, hj, hb⟩ => by
    obtain ⟨p, y1, y2, y3, y4, -⟩ := c2.2.2 j hj
    rw [hb] at y1
    cases y1
    exact ⟨y2, y4.1⟩
  have W1 : DW a M1 := by
    refine DW_keep c1 w (fun p hp z => ?_) (fun j hj z => ?_)
    · obtain ⟨g1, g2, g3⟩ := b2 p hp
      rcases z with z | z | z | ⟨-, z⟩
      · omega
      · omega
      · omega
      · have := (ent _ z).1.1; omega
    · rcases z with z | z | z | ⟨-, z⟩
      · omega
      · omega
      · omega
      · have := (ent _ z).1.1; omega
  have P1 : ptk (add_ A v ar en2 (nI e)) ((add_ A v ar en2 (nI e)).2.2 0) := by
    intro j hj
    rw [ad_3] at hj ⊢
    by_cases hjn : j = A.2.2 0
    · subst hjn
      refine ⟨fun c hc => ?_, fun h0 => ?_⟩
      · rw [ad_2, if_neg (by omega), if_pos ⟨rfl, by omega⟩, if_neg (by omega), if_neg (by omega), if_neg (by omega)]
        exact Or.inl rfl
      · rw [ad_1s (by omega)] at h0
        rw [ad_2, if_neg (by omega), if_pos ⟨rfl, by omega⟩, if_pos rfl]
        rcases hv h0 with y | ⟨o, y1, y2⟩
        · exact Or.inl y
        · exact Or.inr ⟨o, y1, by omega⟩
    · obtain ⟨y1, y2⟩ := c3 j (by omega)
      refine ⟨fun c hc => ?_, fun h0 => ?_⟩
      · rw [ad_2n hjn]
        rcases y1 c hc with y | ⟨o, y3, y4⟩
        · exact Or.inl y
        · exact Or.inr ⟨o, y3, by omega⟩
      · rw [ad_1n hjn] at h0
        rw [ad_2n hjn]
        rcases y2 h0 with y | ⟨o, y3, y4⟩
        · exact Or.inl y
        · exact Or.inr ⟨o, y3, by omega⟩
  have keepR : ∀ j, j ≠ A.2.2 0 → ddR M1 (a + 2) j = ddR M8 (a + 2) j := fun j hj => w.R (by omega) (fun z => by
    rcases z with z | z | z | ⟨-, z⟩
    · omega
    · omega
    · omega
    · have := (ent _ z).1.1; omega)
  have R82 : ∀ j, ddR M8 (a + 2) j = ddR M (a + 2) j := fun j => u8.R (by have := h.1.2.2.2.2; omega) (fun z => by omega)
  have notq : ∀ k, k ≠ 16 → k ≠ 17 → ¬ ((q = a + 2 ∧ k = A.2.2 0) ∨ (q = a + 1 ∧ k = 1) ∨ (q = r ∧ k = 9) ∨ ((k = 16 ∨ k = 17) ∧ ∃ e, e < A.2.2 0 ∧ ddR M8 (a + 2) e = some q)) := fun k k1 k2 z => by
    rcases z with z | z | z | ⟨z, -⟩
    · omega
    · omega
    · exact hqr z.1
    · omega
  have q8 : nw_ a M8 q := nw_keep q1 u8
  refine hk M1 ⟨W1, hX, P1, (c4.tr w).wk (fun b k hb z => ?_), by rw [ad_3]; omega, fun j b h1 h2 h3 => ?_, ?_, ?_, ?_⟩ wr wi ((u8.tr w).wk (fun b k hb z => ?_))
  · rcases z with z | z | z | z | ⟨z1, j, hj, z2⟩
    · exact z
    · exact Or.inl ⟨z.1, by rw [z.2]; exact c5⟩
    · exact Or.inr (Or.inl z)
    · omega
    · rcases Nat.lt_or_ge j n with y | y
      · have e0 : ddR M8 (a + 2) j = ddR M0 (a + 2) j := c4.R (by omega) (fun z => by
          rcases z with z | z | ⟨-, i, hi, z⟩
          · omega
          · omega
          · have := hD0 i (a + 2) hi z; omega)
        exact Or.inr (Or.inr ⟨by omega, j, y, by rw [← e0]; exact z2⟩)
      · have := c6 j b y hj z2
        omega
  · rw [ad_3] at h2
    by_cases hjn : j = A.2.2 0
    · rw [hjn, wr] at h3
      cases h3
      exact o0
    · rw [keepR j hjn] at h3
      exact c6 j b h1 (by omega) h3
  · rw [keepR e (by omega)]; exact c7
  · rw [w.I q8.2 (notq 10 (by omega) (by omega))]; exact c8
  · rw [w.R q8.2 (notq 14 (by omega) (by omega))]; exact c9
  · rcases z with z | z | z | z | ⟨z1, j, hj, z2⟩
    · exact Or.inr (Or.inr (Or.inl ⟨z.1, by omega⟩))
    · exact Or.inl z
    · exact Or.inr (Or.inl z)
    · exact Or.inr (Or.inr (Or.inl ⟨z.1, by omega⟩))
    · exact Or.inr (Or.inr (Or.inr ⟨z1, j, hj, by rw [← R82 j]; exact z2⟩))
