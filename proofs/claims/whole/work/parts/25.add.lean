/-! one more entry: in numbers -/
def ent_ (A : Ab) (at' : Nat) (v : Nat → Nat) (ar en : Int32) : Ab := (fun c j => if j = at' ∧ c < 7 then v c else A.1 c j, fun c j => if j = at' ∧ c < 7 then (if c = 0 then ar else if c = 1 then en else if c = 5 then 0 else -1) else A.2.1 c j, A.2.2)
def add_ (A : Ab) (v : Nat → Nat) (ar en of' : Int32) : Ab := uC_ (uH_ (ent_ A (A.2.2 0) v ar en) 2 (A.2.2 0) of') 0 (A.2.2 0 + 1)
theorem ad_1 {A : Ab} {v : Nat → Nat} {ar en of' : Int32} {c j : Nat} : (add_ A v ar en of').1 c j = if j = A.2.2 0 ∧ c < 7 then v c else A.1 c j := rfl
theorem ad_1n {A : Ab} {v : Nat → Nat} {ar en of' : Int32} {c j : Nat} (h : j ≠ A.2.2 0) : (add_ A v ar en of').1 c j = A.1 c j := by rw [ad_1, if_neg (fun q => h q.1)]
theorem ad_1c {A : Ab} {v : Nat → Nat} {ar en of' : Int32} {c : Nat} (h : 7 ≤ c) : (add_ A v ar en of').1 c = A.1 c := by funext j; rw [ad_1, if_neg (by omega)]
theorem ad_1s {A : Ab} {v : Nat → Nat} {ar en of' : Int32} {c : Nat} (h : c < 7) : (add_ A v ar en of').1 c (A.2.2 0) = v c := by rw [ad_1, if_pos ⟨rfl, h⟩]
theorem ad_2 {A : Ab} {v : Nat → Nat} {ar en of' : Int32} {c j : Nat} : (add_ A v ar en of').2.1 c j = if c = 2 ∧ j = A.2.2 0 then of' else if j = A.2.2 0 ∧ c < 7 then (if c = 0 then ar else if c = 1 then en else if c = 5 then 0 else -1) else A.2.1 c j := rfl
theorem ad_2n {A : Ab} {v : Nat → Nat} {ar en of' : Int32} {c j : Nat} (h : j ≠ A.2.2 0) : (add_ A v ar en of').2.1 c j = A.2.1 c j := by rw [ad_2, if_neg (fun q => h q.2), if_neg (fun q => h q.1)]
theorem ad_2c {A : Ab} {v : Nat → Nat} {ar en of' : Int32} {c : Nat} (h : 7 ≤ c) : (add_ A v ar en of').2.1 c = A.2.1 c := by funext j; rw [ad_2, if_neg (by omega), if_neg (by omega)]
theorem ad_3 {A : Ab} {v : Nat → Nat} {ar en of' : Int32} : (add_ A v ar en of').2.2 0 = A.2.2 0 + 1 := rfl
theorem ad_3n {A : Ab} {v : Nat → Nat} {ar en of' : Int32} {i : Nat} (h : i ≠ 0) : (add_ A v ar en of').2.2 i = A.2.2 i := by show (if i = 0 then _ else _) = _; rw [if_neg h]; rfl
/-! the desk's entries, one of them (x) on the way -/
def EXc (p : Prop) (a : Nat) (M : Mm) (q : Nat) (A : Ab) (e : Nat) : Prop := ddI M q 1 = A.2.1 0 e ∧ ddI M q 9 = nI e ∧ ddI M q 11 = A.2.1 2 e ∧ ddR M q 15 = (if A.1 0 e = 3 then pt_ a M (A.2.1 0 e) else none) ∧ (∀ j, j < 120 → ck_ (ddL M q 16) (ddL M q 17) j = (decide (e < j) && (decide (j < A.2.2 0) && clB A.1 e j))) ∧ (p → ddI M q 10 = A.2.1 1 e ∧ ddI M q 12 = A.2.1 3 e ∧ ddR M q 13 = pt_ a M (A.2.1 6 e) ∧ ddR M q 14 = pt_ a M (A.2.1 4 e))
theorem EXc_t {p : Prop} {a : Nat} {M : Mm} {q : Nat} {A : Ab} {e : Nat} (h : EX a M q A e) : EXc p a M q A e := by
  obtain ⟨e1, e9, e10, e11, e12, e13, e14, e15, ek⟩ := h
  exact ⟨e1, e9, e11, e15, ek, fun _ => ⟨e10, e12, e13, e14⟩⟩
theorem EX_c {p : Prop} {a : Nat} {M : Mm} {q : Nat} {A : Ab} {e : Nat} (hp : p) (h : EXc p a M q A e) : EX a M q A e := by
  obtain ⟨e1, e9, e11, e15, ek, hh⟩ := h
  obtain ⟨e10, e12, e13, e14⟩ := hh hp
  exact ⟨e1, e9, e10, e11, e12, e13, e14, e15, ek⟩
def DEx (a : Nat) (M : Mm) (A : Ab) (x : Nat) : Prop := A.2.2 0 ≤ 120 ∧ ddI M (a + 1) 1 = nI (A.2.2 0) ∧ ∀ e, e < A.2.2 0 → ∃ q, ddR M (a + 2) e = some q ∧ nw_ a M q ∧ fx_ a M q ∧ EO M q A.1 e ∧ EXc (e ≠ x) a M q A e
theorem DEx_of {a : Nat} {M : Mm} {A : Ab} {x : Nat} (h : DE a M A) : DEx a M A x := ⟨h.1, h.2.1, fun e he => by
  obtain ⟨q, q1, q2, q3, q4, q5⟩ := h.2.2 e he
  exact ⟨q, q1, q2, q3, q4, EXc_t q5⟩⟩
theorem DE_of {a : Nat} {M : Mm} {A : Ab} {x : Nat} (h : DEx a M A x) (hx : A.2.2 0 ≤ x) : DE a M A := ⟨h.1, h.2.1, fun e he => by
  obtain ⟨q, q1, q2, q3, q4, q5⟩ := h.2.2 e he
  exact ⟨q, q1, q2, q3, q4, EX_c (by omega) q5⟩⟩
/-- the places that the entries tell are places of entries -/
def ptk (A : Ab) (n : Nat) : Prop := ∀ e, e < n → (∀ c, c = 4 ∨ c = 6 → A.2.1 c e = -1 ∨ ∃ o, A.2.1 c e = nI o ∧ o < n) ∧ (A.1 0 e = 3 → A.2.1 0 e = -1 ∨ ∃ o, A.2.1 0 e = nI o ∧ o < n)
theorem ptk_WA {A : Ab} (h : WA A) : ptk A (A.2.2 0) := by
  intro e he
  obtain ⟨-, -, h3, h4⟩ := h.2.2.2.1 e he
  refine ⟨fun c hc => ?_, fun hk => ?_⟩
  · rcases h3 with ⟨-, h6, h5⟩ | ⟨-, d, o, s, -, -, h6, -, ho, -, -, -, -, -, -, h5⟩
    · rcases hc with rfl | rfl
      · exact Or.inl h5
      · exact Or.inl h6
    · rcases hc with rfl | rfl
      · rcases h5 with ⟨h5, -⟩ | ⟨r, h5, -, hr, -⟩
        · exact Or.inl h5
        · exact Or.inr ⟨r, h5, hr⟩
      · exact Or.inr ⟨o, h6, ho⟩
  · obtain ⟨b, b1, b2, -⟩ := h4 hk
    exact Or.inr ⟨b, b1, b2⟩
theorem pt_lt {a : Nat} {M M' : Mm} {P : Nat → Nat → Prop} {x : Int32} {n : Nat} (hn : n ≤ 120) (hz : a + 65 ≤ ddZ M) (u : Un P M M') (h1 : ∀ e, e < n → ¬ P (a + 2) e) (hx : x = -1 ∨ ∃ o, x = nI o ∧ o < n) : pt_ a M' x = pt_ a M x := by
  unfold pt_
  split
  · rfl
  · next hc =>
    rcases hx with hx | ⟨o, ho, ho2⟩
    · exact absurd hx hc
    · rw [ho, nI_cl (by omega)]
      exact u.R (by omega) (h1 o ho2)
/-- the new object's fields -/
def EN (a : Nat) (M : Mm) (r : Nat) (v : Nat → Nat) (ar en of' : Int32) : Prop := ddI M r 1 = ar ∧ ddI M r 9 = -1 ∧ ddI M r 10 = en ∧ ddI M r 11 = of' ∧ ddI M r 12 = -1 ∧ ddR M r 13 = none ∧ ddR M r 14 = none ∧ ddR M r 15 = (if v 0 = 3 then pt_ a M ar else none) ∧ ddL M r 16 = 0 ∧ ddL M r 17 = 0
theorem DE_add {a : Nat} {M M1 : Mm} {A : Ab} {x r : Nat} {v : Nat → Nat} {ar en of' : Int32} (hz : a + 65 ≤ ddZ M) (hD : DEx a M A x) (hp : ptk A (A.2.2 0)) (hn : A.2.2 0 < 120) (hr : nw_ a M r) (hf : fx_ a M r) (hO : EO M r (add_ A v ar en of').1 (A.2.2 0)) (hN : EN a M r v ar en of') (hv : v 0 = 3 → ar = -1 ∨ ∃ o, ar = nI o ∧ o < A.2.2 0) (hA : AP a M M1 (A.2.2 0) (add_ A v ar en of').1 r) : DEx a M1 (add_ A v ar en of') x := by
  obtain ⟨d1, d2, d3⟩ := hD
  obtain ⟨u, uz, ur, us, ui, uk⟩ := hA
  have nP2 : ∀ e, e < A.2.2 0 → ¬ ((a + 2 = a + 2 ∧ e = A.2.2 0) ∨ (a + 2 = a + 1 ∧ e = 1) ∨ (a + 2 = r ∧ e = 9) ∨ ((e = 16 ∨ e = 17) ∧ ∃ e', e' < A.2.2 0 ∧ ddR M (a + 2) e' = some (a + 2))) := fun e he z => by
    rcases z with z | z | z | ⟨-, e', he', z⟩
    · omega
    · omega
    · have := hr.1; omega
    · obtain ⟨q, q1, q2, -⟩ := d3 e' he'
      rw [z] at q1
      cases q1
      have := q2.1
      omega
  have n20 : ∀ f k, nw_ a M f → ddT M f = 20 → ¬ ((f = a + 2 ∧ k = A.2.2 0) ∨ (f = a + 1 ∧ k = 1) ∨ (f = r ∧ k = 9) ∨ ((k = 16 ∨ k = 17) ∧ ∃ e', e' < A.2.2 0 ∧ ddR M (a + 2) e' = some f)) := fun f k hf2 ht z => by
    rcases z with z | z | z | ⟨-, e', he', z⟩
    · have := hf2.1; omega
    · have := hf2.1; omega
    · rw [z.1, hO.1] at ht; cases ht
    · obtain ⟨q, q1, q2, -, q4, -⟩ := d3 e' he'
      rw [z] at q1
      cases q1
      rw [q4.1] at ht
      cases ht
  have kO : ∀ q e G, nw_ a M q → fx_ a M q → EO M q G e → EO M1 q G e := fun q e G q2 q3 q4 => EO_keep q4 q2 q3 u (fun k hk z => by
    rcases z with z | z | z | ⟨z, -⟩
    · have := q2.1; omega
    · have := q2.1; omega
    · omega
    · omega) (fun f k hf => by
      obtain ⟨-, -, -, -, -, -, -, -, -, f', f1, f2, -⟩ := q4
      have e' : f' = f := by rw [f1] at hf; exact Option.some.inj hf
      exact n20 f k (q3 f hf) (by rw [← e']; exact f2))
  have kF : ∀ q, nw_ a M q → fx_ a M q → fx_ a M1 q := fun q q2 q3 => fx_keep q3 q2 u (fun z => by
    rcases z with z | z | z | ⟨z, -⟩
    · have := q2.1; omega
    · have := q2.1; omega
    · omega
    · omega)
  refine ⟨by rw [ad_3]; omega, by rw [ad_3]; exact us, fun e he => ?_⟩
  rw [ad_3] at he
  rcases Nat.lt_or_ge e (A.2.2 0) with h | h
  · obtain ⟨q, q1, q2, q3, q4, q5⟩ := d3 e h
    have hne : e ≠ A.2.2 0 := by omega
    have cq : ∀ c, c < 7 → (add_ A v ar en of').1 c e = A.1 c e := fun c _ => ad_1n hne
    have hqr : q ≠ r := fun z => by
      have q9 := q5.2.1
      rw [z, hN.2.1] at q9
      exact nI_m1 (n := e) (by omega) q9.symm
    have nq : ∀ k, k ≠ 16 → k ≠ 17 → ¬ ((q = a + 2 ∧ k = A.2.2 0) ∨ (q = a + 1 ∧ k = 1) ∨ (q = r ∧ k = 9) ∨ ((k = 16 ∨ k = 17) ∧ ∃ e', e' < A.2.2 0 ∧ ddR M (a + 2) e' = some q)) := fun k k1 k2 z => by
      rcases z with z | z | z | ⟨z, -⟩
      · have := q2.1; omega
      · have := q2.1; omega
      · exact hqr z.1
      · omega
    obtain ⟨e1, e9, e11, e15, ek, eh⟩ := q5
    obtain ⟨p1, p2⟩ := hp e h
    refine ⟨q, by rw [u.R (by omega) (nP2 e h)]; exact q1, nw_keep q2 u, kF q q2 q3, EO_cg cq (kO q e _ q2 q3 q4), ?_, ?_, ?_, ?_, fun j hj => ?_, fun hx => ?_⟩
    · rw [u.I q2.2 (nq 1 (by omega) (by omega)), ad_2n hne]; exact e1
    · rw [u.I q2.2 (nq 9 (by omega) (by omega))]; exact e9
    · rw [u.I q2.2 (nq 11 (by omega) (by omega)), ad_2n hne]; exact e11
    · rw [u.R q2.2 (nq 15 (by omega) (by omega)), ad_2n hne, ad_1n hne, e15]
      split
      · next hk => rw [pt_lt d1 hz u nP2 (p2 hk)]
      · rfl
    · rw [uk e q h q1 j hj, ek j hj, ad_3]
      by_cases hjn : j = A.2.2 0
      · rw [hjn]
        simp [h]
      · have e3 : clB (add_ A v ar en of').1 e j = clB A.1 e j := clB_cg (fun c _ => ad_1n hjn) cq
        rw [e3, decide_eq_false hjn, Bool.false_and, Bool.or_false]
        congr 2
        by_cases h5 : j < A.2.2 0
        · rw [decide_eq_true h5, decide_eq_true (by omega)]
        · rw [decide_eq_false h5, decide_eq_false (by omega)]
    · obtain ⟨e10, e12, e13, e14⟩ := eh hx
      refine ⟨?_, ?_, ?_, ?_⟩
      · rw [u.I q2.2 (nq 10 (by omega) (by omega)), ad_2n hne]; exact e10
      · rw [u.I q2.2 (nq 12 (by omega) (by omega)), ad_2n hne]; exact e12
      · rw [u.R q2.2 (nq 13 (by omega) (by omega)), ad_2n hne, e13, pt_lt d1 hz u nP2 (p1 6 (by omega))]
      · rw [u.R q2.2 (nq 14 (by omega) (by omega)), ad_2n hne, e14, pt_lt d1 hz u nP2 (p1 4 (by omega))]
  · have he2 : e = A.2.2 0 := by omega
    subst he2
    obtain ⟨f1, f9, f10, f11, f12, f13, f14, f15, f16, f17⟩ := hN
    have nq : ∀ k, k ≠ 9 → ¬ ((r = a + 2 ∧ k = A.2.2 0) ∨ (r = a + 1 ∧ k = 1) ∨ (r = r ∧ k = 9) ∨ ((k = 16 ∨ k = 17) ∧ ∃ e', e' < A.2.2 0 ∧ ddR M (a + 2) e' = some r)) := fun k k1 z => by
      rcases z with z | z | z | ⟨-, e', he', z⟩
      · have := hr.1; omega
      · have := hr.1; omega
      · omega
      · obtain ⟨q, q1, q2, -, q4, q5⟩ := d3 e' he'
        rw [z] at q1
        cases q1
        have q9 := q5.2.1
        rw [f9] at q9
        exact nI_m1 (n := e') (by omega) q9.symm
    have pn : pt_ a M1 (-1) = none := by unfold pt_; rw [if_pos rfl]
    refine ⟨r, ur, nw_keep hr u, kF r hr hf, kO r _ _ hr hf hO, ?_, ui, ?_, ?_, fun j hj => ?_, fun _ => ⟨?_, ?_, ?_, ?_⟩⟩
    · rw [u.I hr.2 (nq 1 (by omega)), f1, ad_2]; simp
    · rw [u.I hr.2 (nq 11 (by omega)), f11, ad_2]; simp
    · rw [u.R hr.2 (nq 15 (by omega)), f15, ad_1s (by omega), ad_2]
      split
      · next hk => rw [if_neg (by omega), if_pos ⟨rfl, by omega⟩, if_pos rfl, pt_lt d1 hz u nP2 (hv hk)]
      · rfl
    · rw [u.L hr.2 (nq 16 (by omega)), u.L hr.2 (nq 17 (by omega)), f16, f17, ck_0, ad_3]
      by_cases h5 : A.2.2 0 < j
      · rw [show decide (j < A.2.2 0 + 1) = false from decide_eq_false (by omega), Bool.false_and, Bool.and_false]
      · rw [decide_eq_false h5, Bool.false_and]
    · rw [u.I hr.2 (nq 10 (by omega)), f10, ad_2]; simp
    · rw [u.I hr.2 (nq 12 (by omega)), f12, ad_2]; simp
    · rw [u.R hr.2 (nq 13 (by omega)), f13, ad_2]; simp [pn]
    · rw [u.R hr.2 (nq 14 (by omega)), f14, ad_2]; simp [pn]
theorem WE_of {a : Nat} {M : Mm} {A : Ab} {x : Nat} {v : Nat → Nat} {ar en of' : Int32} (h : DEx a M A x) : WE a M (A.2.2 0) (add_ A v ar en of').1 := fun e he => by
  obtain ⟨q, q1, q2, q3, q4, q5⟩ := h.2.2 e he
  exact ⟨q, q1, q2, q3, EO_cg (fun c _ => ad_1n (by omega)) q4, q5.2.1⟩
