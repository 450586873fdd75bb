/-! what stays -/
theorem Un.T {P : Nat → Nat → Prop} {M M' : Mm} (h : Un P M M') {b : Nat} (hb : b < ddZ M) : ddT M' b = ddT M b := (h.2 b hb).1
theorem Un.N {P : Nat → Nat → Prop} {M M' : Mm} (h : Un P M M') {b : Nat} (hb : b < ddZ M) : ddN M' b = ddN M b := (h.2 b hb).2.1
theorem Un.I {P : Nat → Nat → Prop} {M M' : Mm} (h : Un P M M') {b k : Nat} (hb : b < ddZ M) (hk : ¬ P b k) : ddI M' b k = ddI M b k := ((h.2 b hb).2.2 k hk).1
theorem Un.L {P : Nat → Nat → Prop} {M M' : Mm} (h : Un P M M') {b k : Nat} (hb : b < ddZ M) (hk : ¬ P b k) : ddL M' b k = ddL M b k := ((h.2 b hb).2.2 k hk).2.1
theorem Un.R {P : Nat → Nat → Prop} {M M' : Mm} (h : Un P M M') {b k : Nat} (hb : b < ddZ M) (hk : ¬ P b k) : ddR M' b k = ddR M b k := ((h.2 b hb).2.2 k hk).2.2
section KP
variable {P : Nat → Nat → Prop} {M M' : Mm} {a : Nat} {A : Ab}
theorem DW_keep (h : DW a M) (u : Un P M M') (h1 : ∀ q ∈ dw_R, ¬ P (a + q.1) q.2.1) (h2 : ∀ j, j < 16 → ¬ P (a + 13 + j) 0) : DW a M' := by
  obtain ⟨a1, a2, a3, a4, a5⟩ := h
  have b1 : ∀ q ∈ dw_T, q.1 < 32 := by decide
  have b2 : ∀ q ∈ dw_R, q.1 < 32 := by decide
  have b3 : ∀ q ∈ dw_N, q.1 < 32 := by decide
  refine ⟨fun q hq => ?_, fun q hq => ?_, fun q hq => ?_, fun j hj => ?_, Nat.le_trans a5 u.1⟩
  · have := b1 q hq; rw [u.T (by omega)]; exact a1 q hq
  · have := b2 q hq; rw [u.R (by omega) (h1 q hq)]; exact a2 q hq
  · have := b3 q hq; rw [u.N (by omega)]; exact a3 q hq
  · rw [u.I (by omega) (h2 j hj)]; exact a4 j hj
theorem DK_keep (h : DK a M A) (hz : a + 65 ≤ ddZ M) (u : Un P M M') (h1 : ¬ P a 4) : DK a M' A := by
  unfold DK; rw [u.I (by omega) h1]; exact h
theorem DD_keep (h : DD a M A) (hz : a + 65 ≤ ddZ M) (u : Un P M M') (h1 : ∀ j, j < 16 → ¬ P (a + 13 + j) 1 ∧ ¬ P (a + 13 + j) 2) : DD a M' A := by
  intro j hj
  rw [u.I (by omega) (h1 j hj).1, u.I (by omega) (h1 j hj).2]; exact h j hj
theorem DC_keep (h : DC a M A) (hz : a + 65 ≤ ddZ M) (u : Un P M M') (h1 : ∀ k f, k < 4 → ¬ P (a + 7 + k) f) : DC a M' A := by
  intro k hk
  rw [u.I (by omega) (h1 k 0 hk), u.I (by omega) (h1 k 1 hk), u.I (by omega) (h1 k 2 hk), u.I (by omega) (h1 k 3 hk), u.I (by omega) (h1 k 4 hk), u.L (by omega) (h1 k 5 hk)]; exact h k hk
theorem nw_keep {q : Nat} (h : nw_ a M q) (u : Un P M M') : nw_ a M' q := ⟨h.1, Nat.lt_of_lt_of_le h.2 u.1⟩
theorem fx_keep {q : Nat} (h : fx_ a M q) (hq : nw_ a M q) (u : Un P M M') (h1 : ¬ P q 8) : fx_ a M' q := by
  intro f hf
  rw [u.R hq.2 h1] at hf
  exact nw_keep (h f hf) u
theorem EO_keep {q j : Nat} {G : Nat → Nat → Nat} (h : EO M q G j) (hq : nw_ a M q) (hf : fx_ a M q) (u : Un P M M') (h1 : ∀ k, k < 9 → ¬ P q k) (h2 : ∀ f k, ddR M q 8 = some f → ¬ P f k) : EO M' q G j := by
  obtain ⟨hT, e0, e2, e3, e4, e5, e6, e7, hG, f, f1, f2, f3, f4⟩ := h
  have hn := hf f f1
  refine ⟨by rw [u.T hq.2]; exact hT, ?_, ?_, ?_, ?_, ?_, ?_, ?_, hG, f, by rw [u.R hq.2 (h1 8 (by omega))]; exact f1, by rw [u.T hn.2]; exact f2, by rw [u.N hn.2]; exact f3, fun i hi => by rw [u.I hn.2 (h2 f i f1)]; exact f4 i hi⟩
  · rw [u.I hq.2 (h1 0 (by omega))]; exact e0
  · rw [u.I hq.2 (h1 2 (by omega))]; exact e2
  · rw [u.I hq.2 (h1 3 (by omega))]; exact e3
  · rw [u.I hq.2 (h1 4 (by omega))]; exact e4
  · rw [u.I hq.2 (h1 5 (by omega))]; exact e5
  · rw [u.I hq.2 (h1 6 (by omega))]; exact e6
  · rw [u.I hq.2 (h1 7 (by omega))]; exact e7
theorem pt_keep {x : Int32} (hz : a + 65 ≤ ddZ M) (u : Un P M M') (h1 : ∀ e, ¬ P (a + 2) e) : pt_ a M' x = pt_ a M x := by
  unfold pt_
  split
  · rfl
  · exact u.R (by omega) (h1 _)
theorem EX_keep {q e : Nat} (h : EX a M q A e) (hz : a + 65 ≤ ddZ M) (hq : nw_ a M q) (u : Un P M M') (h1 : ∀ k, ¬ P q k) (h2 : ∀ e, ¬ P (a + 2) e) : EX a M' q A e := by
  obtain ⟨e1, e9, e10, e11, e12, e13, e14, e15, ek⟩ := h
  refine ⟨?_, ?_, ?_, ?_, ?_, ?_, ?_, ?_, fun j hj => ?_⟩
  · rw [u.I hq.2 (h1 1)]; exact e1
  · rw [u.I hq.2 (h1 9)]; exact e9
  · rw [u.I hq.2 (h1 10)]; exact e10
  · rw [u.I hq.2 (h1 11)]; exact e11
  · rw [u.I hq.2 (h1 12)]; exact e12
  · rw [u.R hq.2 (h1 13), pt_keep hz u h2]; exact e13
  · rw [u.R hq.2 (h1 14), pt_keep hz u h2]; exact e14
  · rw [u.R hq.2 (h1 15), pt_keep hz u h2]; exact e15
  · rw [u.L hq.2 (h1 16), u.L hq.2 (h1 17)]; exact ek j hj
theorem DE_keep (h : DE a M A) (hz : a + 65 ≤ ddZ M) (u : Un P M M') (h0 : ¬ P (a + 1) 1) (h1 : ∀ e, ¬ P (a + 2) e) (h2 : ∀ q k, nw_ a M q → ddT M q = 3 ∨ ddT M q = 20 → ¬ P q k) : DE a M' A := by
  obtain ⟨a1, a2, a3⟩ := h
  refine ⟨a1, by rw [u.I (by omega) h0]; exact a2, fun e he => ?_⟩
  obtain ⟨q, q1, q2, q3, q4, q5⟩ := a3 e he
  obtain ⟨hT, -, -, -, -, -, -, -, -, f, f1, f2, -⟩ := id q4
  have hP : ∀ k, ¬ P q k := fun k => h2 q k q2 (Or.inl hT)
  refine ⟨q, by rw [u.R (by omega) (h1 e)]; exact q1, nw_keep q2 u, fx_keep q3 q2 u (hP 8), EO_keep q4 q2 q3 u (fun k _ => hP k) (fun f' k hf => ?_), EX_keep q5 hz q2 u hP h1⟩
  have hn := q3 f' hf
  rw [f1] at hf
  cases hf
  exact h2 f k hn (Or.inr f2)
theorem ch_keep {l : Nat} : ∀ {k : Nat} {o : Option Nat}, ch_ a M A l k o → Un P M M' → (∀ p k, nw_ a M p → ddT M p = 8 → ¬ P p k) → ch_ a M' A l k o
  | 0, _, h, _, _ => h
  | k + 1, o, h, u, h1 => by
    unfold ch_ at h ⊢
    split
    · next hc =>
      rw [if_pos hc] at h
      obtain ⟨p, p1, p2, p3, p4, p5, p6⟩ := h
      have hP := fun k => h1 p k p2 p3
      refine ⟨p, p1, nw_keep p2 u, by rw [u.T p2.2]; exact p3, by rw [u.I p2.2 (hP 0)]; exact p4, by rw [u.I p2.2 (hP 1)]; exact p5, ?_⟩
      rw [u.R p2.2 (hP 2)]
      exact ch_keep p6 u h1
    · next hc =>
      rw [if_neg hc] at h
      exact ch_keep h u h1
theorem LO_keep {q l : Nat} (h : LO a M q A l) (hz : a + 65 ≤ ddZ M) (u : Un P M M') (h1 : ∀ k, ¬ P q k) (h2 : ∀ e, ¬ P (a + 2) e) (h3 : ∀ p k, nw_ a M p → ddT M p = 8 → ¬ P p k) : LO a M' q A l := by
  obtain ⟨l1, l2, l3, l4, l5, l6, l7, l8⟩ := h
  refine ⟨nw_keep l1 u, by rw [u.T l1.2]; exact l2, by rw [u.R l1.2 (h1 0), u.R (by omega) (h2 _)]; exact l3, by rw [u.I l1.2 (h1 1)]; exact l4, by rw [u.I l1.2 (h1 2)]; exact l5, by rw [u.I l1.2 (h1 3)]; exact l6, by rw [u.I l1.2 (h1 4)]; exact l7, ?_⟩
  rw [u.R l1.2 (h1 5)]
  exact ch_keep l8 u h3
theorem DL_keep (h : DL a M A) (hz : a + 65 ≤ ddZ M) (u : Un P M M') (h0 : ¬ P (a + 4) 1 ∧ ¬ P (a + 4) 2) (h1 : ∀ e, ¬ P (a + 2) e) (h2 : ∀ e, ¬ P (a + 5) e) (h3 : ∀ q k, nw_ a M q → ddT M q = 4 ∨ ddT M q = 8 → ¬ P q k) : DL a M' A := by
  obtain ⟨a1, a2, a3, a4, a5, a6⟩ := h
  refine ⟨a1, by rw [u.I (by omega) h0.1]; exact a2, a3, by rw [u.I (by omega) h0.2]; exact a4, fun l hl => ?_, fun l l' q hl hl' q1 q2 => ?_⟩
  · obtain ⟨q, q1, q2⟩ := a5 l hl
    exact ⟨q, by rw [u.R (by omega) (h2 l)]; exact q1, LO_keep q2 hz u (fun k => h3 q k q2.1 (Or.inl q2.2.1)) h1 (fun p k hp ht => h3 p k hp (Or.inr ht))⟩
  · rw [u.R (by omega) (h2 _)] at q1 q2
    exact a6 l l' q hl hl' q1 q2
theorem OO_keep {q r o : Nat} (h : OO a M q r A o) (u : Un P M M') (h1 : ∀ k, ¬ P q k) (h2 : ∀ k, ¬ P r k) (h3 : ∀ f k, nw_ a M f → ddT M f = 20 → ¬ P f k) : OO a M' q r A o := by
  obtain ⟨o1, o2, o3, o4, o5, o6, o7, o8, o9, o10, o11, o12, o13, o14, o15, o16, o17⟩ := h
  obtain ⟨hT, -, -, -, -, -, -, -, -, f, f1, f2, -⟩ := id o7
  refine ⟨nw_keep o1 u, by rw [u.T o1.2]; exact o2, by rw [u.R o1.2 (h1 0)]; exact o3, by rw [u.I o1.2 (h1 1)]; exact o4, nw_keep o5 u, fx_keep o6 o5 u (h2 8), EO_keep o7 o5 o6 u (fun k _ => h2 k) (fun f' k hf => ?_), ?_, ?_, ?_, ?_, ?_, ?_, ?_, ?_, ?_, ?_⟩
  · have hn := o6 f' hf
    rw [f1] at hf
    cases hf
    exact h3 f k hn f2
  · rw [u.I o5.2 (h2 1)]; exact o8
  · rw [u.I o5.2 (h2 9)]; exact o9
  · rw [u.I o5.2 (h2 10)]; exact o10
  · rw [u.I o5.2 (h2 11)]; exact o11
  · rw [u.I o5.2 (h2 12)]; exact o12
  · rw [u.R o5.2 (h2 13)]; exact o13
  · rw [u.R o5.2 (h2 14)]; exact o14
  · rw [u.R o5.2 (h2 15)]; exact o15
  · rw [u.L o5.2 (h2 16)]; exact o16
  · rw [u.L o5.2 (h2 17)]; exact o17
theorem DO_keep (h : DO a M A) (hz : a + 65 ≤ ddZ M) (u : Un P M M') (h0 : ¬ P (a + 11) 3) (h1 : ∀ e, ¬ P (a + 29) e) (h2 : ∀ q k, nw_ a M q → ddT M q = 6 → ¬ P q k) (h3 : ∀ q k, nw_ a M q → ddT M q = 3 → ddI M q 9 = -1 → ¬ P q k) (h4 : ∀ q k, nw_ a M q → ddT M q = 20 → ¬ P q k) : DO a M' A := by
  obtain ⟨a1, a2, a3, a4⟩ := h
  refine ⟨a1, by rw [u.I (by omega) h0]; exact a2, fun o ho => ?_, fun o o' q q' r ho ho' q1 q2 r1 r2 => ?_⟩
  · obtain ⟨q, r, q1, q2⟩ := a3 o ho
    exact ⟨q, r, by rw [u.R (by omega) (h1 o)]; exact q1, OO_keep q2 u (fun k => h2 q k q2.1 q2.2.1) (fun k => h3 r k q2.2.2.2.2.1 q2.2.2.2.2.2.2.1.1 q2.2.2.2.2.2.2.2.2.1) h4⟩
  · rw [u.R (by omega) (h1 _)] at q1 q2
    obtain ⟨p, s, p1, p2⟩ := a3 o ho
    obtain ⟨p', s', p1', p2'⟩ := a3 o' ho'
    rw [p1] at q1
    rw [p1'] at q2
    cases q1
    cases q2
    rw [u.R p2.1.2 (h2 _ 0 p2.1 p2.2.1)] at r1
    rw [u.R p2'.1.2 (h2 _ 0 p2'.1 p2'.2.1)] at r2
    exact a4 o o' _ _ r ho ho' p1 p1' r1 r2
/-- the model's doings leave the desk -/
theorem DS_keep (h : DS a M A) (u : Un P M M') (hP : ∀ b k, P b k → a + 32 ≤ b ∧ b < a + 65) : DS a M' A := by
  obtain ⟨d1, d2, d3, d4, d5, d6, d7⟩ := h
  have hz := d1.2.2.2.2
  have nn : ∀ b k, (b < a + 32 ∨ a + 65 ≤ b) → ¬ P b k := fun b k hb q => by have := hP b k q; omega
  have b2 : ∀ q ∈ dw_R, q.1 < 32 := by decide
  exact ⟨DW_keep d1 u (fun q hq => nn _ _ (by have := b2 q hq; omega)) (fun j hj => nn _ _ (by omega)), DK_keep d2 hz u (nn _ _ (by omega)), DD_keep d3 hz u (fun j hj => ⟨nn _ _ (by omega), nn _ _ (by omega)⟩), DC_keep d4 hz u (fun k f hk => nn _ _ (by omega)), DE_keep d5 hz u (nn _ _ (by omega)) (fun e => nn _ _ (by omega)) (fun q k hq _ => nn _ _ (Or.inr hq.1)), DL_keep d6 hz u ⟨nn _ _ (by omega), nn _ _ (by omega)⟩ (fun e => nn _ _ (by omega)) (fun e => nn _ _ (by omega)) (fun q k hq _ => nn _ _ (Or.inr hq.1)), DO_keep d7 hz u (nn _ _ (by omega)) (fun e => nn _ _ (by omega)) (fun q k hq _ => nn _ _ (Or.inr hq.1)) (fun q k hq _ _ => nn _ _ (Or.inr hq.1)) (fun q k hq _ => nn _ _ (Or.inr hq.1))⟩
/-- the desk's doings leave the model -/
theorem MR_keep {m : Nat} {G : Nat → Nat → Nat} {j : Nat} (h : MR m M G j) (hI : ∀ o k, o < 33 → ddI M' (m + o) k = ddI M (m + o) k) : MR m M' G j := by
  unfold MR
  rw [hI 1 j (by omega), hI 3 j (by omega), hI 4 j (by omega), hI 5 j (by omega), hI 6 j (by omega), hI 7 j (by omega)]
  exact h
theorem MS_keep (h : MS (a + 32) M A) (hz : a + 65 ≤ ddZ M) (u : Un P M M') (hP : ∀ b k, P b k → b < a + 32 ∨ a + 65 ≤ b) : MS (a + 32) M' A := by
  obtain ⟨d1, d2, d3, d4, d5, d6, d7⟩ := h
  have nn : ∀ b k, a + 32 ≤ b → b < a + 65 → ¬ P b k := fun b k h1 h2 q => by have := hP b k q; omega
  have hI : ∀ o k, o < 33 → ddI M' (a + 32 + o) k = ddI M (a + 32 + o) k := fun o k ho => u.I (by omega) (nn _ _ (by omega) (by omega))
  have hI0 : ∀ k, ddI M' (a + 32) k = ddI M (a + 32) k := fun k => hI 0 k (by omega)
  have hL : ∀ o k, o < 33 → ddL M' (a + 32 + o) k = ddL M (a + 32 + o) k := fun o k ho => u.L (by omega) (nn _ _ (by omega) (by omega))
  have hR : ∀ k, ddR M' (a + 32) k = ddR M (a + 32) k := fun k => u.R (by omega) (nn _ _ (by omega) (by omega))
  have b2 : ∀ q ∈ mw_tab, q.2.1 < 33 := by decide
  refine ⟨⟨by rw [u.T (by omega)]; exact d1.1, fun q hq => ?_⟩, ?_, fun j hj => ?_, fun k hk => ?_, ⟨d5.1, by rw [hI0]; exact d5.2.1, fun e he => ⟨MR_keep (d5.2.2 e he).1 hI, ?_⟩⟩, ⟨d6.1, by rw [hI0]; exact d6.2.1, d6.2.2.1, by rw [hI0]; exact d6.2.2.2.1, fun l hl => ?_, fun k hk => ?_⟩, ⟨d7.1, by rw [hI0]; exact d7.2.1, fun o ho => ⟨MR_keep (d7.2.2 o ho).1 hI, ?_, (d7.2.2 o ho).2.2.1, ?_⟩⟩⟩
  · have := b2 q hq
    rw [hR, u.T (by omega), u.N (by omega)]
    exact d1.2 q hq
  · unfold MK; rw [hI0]; exact d2
  · rw [hI 29 j (by omega), hI 30 j (by omega)]; exact d3 j hj
  · rw [hI 27 k (by omega), hI 26 k (by omega), hI 22 k (by omega), hI 25 k (by omega), hI 23 k (by omega)]
    obtain ⟨c1, c2, c3, c4, c5, c6⟩ := d4 k hk
    exact ⟨c1, c2, c3, c4, c5, fun i hi => by rw [hI 24 _ (by omega)]; exact c6 i hi⟩
  · unfold HR
    rw [hI 2 e (by omega), hI 8 e (by omega), hI 9 e (by omega), hI 10 e (by omega), hI 11 e (by omega), hI 12 e (by omega), hI 13 e (by omega), hL 14 e (by omega)]
    exact (d5.2.2 e he).2
  · rw [hI 15 l (by omega), hL 16 l (by omega), hI 17 l (by omega), hI 18 l (by omega)]; exact d6.2.2.2.2.1 l hl
  · rw [hI 19 k (by omega), hI 20 k (by omega), hI 21 k (by omega)]; exact d6.2.2.2.2.2 k hk
  · unfold HR
    rw [hI 2 _ (by omega), hI 8 _ (by omega), hI 9 _ (by omega), hI 10 _ (by omega), hI 11 _ (by omega), hI 12 _ (by omega), hI 13 _ (by omega), hL 14 _ (by omega)]
    exact (d7.2.2 o ho).2.1
  · rw [hI 31 _ (by omega)]; exact (d7.2.2 o ho).2.2.2
end KP
