/-! the parts of Sim depend on their own columns alone -/
def cq_ (A A' : Ab) (ns hs : List Nat) : Prop := (∀ c ∈ ns, A'.1 c = A.1 c) ∧ ∀ c ∈ hs, A'.2.1 c = A.2.1 c
section CG
variable {M : Mm} {a m : Nat} {A A' : Ab}
theorem mayN_cg {G G' : Nat → Nat → Nat} {j : Nat} (h : ∀ c, c < 7 → G' c j = G c j) (i : Nat) : mayN G' j i = mayN G j i := by
  unfold mayN; rw [h 1 (by omega), h 2 (by omega), h 3 (by omega)]
theorem GW_cg {G G' : Nat → Nat → Nat} {j : Nat} (h : ∀ c, c < 7 → G' c j = G c j) (hG : GW G j) : GW G' j := by
  unfold GW; rw [h 0 (by omega), h 1 (by omega), h 2 (by omega), h 3 (by omega), h 4 (by omega), h 5 (by omega), h 6 (by omega)]; exact hG
theorem clB_cg {G G' : Nat → Nat → Nat} {e j : Nat} (h : ∀ c, c < 7 → G' c j = G c j) (h2 : ∀ c, c < 7 → G' c e = G c e) : clB G' e j = clB G e j := by
  unfold clB
  congr 1
  funext i
  rw [mayN_cg h, mayN_cg h2]
theorem EO_cg {G G' : Nat → Nat → Nat} {q j : Nat} (h : ∀ c, c < 7 → G' c j = G c j) (hE : EO M q G j) : EO M q G' j := by
  obtain ⟨hT, e0, e2, e3, e4, e5, e6, e7, hG, f, f1, f2, f3, f4⟩ := hE
  refine ⟨hT, ?_, ?_, ?_, ?_, ?_, ?_, ?_, GW_cg h hG, f, f1, f2, f3, fun i hi => by rw [mayN_cg h]; exact f4 i hi⟩
  · rw [h 0 (by omega)]; exact e0
  · rw [h 1 (by omega)]; exact e2
  · rw [h 2 (by omega)]; exact e3
  · rw [h 3 (by omega)]; exact e4
  · rw [h 4 (by omega)]; exact e5
  · rw [h 5 (by omega)]; exact e6
  · rw [h 6 (by omega)]; exact e7
theorem MR_cg {G G' : Nat → Nat → Nat} {j : Nat} (h : ∀ c, c < 7 → G' c j = G c j) (hE : MR m M G j) : MR m M G' j := by
  obtain ⟨e0, e1, e3, e4, e5, e6, hG⟩ := hE
  refine ⟨?_, ?_, ?_, ?_, ?_, ?_, GW_cg h hG⟩
  · rw [h 0 (by omega)]; exact e0
  · rw [h 1 (by omega)]; exact e1
  · rw [h 3 (by omega)]; exact e3
  · rw [h 4 (by omega)]; exact e4
  · rw [h 5 (by omega)]; exact e5
  · rw [h 6 (by omega)]; exact e6
theorem nu_cg {G G' : Nat → Nat → Nat} {j : Nat} (h : ∀ c, c < 7 → G' c j = G c j) : nu_ G' j = nu_ G j := by
  unfold nu_; rw [h 2 (by omega), h 3 (by omega), h 4 (by omega)]
theorem HR_cg {j : Nat} (h : ∀ c, c < 7 → A'.1 c j = A.1 c j) (h2 : ∀ c, c < 7 → A'.2.1 c j = A.2.1 c j) (hE : HR m M A j) : HR m M A' j := by
  unfold HR
  rw [h 0 (by omega), nu_cg h, h2 0 (by omega), h2 1 (by omega), h2 2 (by omega), h2 3 (by omega), h2 4 (by omega), h2 5 (by omega), h2 6 (by omega)]
  exact hE
theorem DE_cg (h : DE a M A) (h0 : A'.2.2 0 = A.2.2 0) (h1 : ∀ c, c < 7 → A'.1 c = A.1 c) (h2 : ∀ c, c < 7 → A'.2.1 c = A.2.1 c) : DE a M A' := by
  obtain ⟨a1, a2, a3⟩ := h
  refine ⟨by rw [h0]; exact a1, by rw [h0]; exact a2, fun e he => ?_⟩
  rw [h0] at he
  obtain ⟨q, q1, q2, q3, q4, q5⟩ := a3 e he
  refine ⟨q, q1, q2, q3, EO_cg (fun c hc => by rw [h1 c hc]) q4, ?_⟩
  obtain ⟨e1, e9, e10, e11, e12, e13, e14, e15, ek⟩ := q5
  refine ⟨?_, e9, ?_, ?_, ?_, ?_, ?_, ?_, fun j hj => ?_⟩
  · rw [h2 0 (by omega)]; exact e1
  · rw [h2 1 (by omega)]; exact e10
  · rw [h2 2 (by omega)]; exact e11
  · rw [h2 3 (by omega)]; exact e12
  · rw [h2 6 (by omega)]; exact e13
  · rw [h2 4 (by omega)]; exact e14
  · rw [h1 0 (by omega), h2 0 (by omega)]; exact e15
  · rw [h0, clB_cg (fun c hc => by rw [h1 c hc]) (fun c hc => by rw [h1 c hc])]; exact ek j hj
theorem ME_cg (h : ME m M A) (h0 : A'.2.2 0 = A.2.2 0) (h1 : ∀ c, c < 7 → A'.1 c = A.1 c) (h2 : ∀ c, c < 7 → A'.2.1 c = A.2.1 c) : ME m M A' := by
  obtain ⟨a1, a2, a3⟩ := h
  refine ⟨by rw [h0]; exact a1, by rw [h0]; exact a2, fun e he => ?_⟩
  rw [h0] at he
  exact ⟨MR_cg (fun c hc => by rw [h1 c hc]) (a3 e he).1, HR_cg (fun c hc => by rw [h1 c hc]) (fun c hc => by rw [h2 c hc]) (a3 e he).2⟩
theorem ch_cg {l : Nat} (h1 : ∀ c, 20 ≤ c → c < 23 → A'.1 c = A.1 c) : ∀ {k : Nat} {o : Option Nat}, ch_ a M A l k o → ch_ a M A' l k o
  | 0, _, h => h
  | k + 1, o, h => by
    unfold ch_ at h ⊢
    rw [h1 20 (by omega) (by omega), h1 21 (by omega) (by omega), h1 22 (by omega) (by omega)]
    split
    · next hc =>
      rw [if_pos hc] at h
      obtain ⟨p, p1, p2, p3, p4, p5, p6⟩ := h
      exact ⟨p, p1, p2, p3, p4, p5, ch_cg h1 p6⟩
    · next hc =>
      rw [if_neg hc] at h
      exact ch_cg h1 h
theorem LO_cg {q l : Nat} (h : LO a M q A l) (h0 : A'.2.2 2 = A.2.2 2) (h1 : ∀ c, c < 7 ∨ (10 ≤ c ∧ c < 13) ∨ (20 ≤ c ∧ c < 23) → A'.1 c = A.1 c) (h2 : A'.2.1 10 = A.2.1 10) : LO a M q A' l := by
  obtain ⟨l1, l2, l3, l4, l5, l6, l7, l8⟩ := h
  refine ⟨l1, l2, ?_, ?_, ?_, ?_, ?_, ?_⟩
  · rw [h1 10 (by omega)]; exact l3
  · rw [h1 11 (by omega)]; exact l4
  · rw [h1 11 (by omega), h1 10 (by omega), h1 4 (by omega), h1 2 (by omega)]; exact l5
  · rw [h1 12 (by omega)]; exact l6
  · rw [h2]; exact l7
  · rw [h0]; exact ch_cg (fun c q1 q2 => h1 c (by omega)) l8
theorem DL_cg (h : DL a M A) (h0 : A'.2.2 1 = A.2.2 1) (h00 : A'.2.2 2 = A.2.2 2) (h1 : ∀ c, c < 7 ∨ (10 ≤ c ∧ c < 13) ∨ (20 ≤ c ∧ c < 23) → A'.1 c = A.1 c) (h2 : A'.2.1 10 = A.2.1 10) : DL a M A' := by
  obtain ⟨a1, a2, a3, a4, a5, a6⟩ := h
  refine ⟨by rw [h0]; exact a1, by rw [h0]; exact a2, by rw [h00]; exact a3, by rw [h00]; exact a4, fun l hl => ?_, fun l l' q hl hl' => a6 l l' q (by rw [← h0]; exact hl) (by rw [← h0]; exact hl')⟩
  obtain ⟨q, q1, q2⟩ := a5 l (by rw [← h0]; exact hl)
  exact ⟨q, q1, LO_cg q2 h00 h1 h2⟩
theorem ML_cg (h : ML m M A) (h0 : A'.2.2 1 = A.2.2 1) (h00 : A'.2.2 2 = A.2.2 2) (h1 : ∀ c, (10 ≤ c ∧ c < 13) ∨ (20 ≤ c ∧ c < 23) → A'.1 c = A.1 c) (h2 : A'.2.1 10 = A.2.1 10) : ML m M A' := by
  unfold ML
  rw [h0, h00, h1 10 (by omega), h1 11 (by omega), h1 12 (by omega), h1 20 (by omega), h1 21 (by omega), h1 22 (by omega), h2]
  exact h
theorem DO_cg (h : DO a M A) (h0 : A'.2.2 3 = A.2.2 3) (h1 : ∀ c, c < 7 → ∀ o, o < 8 → A'.1 c (121 + o) = A.1 c (121 + o)) (h2 : ∀ o, o < 8 → A'.2.1 0 (121 + o) = A.2.1 0 (121 + o)) (h3 : A'.1 50 = A.1 50) : DO a M A' := by
  obtain ⟨a1, a2, a3, a4⟩ := h
  refine ⟨by rw [h0]; exact a1, by rw [h0]; exact a2, fun o ho => ?_, fun o o' q q' r ho ho' => a4 o o' q q' r (by rw [← h0]; exact ho) (by rw [← h0]; exact ho')⟩
  rw [h0] at ho
  obtain ⟨q, r, q1, o1, o2, o3, o4, o5, o6, o7, o8, o9⟩ := a3 o ho
  exact ⟨q, r, q1, o1, o2, o3, by rw [h3]; exact o4, o5, o6, EO_cg (fun c hc => h1 c hc o (by omega)) o7, by rw [h2 o (by omega)]; exact o8, o9⟩
theorem MO_cg (h : MO m M A) (h0 : A'.2.2 3 = A.2.2 3) (h1 : ∀ c, c < 7 → ∀ o, o < 8 → A'.1 c (121 + o) = A.1 c (121 + o)) (h2 : ∀ c, c < 7 → ∀ o, o < 8 → A'.2.1 c (121 + o) = A.2.1 c (121 + o)) (h3 : A'.1 50 = A.1 50) : MO m M A' := by
  obtain ⟨a1, a2, a3⟩ := h
  refine ⟨by rw [h0]; exact a1, by rw [h0]; exact a2, fun o ho => ?_⟩
  rw [h0] at ho
  obtain ⟨q1, q2, q3, q4⟩ := a3 o ho
  exact ⟨MR_cg (fun c hc => h1 c hc o (by omega)) q1, HR_cg (fun c hc => h1 c hc o (by omega)) (fun c hc => h2 c hc o (by omega)) q2, by rw [h1 0 (by omega) o (by omega)]; exact q3, by rw [h3]; exact q4⟩
theorem DC_cg (h : DC a M A) (h1 : ∀ c, 30 ≤ c → c < 35 → A'.1 c = A.1 c) (h2 : A'.2.1 30 = A.2.1 30) : DC a M A' := by
  intro k hk
  rw [h1 30 (by omega) (by omega), h1 31 (by omega) (by omega), h1 32 (by omega) (by omega), h1 33 (by omega) (by omega), h1 34 (by omega) (by omega), h2]
  exact h k hk
theorem MC_cg (h : MC m M A) (h1 : ∀ c, 30 ≤ c → c < 35 → A'.1 c = A.1 c) (h2 : A'.2.1 30 = A.2.1 30) : MC m M A' := by
  intro k hk
  rw [h1 30 (by omega) (by omega), h1 31 (by omega) (by omega), h1 32 (by omega) (by omega), h1 33 (by omega) (by omega), h1 34 (by omega) (by omega), h2]
  exact h k hk
theorem DD_cg (h : DD a M A) (h1 : A'.1 40 = A.1 40) (h2 : A'.1 41 = A.1 41) : DD a M A' := by
  intro j hj
  rw [h1, h2]; exact h j hj
theorem MD_cg (h : MD m M A) (h1 : A'.1 40 = A.1 40) (h2 : A'.1 41 = A.1 41) : MD m M A' := by
  intro j hj
  rw [h1, h2]; exact h j hj
end CG
/-! the model's parts, under a change outside of their places -/
section MK2
variable {P : Nat → Nat → Prop} {M M' : Mm} {m : Nat} {A : Ab}
theorem MW_keep (h : MW m M) (hz : m + 33 ≤ ddZ M) (u : Un P M M') (h1 : ∀ k, k ≠ 0 → k ≠ 1 → k ≠ 16 → k ≠ 21 → k ≠ 32 → k ≠ 35 → ¬ P m k) : MW m M' := by
  have b2 : ∀ q ∈ mw_tab, q.2.1 < 33 ∧ q.1 ≠ 0 ∧ q.1 ≠ 1 ∧ q.1 ≠ 16 ∧ q.1 ≠ 21 ∧ q.1 ≠ 32 ∧ q.1 ≠ 35 := by decide
  refine ⟨by rw [u.T (by omega)]; exact h.1, fun q hq => ?_⟩
  obtain ⟨c0, c1, c2, c3, c4, c5, c6⟩ := b2 q hq
  rw [u.R (by omega) (h1 _ c1 c2 c3 c4 c5 c6), u.T (by omega), u.N (by omega)]
  exact h.2 q hq
theorem MK_keep (h : MK m M A) (hz : m + 33 ≤ ddZ M) (u : Un P M M') (h1 : ¬ P m 0) : MK m M' A := by
  unfold MK; rw [u.I (by omega) h1]; exact h
theorem MD_keep (h : MD m M A) (hz : m + 33 ≤ ddZ M) (u : Un P M M') (h1 : ∀ j, j < 16 → ¬ P (m + 29) j ∧ ¬ P (m + 30) j) : MD m M' A := by
  intro j hj
  rw [u.I (by omega) (h1 j hj).1, u.I (by omega) (h1 j hj).2]; exact h j hj
theorem MC_keep (h : MC m M A) (hz : m + 33 ≤ ddZ M) (u : Un P M M') (h1 : ∀ o j, 22 ≤ o → o < 28 → ¬ P (m + o) j) : MC m M' A := by
  intro k hk
  obtain ⟨c1, c2, c3, c4, c5, c6⟩ := h k hk
  rw [u.I (by omega) (h1 27 k (by omega) (by omega)), u.I (by omega) (h1 26 k (by omega) (by omega)), u.I (by omega) (h1 22 k (by omega) (by omega)), u.I (by omega) (h1 25 k (by omega) (by omega)), u.I (by omega) (h1 23 k (by omega) (by omega))]
  exact ⟨c1, c2, c3, c4, c5, fun i hi => by rw [u.I (by omega) (h1 24 _ (by omega) (by omega))]; exact c6 i hi⟩
theorem MR_keep2 {G : Nat → Nat → Nat} {j : Nat} (h : MR m M G j) (hz : m + 33 ≤ ddZ M) (u : Un P M M') (h1 : ∀ o, 1 ≤ o → o < 15 → ¬ P (m + o) j) : MR m M' G j := by
  unfold MR
  rw [u.I (by omega) (h1 1 (by omega) (by omega)), u.I (by omega) (h1 3 (by omega) (by omega)), u.I (by omega) (h1 4 (by omega) (by omega)), u.I (by omega) (h1 5 (by omega) (by omega)), u.I (by omega) (h1 6 (by omega) (by omega)), u.I (by omega) (h1 7 (by omega) (by omega))]
  exact h
theorem HR_keep {j : Nat} (h : HR m M A j) (hz : m + 33 ≤ ddZ M) (u : Un P M M') (h1 : ∀ o, 1 ≤ o → o < 15 → ¬ P (m + o) j) : HR m M' A j := by
  unfold HR
  rw [u.I (by omega) (h1 2 (by omega) (by omega)), u.I (by omega) (h1 8 (by omega) (by omega)), u.I (by omega) (h1 9 (by omega) (by omega)), u.I (by omega) (h1 10 (by omega) (by omega)), u.I (by omega) (h1 11 (by omega) (by omega)), u.I (by omega) (h1 12 (by omega) (by omega)), u.I (by omega) (h1 13 (by omega) (by omega)), u.L (by omega) (h1 14 (by omega) (by omega))]
  exact h
theorem ME_keep (h : ME m M A) (hz : m + 33 ≤ ddZ M) (u : Un P M M') (h0 : ¬ P m 1) (h1 : ∀ o j, 1 ≤ o → o < 15 → j < 120 → ¬ P (m + o) j) : ME m M' A :=
  ⟨h.1, by rw [u.I (by omega) h0]; exact h.2.1, fun e he => ⟨MR_keep2 (h.2.2 e he).1 hz u (fun o h3 h4 => h1 o e h3 h4 (by have := h.1; omega)), HR_keep (h.2.2 e he).2 hz u (fun o h3 h4 => h1 o e h3 h4 (by have := h.1; omega))⟩⟩
theorem ML_keep (h : ML m M A) (hz : m + 33 ≤ ddZ M) (u : Un P M M') (h0 : ¬ P m 16 ∧ ¬ P m 21) (h1 : ∀ o j, 15 ≤ o → o < 22 → ¬ P (m + o) j) : ML m M' A := by
  obtain ⟨a1, a2, a3, a4, a5, a6⟩ := h
  refine ⟨a1, by rw [u.I (by omega) h0.1]; exact a2, a3, by rw [u.I (by omega) h0.2]; exact a4, fun l hl => ?_, fun k hk => ?_⟩
  · rw [u.I (by omega) (h1 15 l (by omega) (by omega)), u.L (by omega) (h1 16 l (by omega) (by omega)), u.I (by omega) (h1 17 l (by omega) (by omega)), u.I (by omega) (h1 18 l (by omega) (by omega))]
    exact a5 l hl
  · rw [u.I (by omega) (h1 19 k (by omega) (by omega)), u.I (by omega) (h1 20 k (by omega) (by omega)), u.I (by omega) (h1 21 k (by omega) (by omega))]
    exact a6 k hk
theorem MO_keep (h : MO m M A) (hz : m + 33 ≤ ddZ M) (u : Un P M M') (h0 : ¬ P m 35) (h1 : ∀ o j, 1 ≤ o → o < 15 → 121 ≤ j → ¬ P (m + o) j) (h2 : ∀ j, ¬ P (m + 31) j) : MO m M' A :=
  ⟨h.1, by rw [u.I (by omega) h0]; exact h.2.1, fun o ho => ⟨MR_keep2 (h.2.2 o ho).1 hz u (fun c h3 h4 => h1 c _ h3 h4 (by omega)), HR_keep (h.2.2 o ho).2.1 hz u (fun c h3 h4 => h1 c _ h3 h4 (by omega)), (h.2.2 o ho).2.2.1, by rw [u.I (by omega) (h2 o)]; exact (h.2.2 o ho).2.2.2⟩⟩
end MK2
