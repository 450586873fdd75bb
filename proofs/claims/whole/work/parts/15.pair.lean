/-! fa_and out of the kit's rows to paste -/
theorem fa_and (a b : Nat) : nI a &&& nI b = nI (a &&& b) := by
  apply Int32.toBitVec_inj.1
  show BitVec.ofNat 32 a &&& BitVec.ofNat 32 b = BitVec.ofNat 32 (a &&& b)
  apply BitVec.eq_of_getLsbD_eq
  intro i hi
  simp [hi]
def b2_ (b : Bool) : Int32 := if b then 1 else 0
theorem b2_01 (b : Bool) : b2_ b = 0 ∨ b2_ b = 1 := by cases b <;> simp [b2_]
theorem b2_0 (b : Bool) : b2_ b = 0 ↔ b = false := by cases b <;> simp [b2_]
theorem b2_n (b : Bool) : ¬ b2_ b = 0 ↔ b = true := by cases b <;> simp [b2_]
theorem and_ne {a b : Nat} (ha : a < 1024) : nI a &&& nI b = 0 ↔ a &&& b = 0 := by
  rw [fa_and, nI_ne0' (Nat.lt_of_le_of_lt Nat.and_le_left (by omega))]
def begB (G : Nat → Nat → Nat) (e o : Nat) : Bool := decide (G 4 e ≤ G 5 o) && (List.range (G 4 e)).all (fun i => decide (mayN G e i &&& mayN G o i ≠ 0))
def clB (G : Nat → Nat → Nat) (e o : Nat) : Bool := (List.range 8).all (fun i => decide (mayN G e i &&& mayN G o i ≠ 0))
theorem all_lt {n : Nat} {p : Nat → Bool} : (List.range n).all p = true ↔ ∀ i, i < n → p i = true := by
  rw [List.all_eq_true]
  constructor
  · intro h i hi
    exact h i (List.mem_range.mpr hi)
  · intro h i hi
    exact h i (List.mem_range.mp hi)
theorem all_no {n : Nat} {p : Nat → Bool} {i : Nat} (hi : i < n) (h : p i = false) : (List.range n).all p = false := by
  cases hq : (List.range n).all p with
  | false => rfl
  | true => rw [all_lt.mp hq i hi] at h; cases h
theorem sp_begins_lp {m : Nat} {M : Mm} {G : Nat → Nat → Nat} {e o : Nat} {post : Int32 → Mm → Prop} (hM : MW m M) (he : MR m M G e) (ho : MR m M G o) (he2 : e < 130) (ho2 : o < 130) (hb : G 4 e ≤ G 5 o) (h : post (b2_ (begB G e o)) M) :
    ∀ (fu i : Nat), i ≤ G 4 e → (∀ k, k < i → mayN G e k &&& mayN G o k ≠ 0) → G 4 e - i < fu → DX11_begins_19 post fu m (nI e) (nI o) (nI i) M := by
  have hG := he.2.2.2.2.2.2
  have hG4 : G 4 e ≤ 15 := by have := hG.2.2.2.2.2; omega
  obtain ⟨a1, a2, a3⟩ := hM.f6
  intro fu
  induction fu with
  | zero => intro i _ _ q; omega
  | succ fu ih =>
    intro i hi hno hf
    show BX11_begins_19 (DX11_begins_19 post fu) post m (nI e) (nI o) (nI i) M
    unfold BX11_begins_19
    rw [nI_cl (by omega), nI_1]
    refine ⟨hM.1, m + 5, a1, a2, by rw [a3]; exact nI_in2 he2 (by decide), ?_⟩
    rw [he.2.2.2.1]
    refine ⟨fun c => ?_, fun c => ?_⟩
    · rw [nI_leI (by omega) (by omega)] at c
      have e1 : begB G e o = true := by
        unfold begB
        rw [Bool.and_eq_true, decide_eq_true_eq]
        exact ⟨hb, all_lt.mpr fun k hk => decide_eq_true (hno k (by omega))⟩
      rw [e1] at h
      exact h
    · rw [nI_leI (by omega) (by omega)] at c
      refine sp_may hM he he2 (by omega) ⟨hM.1, sp_may hM ho ho2 (by omega) ⟨fun c1 => ?_, fun c1 => ?_⟩⟩
      · rw [and_ne (mayN_lt hG i)] at c1
        exact ih (i + 1) (by omega) (fun k hk => by
          rcases Nat.lt_or_ge k i with q | q
          · exact hno k q
          · rw [show k = i by omega]; exact c1) (by omega)
      · rw [and_ne (mayN_lt hG i)] at c1
        have e1 : begB G e o = false := by
          unfold begB
          rw [Bool.and_eq_false_iff]
          exact Or.inr (all_no (i := i) (by omega) (decide_eq_false (fun z => z c1)))
        rw [e1] at h
        exact h
theorem sp_begins {m : Nat} {M : Mm} {G : Nat → Nat → Nat} {e o : Nat} {post : Int32 → Mm → Prop} (hM : MW m M) (he : MR m M G e) (ho : MR m M G o) (he2 : e < 130) (ho2 : o < 130) (h : post (b2_ (begB G e o)) M) : PX11_begins m (nI e) (nI o) M post := by
  have hG := he.2.2.2.2.2.2
  have hG2 := ho.2.2.2.2.2.2
  have hG4 : G 4 e ≤ 15 := by have := hG.2.2.2.2.2; omega
  have hG5 : G 5 o ≤ 15 := by have := hG2.2.2.2.2.2; omega
  obtain ⟨a1, a2, a3⟩ := hM.f6
  obtain ⟨b1, b2, b3⟩ := hM.f7
  unfold PX11_begins
  refine ⟨hM.1, m + 5, a1, a2, by rw [a3]; exact nI_in2 he2 (by decide), m + 6, b1, b2, by rw [b3]; exact nI_in2 ho2 (by decide), ?_⟩
  rw [nI_cl (by omega), nI_cl (by omega), he.2.2.2.1, ho.2.2.2.2.1]
  refine ⟨fun c => ?_, fun c => ?_⟩
  · rw [nI_leI (by omega) (by omega)] at c
    exact ⟨17, sp_begins_lp hM he ho he2 ho2 c h 17 0 (by omega) (fun k hk => by omega) (by omega)⟩
  · rw [nI_leI (by omega) (by omega)] at c
    have e1 : begB G e o = false := by unfold begB; rw [decide_eq_false c]; rfl
    rw [e1] at h
    exact h
theorem mayN_far {G : Nat → Nat → Nat} {j i : Nat} (h : GW G j) (hi : G 4 j ≤ i) : mayN G j i = 1023 := by
  obtain ⟨h0, -, -, -, -, -, -, -, h4, a, b, c⟩ := h
  unfold mayN
  rw [if_neg (by omega), if_neg]
  intro q
  rcases (by omega : G 0 j = 0 ∨ G 0 j = 1 ∨ G 0 j = 2 ∨ G 0 j = 3) with k | k | k | k
  · have := a (Or.inl k); omega
  · exact q.2 (b k).1
  · exact q.2 (c k).1
  · have := a (Or.inr k); omega
theorem and_1023 {x : Nat} (h : x < 1024) (h0 : x ≠ 0) : 1023 &&& x ≠ 0 := by
  have e : 1023 &&& x = x := by
    rw [Nat.and_comm, show (1023 : Nat) = 2 ^ 10 - 1 from rfl, Nat.and_two_pow_sub_one_eq_mod]
    exact Nat.mod_eq_of_lt h
  rw [e]; exact h0
theorem clB_sym (G : Nat → Nat → Nat) (e o : Nat) : clB G e o = clB G o e := by
  unfold clB
  congr 1
  funext i
  rw [Nat.and_comm]
theorem beg_cl {G : Nat → Nat → Nat} {e o : Nat} (he : GW G e) (ho : GW G o) (h : begB G e o = true) : clB G e o = true := by
  unfold begB at h
  rw [Bool.and_eq_true] at h
  have h2 := all_lt.mp h.2
  refine all_lt.mpr fun i hi => ?_
  rcases Nat.lt_or_ge i (G 4 e) with q | q
  · exact h2 i q
  · rw [mayN_far he q]
    exact decide_eq_true (and_1023 (mayN_lt ho i) (mayN_pos i))
theorem cl_may {G : Nat → Nat → Nat} {e o : Nat} (he : GW G e) (ho : GW G o) (h : clB G e o = true) (i : Nat) : mayN G e i &&& mayN G o i ≠ 0 := by
  rcases Nat.lt_or_ge i 8 with q | q
  · exact of_decide_eq_true (all_lt.mp h i q)
  · have h7 := he.2.2.2.1
    have e1 : mayN G e i = 1023 := by unfold mayN; rw [if_neg (by omega), if_neg (by omega)]
    rw [e1]
    exact and_1023 (mayN_lt ho i) (mayN_pos i)
theorem pair_cl {G : Nat → Nat → Nat} {e o : Nat} (he : GW G e) (ho : GW G o) : (begB G e o || begB G o e) = clB G e o := by
  cases hc : clB G e o with
  | false =>
    cases h1 : begB G e o with
    | true => rw [beg_cl he ho h1] at hc; cases hc
    | false =>
      cases h2 : begB G o e with
      | true => rw [clB_sym, beg_cl ho he h2] at hc; cases hc
      | false => rfl
  | true =>
    have hm := cl_may he ho hc
    have g1 := he.2.2.2.2.2.1
    have g2 := ho.2.2.2.2.2.1
    rcases Nat.lt_or_ge (G 5 o) (G 4 e) with q | q
    · have e2 : begB G o e = true := by
        unfold begB
        rw [Bool.and_eq_true, decide_eq_true_eq]
        exact ⟨by omega, all_lt.mpr fun i _ => decide_eq_true (by rw [Nat.and_comm]; exact hm i)⟩
      rw [e2, Bool.or_true]
    · have e2 : begB G e o = true := by
        unfold begB
        rw [Bool.and_eq_true, decide_eq_true_eq]
        exact ⟨q, all_lt.mpr fun i _ => decide_eq_true (hm i)⟩
      rw [e2, Bool.true_or]
theorem sp_isPair {m : Nat} {M : Mm} {G : Nat → Nat → Nat} {e o : Nat} {post : Int32 → Mm → Prop} (hM : MW m M) (he : MR m M G e) (ho : MR m M G o) (he2 : e < 130) (ho2 : o < 130) (h : post (b2_ (clB G e o)) M) : PX11_isPair m (nI e) (nI o) M post := by
  unfold PX11_isPair
  rw [← pair_cl he.2.2.2.2.2.2 ho.2.2.2.2.2.2] at h
  refine ⟨hM.1, sp_begins hM he ho he2 ho2 ⟨fun c => ?_, fun c => ⟨hM.1, sp_begins hM ho he ho2 he2 ⟨fun c1 => ?_, fun c1 => ?_⟩⟩⟩⟩
  · rw [(b2_n _).mp c, Bool.true_or] at h
    exact h
  · rw [(b2_0 _).mp c, (b2_0 _).mp c1] at h
    exact h
  · rw [(b2_n _).mp c1, Bool.or_true] at h
    exact h
/-! in force -/
def inB (f e d : Int32) : Bool := !decide (d < f) && (decide (e = -1) || decide (d < e))
theorem inB_cases {f e d : Int32} {P : Int32 → Prop} (h : P (b2_ (inB f e d))) : (d < f → P 0) ∧ (¬ d < f → ((e = -1 → P 1) ∧ (¬ e = -1 → ((e ≤ d → P 0) ∧ (¬ e ≤ d → P 1))))) := by
  refine ⟨fun c => ?_, fun c => ⟨fun c1 => ?_, fun c1 => ⟨fun c2 => ?_, fun c2 => ?_⟩⟩⟩
  · have e1 : inB f e d = false := by unfold inB; rw [decide_eq_true c]; rfl
    rw [e1] at h
    exact h
  · have e1 : inB f e d = true := by unfold inB; rw [decide_eq_false c, decide_eq_true c1]; rfl
    rw [e1] at h
    exact h
  · have c3 : ¬ d < e := by rw [xi_le] at c2; rw [xi_lt]; omega
    have e1 : inB f e d = false := by unfold inB; rw [decide_eq_false c, decide_eq_false c1, decide_eq_false c3]; rfl
    rw [e1] at h
    exact h
  · have c3 : d < e := by rw [xi_le] at c2; rw [xi_lt]; omega
    have e1 : inB f e d = true := by unfold inB; rw [decide_eq_false c, decide_eq_false c1, decide_eq_true c3]; rfl
    rw [e1] at h
    exact h
theorem sp_isForce {m : Nat} {M : Mm} {e : Nat} {d : Int32} {post : Int32 → Mm → Prop} (hM : MW m M) (he2 : e < 130) (h : post (b2_ (inB (ddI M (m + 7) e) (ddI M (m + 8) e) d)) M) : PX11_isForce m (nI e) d M post := by
  obtain ⟨a1, a2, a3⟩ := hM.f8
  obtain ⟨b1, b2, b3⟩ := hM.f9
  have h2 := inB_cases (P := fun r => post r M) h
  unfold PX11_isForce
  rw [nI_cl (by omega)]
  have hin : vp_in (nI e) (ddN M (m + 8)) := by rw [b3]; exact nI_in2 he2 (by decide)
  exact ⟨hM.1, m + 7, a1, a2, by rw [a3]; exact nI_in2 he2 (by decide), h2.1, fun c => ⟨m + 8, b1, b2, hin, (h2.2 c).1, fun c1 => ⟨hin, (h2.2 c).2 c1⟩⟩⟩
