theorem isF_nat {a s : Nat} : isF (a : Int) s ↔ 10 ^ s ≤ a ∧ a < 2 * 10 ^ s := by
  unfold isF
  have e : ((10 ^ s : Nat) : Int) = (10 : Int) ^ s := by simp
  omega
/-- the figure at a place -/
def dg_ (w c i : Nat) : Nat := w / 10 ^ (c - 1 - i) % 10
theorem dg_lt (w c i : Nat) : dg_ w c i < 10 := Nat.mod_lt _ (by decide)
theorem digs_eq : ∀ (s a b : Nat), (10 ^ s ≤ a ∧ a < 2 * 10 ^ s) → (10 ^ s ≤ b ∧ b < 2 * 10 ^ s) → (∀ i, i < s → dg_ a s i = dg_ b s i) → a = b := by
  intro s
  induction s with
  | zero => intro a b ha hb _; simp at ha hb; omega
  | succ s ih =>
    intro a b ha hb h
    rw [Nat.pow_succ] at ha hb
    have h1 := ih (a / 10) (b / 10) (by omega) (by omega) (fun i hi => by
      have := h i (by omega)
      unfold dg_ at this ⊢
      rw [Nat.div_div_eq_div_mul, Nat.div_div_eq_div_mul, ← Nat.pow_succ']
      rw [show s + 1 - 1 - i = (s - 1 - i) + 1 by omega] at this
      exact this)
    have h2 := h s (by omega)
    unfold dg_ at h2
    simp at h2
    omega
theorem isF_div {w c j : Nat} (h : 10 ^ c ≤ w ∧ w < 2 * 10 ^ c) (hj : j ≤ c) : 10 ^ (c - j) ≤ w / 10 ^ j ∧ w / 10 ^ j < 2 * 10 ^ (c - j) := by
  have e : 10 ^ c = 10 ^ (c - j) * 10 ^ j := by rw [← Nat.pow_add]; congr 1; omega
  have hp : 0 < 10 ^ j := Nat.pow_pos (by decide)
  constructor
  · rw [Nat.le_div_iff_mul_le hp, ← e]
    exact h.1
  · rw [Nat.div_lt_iff_lt_mul hp, Nat.mul_assoc, ← e]
    exact h.2
theorem dg_div {w c j i : Nat} (hj : j ≤ c) (hi : i < c - j) : dg_ (w / 10 ^ j) (c - j) i = dg_ w c i := by
  unfold dg_
  rw [Nat.div_div_eq_div_mul, ← Nat.pow_add]
  congr 3
  omega
/-- the figures begin a number of the entry, or are one -/
def bgB (G : Nat → Nat → Nat) (j w c : Nat) : Bool := (List.range c).all (fun i => (mayN G j i).testBit (dg_ w c i))
def ftB (G : Nat → Nat → Nat) (j w c : Nat) : Bool := decide (c ≤ G 5 j) && bgB G j w c
theorem tb_1023 {d : Nat} (h : d < 10) : Nat.testBit 1023 d = true := by
  have : ∀ d, d < 10 → Nat.testBit 1023 d = true := by decide +kernel
  exact this d h
theorem tb_pow {a d : Nat} : Nat.testBit (2 ^ a) d = decide (a = d) := Nat.testBit_two_pow
theorem ands_tb {x d : Nat} (hx : x < 1024) (hd : d < 10) : nI x &&& nI (2 ^ d) = 0 ↔ x.testBit d = false := by
  have h2 : (2 : Nat) ^ d < 1024 := by
    have : (2 : Nat) ^ d ≤ 2 ^ 9 := Nat.pow_le_pow_right (by decide) (by omega)
    omega
  rw [and_ne hx]
  constructor
  · intro h
    have h1 : (x &&& 2 ^ d).testBit d = false := by rw [h]; simp
    rw [Nat.testBit_and, tb_pow] at h1
    simpa using h1
  · intro h
    apply Nat.eq_of_testBit_eq
    intro i
    rw [Nat.testBit_and, tb_pow]
    by_cases hi : d = i
    · subst hi; simp [h]
    · simp [hi]
theorem bg_pre {G : Nat → Nat → Nat} {j w c s : Nat} (hG : GW G j) (hw : 10 ^ c ≤ w ∧ w < 2 * 10 ^ c) (hs : s ≤ c) (hs2 : s ≤ G 2 j) : (w / 10 ^ (c - s) = G 1 j / 10 ^ (G 2 j - s)) ↔ ∀ i, i < s → (mayN G j i).testBit (dg_ w c i) = true := by
  have hF := isF_nat.mp hG.2.1
  have a1 := isF_div (j := c - s) hw (by omega)
  have a2 := isF_div (j := G 2 j - s) hF (by omega)
  rw [show c - (c - s) = s by omega] at a1
  rw [show G 2 j - (G 2 j - s) = s by omega] at a2
  have d1 : ∀ i, i < s → dg_ (w / 10 ^ (c - s)) s i = dg_ w c i := fun i hi => by
    have := dg_div (w := w) (c := c) (j := c - s) (i := i) (by omega) (by omega)
    rwa [show c - (c - s) = s by omega] at this
  have d2 : ∀ i, i < s → dg_ (G 1 j / 10 ^ (G 2 j - s)) s i = dg_ (G 1 j) (G 2 j) i := fun i hi => by
    have := dg_div (w := G 1 j) (c := G 2 j) (j := G 2 j - s) (i := i) (by omega) (by omega)
    rwa [show G 2 j - (G 2 j - s) = s by omega] at this
  have m1 : ∀ i, i < s → mayN G j i = 2 ^ dg_ (G 1 j) (G 2 j) i := fun i hi => by unfold mayN dg_; rw [if_pos (by omega)]
  constructor
  · intro h i hi
    rw [m1 i hi, tb_pow, ← d2 i hi, ← h, d1 i hi]
    simp
  · intro h
    refine digs_eq s _ _ a1 a2 fun i hi => ?_
    have := h i hi
    rw [m1 i hi, tb_pow, decide_eq_true_eq] at this
    rw [d1 i hi, d2 i hi, this]
/-- an Entry object at q that is these numbers -/
def EO (M : Mm) (q : Nat) (G : Nat → Nat → Nat) (j : Nat) : Prop := ddT M q = 3 ∧ ddI M q 0 = nI (G 0 j) ∧ ddI M q 2 = nI (G 1 j) ∧ ddI M q 3 = nI (G 2 j) ∧ ddI M q 4 = nI (G 3 j) ∧ ddI M q 5 = nI (G 4 j) ∧ ddI M q 6 = nI (G 5 j) ∧ ddI M q 7 = nI (G 6 j) ∧ GW G j ∧ ∃ f, ddR M q 8 = some f ∧ ddT M f = 20 ∧ ddN M f = 8 ∧ ∀ i, i < 8 → ddI M f i = nI (mayN G j i)
theorem se_isInForce {M : Mm} {q : Nat} {d : Int32} {post : Int32 → Mm → Prop} (hT : ddT M q = 3) (h : post (b2_ (inB (ddI M q 7) (ddI M q 10) d)) M) : PX2_isInForce q d M post := ⟨hT, inB_cases (P := fun r => post r M) h⟩
theorem se_figuresAt {M : Mm} {q : Nat} {G : Nat → Nat → Nat} {j i : Nat} {post : Int32 → Mm → Prop} (hE : EO M q G j) (hi : i < 100) (h : post (nI (mayN G j i)) M) : PX2_figuresAt q (nI i) M post := by
  obtain ⟨hT, -, -, -, -, -, -, -, hG, f, f1, f2, f3, f4⟩ := hE
  unfold PX2_figuresAt
  refine ⟨fun c => ?_, fun c => ⟨hT, f, f1, f2, fun c1 => ?_, fun c1 => ?_⟩⟩
  · exfalso
    rw [xi_lt, nI_T (by omega)] at c
    have c : (i : Int) < 0 := c
    omega
  · rw [f3] at c1
    have c1 : (8 : Int) ≤ (nI i).toInt := (xi_le _ _).mp c1
    rw [nI_T (by omega)] at c1
    have h7 := hG.2.2.2.1
    have e : mayN G j i = 1023 := by unfold mayN; rw [if_neg (by omega), if_neg (by omega)]
    rw [e] at h
    exact h
  · rw [f3] at c1
    have c2 : i < 8 := by
      rcases Nat.lt_or_ge i 8 with z | z
      · exact z
      · exact absurd ((xi_le _ _).mpr (by rw [nI_T (n := i) (by omega)]; show (8 : Int) ≤ _; omega)) c1
    rw [nI_cl (by omega), f4 i c2, f3]
    exact ⟨nI_in2 c2 (by decide), h⟩
theorem se_clashesWith_lp {M : Mm} {q r : Nat} {G : Nat → Nat → Nat} {e o : Nat} {post : Int32 → Mm → Prop} (he : EO M q G e) (ho : EO M r G o) (h : post (b2_ (clB G e o)) M) :
    ∀ (fu i : Nat), i ≤ 8 → (∀ k, k < i → mayN G e k &&& mayN G o k ≠ 0) → 8 - i < fu → DX2_clashesWith_2 post fu q (some r) (nI i) M := by
  intro fu
  induction fu with
  | zero => intro i _ _ z; omega
  | succ fu ih =>
    intro i hi hno hf
    show BX2_clashesWith_2 (DX2_clashesWith_2 post fu) post q (some r) (nI i) M
    unfold BX2_clashesWith_2
    rw [nI_1]
    refine ⟨fun c => ?_, fun c => ⟨he.1, se_figuresAt he (by omega) ⟨r, rfl, ho.1, se_figuresAt ho (by omega) ⟨fun c1 => ?_, fun c1 => ?_⟩⟩⟩⟩
    · have c : (7 : Int) < (nI i).toInt := (xi_lt _ _).mp c
      rw [nI_T (by omega)] at c
      have e1 : clB G e o = true := all_lt.mpr fun k hk => decide_eq_true (hno k (by omega))
      rw [e1] at h
      exact h
    · have c2 : i < 8 := by
        rcases Nat.lt_or_ge i 8 with z | z
        · exact z
        · exact absurd ((xi_lt _ _).mpr (by rw [nI_T (n := i) (by omega)]; show (7 : Int) < _; omega)) c
      rw [and_ne (mayN_lt he.2.2.2.2.2.2.2.2.1 i)] at c1
      exact ih (i + 1) (by omega) (fun k hk => by
        rcases Nat.lt_or_ge k i with z | z
        · exact hno k z
        · rw [show k = i by omega]; exact c1) (by omega)
    · have c2 : i < 8 := by
        rcases Nat.lt_or_ge i 8 with z | z
        · exact z
        · exact absurd ((xi_lt _ _).mpr (by rw [nI_T (n := i) (by omega)]; show (7 : Int) < _; omega)) c
      rw [and_ne (mayN_lt he.2.2.2.2.2.2.2.2.1 i)] at c1
      have e1 : clB G e o = false := all_no (i := i) c2 (decide_eq_false (fun z => z c1))
      rw [e1] at h
      exact h
theorem se_clashesWith {M : Mm} {q r : Nat} {G : Nat → Nat → Nat} {e o : Nat} {post : Int32 → Mm → Prop} (he : EO M q G e) (ho : EO M r G o) (h : post (b2_ (clB G e o)) M) : PX2_clashesWith q (some r) M post :=
  ⟨9, se_clashesWith_lp he ho h 9 0 (by omega) (fun k hk => by omega) (by omega)⟩
theorem se_fits {M : Mm} {q : Nat} {G : Nat → Nat → Nat} {j w c : Nat} {post : Int32 → Mm → Prop} (hE : EO M q G j) (hw : 10 ^ c ≤ w ∧ w < 2 * 10 ^ c) (hc : c ≤ 16) (h : post (b2_ (ftB G j w c)) M) : PX2_fits q (lN w) (nI c) M post := by
  obtain ⟨hT, e0, e2, e3, e4, e5, e6, e7, hG, f, f1, f2, f3, f4⟩ := id hE
  have hPw := hG.w
  have hp7 := hG.2.2.2.1
  have hw63 : w < 2 ^ 63 := by
    have : 10 ^ c ≤ 10 ^ 16 := Nat.pow_le_pow_right (by decide) hc
    have : (2 : Nat) * 10 ^ 16 < 2 ^ 63 := by decide
    omega
  have h15 := hG.2.2.2.2.2.2.1
  unfold PX2_fits
  rw [e6, e3]
  refine ⟨hT, fun c1 => ?_, fun c1 => ?_⟩
  · rw [nI_leI (by omega) (by omega)] at c1
    have key : ∀ s, s ≤ c → s ≤ G 2 j → (s = c ∨ s = G 2 j) → PX10_withoutLast (lN w) (nI c - nI s) M (fun r5 M6 => ddT M6 q = 3 ∧ (PX10_withoutLast (Int32.toInt64 (ddI M6 q 2)) ((ddI M6 q 3) - nI s) M6 (fun r8 M9 => ((lg_cmp r5 r8) = 0 → (ddT M9 q = 3 ∧ ((nI c ≤ (ddI M9 q 3) → (post 1 M9)) ∧ (¬ nI c ≤ (ddI M9 q 3) → (PX2_figuresAt q (ddI M9 q 3) M9 (fun r13 M14 => ddT M14 q = 3 ∧ (PX10_figureBit (lN w) (nI c) (ddI M14 q 3) M14 (fun r16 M17 => ((r13 &&& r16) = 0 → (post 0 M17)) ∧ (¬ (r13 &&& r16) = 0 → (post 1 M17)))))))))) ∧ (¬ (lg_cmp r5 r8) = 0 → (post 0 M9))))) := by
      intro s s1 s2 s3
      rw [pk_sub s1]
      refine sp_withoutLast hw63 (by omega) ⟨hT, ?_⟩
      rw [e2, e3, pk_sub s2, i2l_nI (by omega)]
      refine sp_withoutLast (by omega) (by omega) ⟨fun c2 => ⟨hT, fun c3 => ?_, fun c3 => ?_⟩, fun c2 => ?_⟩
      · rw [xl_eq, pk_lT (Nat.lt_of_le_of_lt (Nat.div_le_self _ _) hw63), pk_lT (Nat.lt_of_le_of_lt (Nat.div_le_self _ _) (by omega))] at c2
        have c2 : w / 10 ^ (c - s) = G 1 j / 10 ^ (G 2 j - s) := by omega
        rw [e3, nI_leI (by omega) (by omega)] at c3
        have es : s = c := by omega
        subst es
        have e1 : ftB G j w s = true := by
          unfold ftB
          rw [decide_eq_true c1, Bool.true_and]
          exact all_lt.mpr ((bg_pre hG hw (by omega) (by omega)).mp c2)
        rw [e1] at h
        exact h
      · rw [xl_eq, pk_lT (Nat.lt_of_le_of_lt (Nat.div_le_self _ _) hw63), pk_lT (Nat.lt_of_le_of_lt (Nat.div_le_self _ _) (by omega))] at c2
        have c2 : w / 10 ^ (c - s) = G 1 j / 10 ^ (G 2 j - s) := by omega
        rw [e3, nI_leI (by omega) (by omega)] at c3
        have es : s = G 2 j := by omega
        subst es
        have hpre := (bg_pre hG hw (by omega) (by omega)).mp c2
        rw [e3]
        refine se_figuresAt hE (by omega) ⟨hT, ?_⟩
        rw [e3]
        refine sp_figureBit hw63 (by omega) (by omega) ?_
        have ed : w / 10 ^ (c - 1 - G 2 j) % 10 = dg_ w c (G 2 j) := rfl
        rw [ed]
        refine ⟨fun c4 => ?_, fun c4 => ?_⟩
        · rw [ands_tb (mayN_lt hG _) (dg_lt _ _ _)] at c4
          have e1 : ftB G j w c = false := by
            unfold ftB
            rw [Bool.and_eq_false_iff]
            exact Or.inr (all_no (i := G 2 j) (by omega) c4)
          rw [e1] at h
          exact h
        · rw [ands_tb (mayN_lt hG _) (dg_lt _ _ _)] at c4
          have e1 : ftB G j w c = true := by
            unfold ftB
            rw [decide_eq_true c1, Bool.true_and]
            refine all_lt.mpr fun i hi => ?_
            rcases (by omega : i < G 2 j ∨ i = G 2 j ∨ G 2 j < i) with z | z | z
            · exact hpre i z
            · rw [z]
              simpa using c4
            · have e9 : mayN G j i = 1023 := by unfold mayN; rw [if_neg (by omega), if_neg (by omega)]
              rw [e9]
              exact tb_1023 (dg_lt _ _ _)
          rw [e1] at h
          exact h
      · rw [xl_eq, pk_lT (Nat.lt_of_le_of_lt (Nat.div_le_self _ _) hw63), pk_lT (Nat.lt_of_le_of_lt (Nat.div_le_self _ _) (by omega))] at c2
        have c2 : ¬ w / 10 ^ (c - s) = G 1 j / 10 ^ (G 2 j - s) := by omega
        have e1 : ftB G j w c = false := by
          cases hb : ftB G j w c with
          | false => rfl
          | true =>
            exfalso
            unfold ftB at hb
            rw [Bool.and_eq_true] at hb
            exact c2 ((bg_pre hG hw (by omega) (by omega)).mpr fun i hi => all_lt.mp hb.2 i (by omega))
        rw [e1] at h
        exact h
    unfold PJ9_min_7cf53
    refine ⟨fun c2 => ?_, fun c2 => ?_⟩
    · rw [nI_ltI (by omega) (by omega)] at c2
      exact key (G 2 j) (by omega) (by omega) (Or.inr rfl)
    · rw [nI_ltI (by omega) (by omega)] at c2
      exact key c (by omega) (by omega) (Or.inl rfl)
  · rw [nI_leI (by omega) (by omega)] at c1
    have e1 : ftB G j w c = false := by unfold ftB; rw [decide_eq_false c1]; rfl
    rw [e1] at h
    exact h
