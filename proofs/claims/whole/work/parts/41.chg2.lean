/-! sets of figures -/
def rsN (so s : Nat) : Nat := so &&& (1023 ^^^ s)
theorem tb_hi {so i : Nat} (h : so < 1024) (hi : 10 ≤ i) : so.testBit i = false := Nat.testBit_lt_two_pow (Nat.lt_of_lt_of_le h (by
  have : (2 : Nat) ^ 10 ≤ 2 ^ i := Nat.pow_le_pow_right (by decide) hi
  omega))
theorem rs_bit {so s f : Nat} (hso : so < 1024) : (rsN so s).testBit f = (so.testBit f && !s.testBit f) := by
  unfold rsN
  rw [Nat.testBit_and, Nat.testBit_xor]
  rcases Nat.lt_or_ge f 10 with h | h
  · rw [tb_1023 h, Bool.true_xor]
  · rw [tb_hi hso h]; rfl
theorem rs_lt {so s : Nat} (hso : so < 1024) : rsN so s < 1024 := Nat.lt_of_le_of_lt Nat.and_le_left hso
theorem rs_int {so s : Nat} (hso : so < 1024) : nI so &&& (nI s ^^^ -1) = nI (rsN so s) := by
  apply Int32.toBitVec_inj.1
  show BitVec.ofNat 32 so &&& (BitVec.ofNat 32 s ^^^ BitVec.allOnes 32) = BitVec.ofNat 32 (rsN so s)
  apply BitVec.eq_of_getLsbD_eq
  intro i hi
  simp only [BitVec.getLsbD_and, BitVec.getLsbD_xor, BitVec.getLsbD_ofNat, BitVec.getLsbD_allOnes, hi, decide_true, Bool.true_and, rs_bit hso, Bool.xor_true]
theorem rs_0 {so s : Nat} (hso : so < 1024) (hsub : ∀ f, s.testBit f = true → so.testBit f = true) : rsN so s = 0 ↔ so = s := by
  constructor
  · intro h
    apply Nat.eq_of_testBit_eq
    intro i
    have := rs_bit (s := s) (f := i) hso
    rw [h, Nat.zero_testBit] at this
    cases h1 : so.testBit i with
    | false =>
      cases h2 : s.testBit i with
      | false => rfl
      | true => rw [hsub i h2] at h1; cases h1
    | true =>
      rw [h1, Bool.true_and] at this
      cases h2 : s.testBit i with
      | true => rfl
      | false => rw [h2] at this; cases this
  · intro h
    apply Nat.eq_of_testBit_eq
    intro i
    rw [rs_bit hso, h, Nat.zero_testBit]
    cases s.testBit i <;> rfl
theorem sub_nat {x : Int32} {so : Nat} (hso : so < 1024) (h : x &&& (nI so ^^^ -1) = 0) : ∃ s, s < 1024 ∧ x = nI s ∧ ∀ f, s.testBit f = true → so.testBit f = true := by
  have hb : ∀ i, x.toBitVec.getLsbD i = true → so.testBit i = true := fun i hi => by
    have h1 := congrArg (fun y : Int32 => y.toBitVec.getLsbD i) h
    have h2 : (x.toBitVec &&& (BitVec.ofNat 32 so ^^^ BitVec.allOnes 32)).getLsbD i = (0#32).getLsbD i := h1
    have hi32 : i < 32 := BitVec.lt_of_getLsbD hi
    simp only [BitVec.getLsbD_and, BitVec.getLsbD_xor, BitVec.getLsbD_ofNat, BitVec.getLsbD_allOnes, hi32, decide_true, Bool.true_and, hi, Bool.xor_true, BitVec.getLsbD_zero] at h2
    simpa using h2
  refine ⟨x.toBitVec.toNat, ?_, ?_, fun f hf => hb f hf⟩
  · apply Nat.lt_pow_two_of_testBit (n := 10)
    intro i hi
    cases hc : x.toBitVec.toNat.testBit i with
    | false => rfl
    | true =>
      have := hb i hc
      rw [tb_hi hso hi] at this
      cases this
  · apply Int32.toBitVec_inj.1
    show x.toBitVec = BitVec.ofNat 32 x.toBitVec.toNat
    rw [BitVec.ofNat_toNat]
    exact (BitVec.setWidth_eq x.toBitVec).symm
/-! the plan after a change -/
def tl_ (en : Int32) (day days : Nat) : Int32 := if en = -1 then nI (day + days) else if en ≤ nI (day + days) then en else nI (day + days)
def vR_ (A : Ab) (e s day : Nat) : Nat → Nat := vB_ 0 (A.1 1 e) (A.1 2 e) (rsN (A.1 3 e) s) (A.1 4 e) (A.1 5 e) day
def vP_ (A : Ab) (e s day : Nat) : Nat → Nat := vB_ 3 (A.1 1 e) (A.1 2 e) s (A.1 4 e) (A.1 5 e) day
def B1_ (A : Ab) (e s day : Nat) : Ab := if rsN (A.1 3 e) s = 0 then A else add_ A (vR_ A e s day) (A.2.1 0 e) (A.2.1 1 e) (nI e)
def mi_ (A : Ab) (e s : Nat) : Nat := if rsN (A.1 3 e) s = 0 then A.2.2 0 else A.2.2 0 + 1
def B2_ (A : Ab) (e : Nat) (v : Nat → Nat) (ar : Int32) : Ab := add_ (B1_ A e (v 3) (v 6)) v ar (A.2.1 1 e) (nI e)
def B3_ (A : Ab) (e : Nat) (v : Nat → Nat) (ar : Int32) (days : Nat) : Ab := if days = 0 then B2_ A e v ar else add_ (B2_ A e v ar) (vP_ A e (v 3) (v 6)) (nI (mi_ A e (v 3))) (tl_ (A.2.1 1 e) (v 6) days) (nI e)
def cf_ (A : Ab) (e s day : Nat) : Nat → Int32 := fun c => if c = 1 then nI day else if c = 3 then nI day else if c = 4 then (if rsN (A.1 3 e) s = 0 then -1 else nI (A.2.2 0)) else if c = 5 then nI s else nI (mi_ A e s)
def nA_ (A : Ab) (e : Nat) (v : Nat → Nat) (ar : Int32) (days : Nat) : Ab := md_ (B3_ A e v ar days) e (cf_ A e (v 3) (v 6))
def nd_ (A : Ab) (e s days : Nat) : Nat := 1 + (if rsN (A.1 3 e) s = 0 then 0 else 1) + (if days = 0 then 0 else 1)
section CH
variable {A : Ab} {e : Nat} {v : Nat → Nat} {ar : Int32} {days : Nat}
theorem B1_n : (B1_ A e (v 3) (v 6)).2.2 0 = mi_ A e (v 3) := by
  unfold B1_ mi_
  split
  · rfl
  · exact ad_3
theorem B2_n : (B2_ A e v ar).2.2 0 = mi_ A e (v 3) + 1 := by
  unfold B2_
  rw [ad_3, B1_n]
theorem mi_le : A.2.2 0 ≤ mi_ A e (v 3) := by
  unfold mi_
  split <;> omega
theorem B1_1 {c j : Nat} (h : j < A.2.2 0 ∨ 120 < j ∨ 7 ≤ c) (h120 : A.2.2 0 ≤ 120) : (B1_ A e (v 3) (v 6)).1 c j = A.1 c j := by
  unfold B1_
  split
  · rfl
  · rcases Nat.lt_or_ge c 7 with z | z
    · exact ad_1n (by omega)
    · rw [ad_1c z]
theorem B2_1 {c j : Nat} (h : j < A.2.2 0 ∨ 120 < j ∨ 7 ≤ c) (h120 : mi_ A e (v 3) ≤ 120) : (B2_ A e v ar).1 c j = A.1 c j := by
  have := mi_le (A := A) (e := e) (v := v)
  unfold B2_
  rcases Nat.lt_or_ge c 7 with z | z
  · rw [ad_1n (by rw [B1_n]; omega)]; exact B1_1 h (by omega)
  · rw [ad_1c z]; exact B1_1 h (by omega)
theorem B3_1 {c j : Nat} (h : j < A.2.2 0 ∨ 120 < j ∨ 7 ≤ c) (h120 : A.2.2 0 + nd_ A e (v 3) days ≤ 120) : (B3_ A e v ar days).1 c j = A.1 c j := by
  have hm := mi_le (A := A) (e := e) (v := v)
  have hm2 : mi_ A e (v 3) + 1 ≤ 120 := by
    unfold nd_ at h120
    unfold mi_
    split at h120 <;> rename_i hz <;> simp only [hz, if_true, if_false] <;> omega
  unfold B3_
  split
  · exact B2_1 h (by omega)
  · rename_i hd
    have : mi_ A e (v 3) + 2 ≤ 120 := by
      unfold nd_ at h120
      unfold mi_
      rw [if_neg hd] at h120
      split at h120 <;> rename_i hz <;> simp only [hz, if_true, if_false] <;> omega
    rcases Nat.lt_or_ge c 7 with z | z
    · rw [ad_1n (by rw [B2_n]; omega)]; exact B2_1 h (by omega)
    · rw [ad_1c z]; exact B2_1 h (by omega)
theorem B1_2 {c j : Nat} (h : j < A.2.2 0 ∨ 120 < j ∨ 7 ≤ c) (h120 : A.2.2 0 ≤ 120) : (B1_ A e (v 3) (v 6)).2.1 c j = A.2.1 c j := by
  unfold B1_
  split
  · rfl
  · rcases Nat.lt_or_ge c 7 with z | z
    · exact ad_2n (by omega)
    · rw [ad_2c z]
theorem B2_2 {c j : Nat} (h : j < A.2.2 0 ∨ 120 < j ∨ 7 ≤ c) (h120 : mi_ A e (v 3) ≤ 120) : (B2_ A e v ar).2.1 c j = A.2.1 c j := by
  have := mi_le (A := A) (e := e) (v := v)
  unfold B2_
  rcases Nat.lt_or_ge c 7 with z | z
  · rw [ad_2n (by rw [B1_n]; omega)]; exact B1_2 h (by omega)
  · rw [ad_2c z]; exact B1_2 h (by omega)
theorem nd_mi (h : A.2.2 0 + nd_ A e (v 3) days ≤ 120) : mi_ A e (v 3) + 1 ≤ 120 ∧ (days ≠ 0 → mi_ A e (v 3) + 2 ≤ 120) := by
  unfold nd_ at h
  unfold mi_
  by_cases hz : rsN (A.1 3 e) (v 3) = 0
  · rw [if_pos hz] at h ⊢
    refine ⟨by omega, fun hd => ?_⟩
    rw [if_neg hd] at h
    omega
  · rw [if_neg hz] at h ⊢
    refine ⟨by omega, fun hd => ?_⟩
    rw [if_neg hd] at h
    omega
theorem B3_2 {c j : Nat} (h : j < A.2.2 0 ∨ 120 < j ∨ 7 ≤ c) (h120 : A.2.2 0 + nd_ A e (v 3) days ≤ 120) : (B3_ A e v ar days).2.1 c j = A.2.1 c j := by
  have hm := mi_le (A := A) (e := e) (v := v)
  obtain ⟨m1, m2⟩ := nd_mi h120
  unfold B3_
  split
  · exact B2_2 h (by omega)
  · rename_i hd
    have := m2 hd
    rcases Nat.lt_or_ge c 7 with z | z
    · rw [ad_2n (by rw [B2_n]; omega)]; exact B2_2 h (by omega)
    · rw [ad_2c z]; exact B2_2 h (by omega)
theorem B3_3 {i : Nat} (h : i ≠ 0) : (B3_ A e v ar days).2.2 i = A.2.2 i := by
  have h1 : (B1_ A e (v 3) (v 6)).2.2 i = A.2.2 i := by
    unfold B1_
    split
    · rfl
    · exact ad_3n h
  have h2 : (B2_ A e v ar).2.2 i = A.2.2 i := by
    unfold B2_
    rw [ad_3n h, h1]
  unfold B3_
  split
  · exact h2
  · rw [ad_3n h, h2]
theorem B3_n : (B3_ A e v ar days).2.2 0 = mi_ A e (v 3) + 1 + (if days = 0 then 0 else 1) := by
  unfold B3_
  split
  · exact B2_n
  · rw [ad_3, B2_n]
end CH
theorem GV_R {A : Ab} {e s day : Nat} (hG : GW A.1 e) (hk : A.1 0 e = 0) (hd : day ≤ 20000) (hr : rsN (A.1 3 e) s ≠ 0) : GV (vR_ A e s day) := by
  obtain ⟨g0, g1, g2, g3, g4, g5, g6, g7, g8, g9, g10, g11⟩ := hG
  have := g9 (Or.inl hk)
  exact GV_of (by omega) g1 g2 g3 (rs_lt g4) g5 g6 hd g8 (fun _ => ⟨by omega, by omega, by omega, by omega⟩) (fun z => by omega) (fun z => by omega)
theorem GV_P {A : Ab} {e s day : Nat} (hG : GW A.1 e) (hk : A.1 0 e = 0) (hd : day ≤ 20000) (hs : 0 < s) (hs2 : s < 1024) : GV (vP_ A e s day) := by
  obtain ⟨g0, g1, g2, g3, g4, g5, g6, g7, g8, g9, g10, g11⟩ := hG
  have := g9 (Or.inl hk)
  exact GV_of (by omega) g1 g2 g3 hs2 g5 g6 hd g8 (fun _ => ⟨hs, by omega, by omega, by omega⟩) (fun z => by omega) (fun z => by omega)
