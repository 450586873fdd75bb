/-! THE DESK's fixed cells a .. a+31; the model m = a+32 .. a+64; what comes later from a+65 on -/
def dw_T : List (Nat × Nat) := [(0, 11), (1, 7), (2, 25), (3, 9), (4, 5), (5, 26), (6, 23), (7, 1), (8, 1), (9, 1), (10, 1), (11, 10), (12, 24), (13, 2), (14, 2), (15, 2), (16, 2), (17, 2), (18, 2), (19, 2), (20, 2), (21, 2), (22, 2), (23, 2), (24, 2), (25, 2), (26, 2), (27, 2), (28, 2), (29, 27), (30, 20), (31, 21)]
def dw_R : List (Nat × Nat × Nat) := [(0, 0, 1), (0, 1, 4), (0, 2, 6), (0, 3, 11), (1, 0, 2), (1, 4, 3), (4, 0, 5), (6, 0, 7), (6, 1, 8), (6, 2, 9), (6, 3, 10), (11, 0, 1), (11, 1, 12), (11, 2, 29), (11, 4, 30), (11, 5, 31), (12, 0, 13), (12, 1, 14), (12, 2, 15), (12, 3, 16), (12, 4, 17), (12, 5, 18), (12, 6, 19), (12, 7, 20), (12, 8, 21), (12, 9, 22), (12, 10, 23), (12, 11, 24), (12, 12, 25), (12, 13, 26), (12, 14, 27), (12, 15, 28)]
def dw_N : List (Nat × Nat) := [(2, 120), (5, 300), (6, 4), (12, 16), (29, 8), (30, 249), (31, 249)]
def DW (a : Nat) (M : Mm) : Prop := (∀ q ∈ dw_T, ddT M (a + q.1) = q.2) ∧ (∀ q ∈ dw_R, ddR M (a + q.1) q.2.1 = some (a + q.2.2)) ∧ (∀ q ∈ dw_N, ddN M (a + q.1) = q.2) ∧ (∀ j, j < 16 → ddI M (a + 13 + j) 0 = nI j) ∧ a + 65 ≤ ddZ M
/-! what differs between two memories: the places P of the old cells, and new cells -/
def Un (P : Nat → Nat → Prop) (M M' : Mm) : Prop := ddZ M ≤ ddZ M' ∧ ∀ b, b < ddZ M → ddT M' b = ddT M b ∧ ddN M' b = ddN M b ∧ ∀ k, ¬ P b k → ddI M' b k = ddI M b k ∧ ddL M' b k = ddL M b k ∧ ddR M' b k = ddR M b k
theorem Un.rf {P : Nat → Nat → Prop} {M : Mm} : Un P M M := ⟨Nat.le_refl _, fun _ _ => ⟨rfl, rfl, fun _ _ => ⟨rfl, rfl, rfl⟩⟩⟩
theorem Un.tr {P Q : Nat → Nat → Prop} {M M' M'' : Mm} (h : Un P M M') (h2 : Un Q M' M'') : Un (fun b k => P b k ∨ Q b k) M M'' := by
  refine ⟨Nat.le_trans h.1 h2.1, fun b hb => ?_⟩
  obtain ⟨a1, a2, a3⟩ := h.2 b hb
  obtain ⟨b1, b2, b3⟩ := h2.2 b (Nat.lt_of_lt_of_le hb h.1)
  refine ⟨b1.trans a1, b2.trans a2, fun k hk => ?_⟩
  obtain ⟨c1, c2, c3⟩ := a3 k (fun q => hk (Or.inl q))
  obtain ⟨d1, d2, d3⟩ := b3 k (fun q => hk (Or.inr q))
  exact ⟨d1.trans c1, d2.trans c2, d3.trans c3⟩
theorem Un.wk {P Q : Nat → Nat → Prop} {M M' : Mm} (h : Un P M M') (hPQ : ∀ b k, b < ddZ M → P b k → Q b k) : Un Q M M' := ⟨h.1, fun b hb => ⟨(h.2 b hb).1, (h.2 b hb).2.1, fun k hk => (h.2 b hb).2.2 k (fun q => hk (hPQ b k hb q))⟩⟩
theorem Un.sI {M : Mm} {x j : Nat} {v : Int32} : Un (fun b k => b = x ∧ k = j) M (suI M x j v) := ⟨Nat.le_refl _, fun b _ => ⟨rfl, rfl, fun k hk => ⟨by rw [gI_I, if_neg hk], rfl, rfl⟩⟩⟩
theorem Un.sL {M : Mm} {x j : Nat} {v : Int64} : Un (fun b k => b = x ∧ k = j) M (suL M x j v) := ⟨Nat.le_refl _, fun b _ => ⟨rfl, rfl, fun k hk => ⟨rfl, by rw [gL_L, if_neg hk], rfl⟩⟩⟩
theorem Un.sR {M : Mm} {x j : Nat} {v : Option Nat} : Un (fun b k => b = x ∧ k = j) M (suR M x j v) := ⟨Nat.le_refl _, fun b _ => ⟨rfl, rfl, fun k hk => ⟨rfl, rfl, by rw [gR_R, if_neg hk]⟩⟩⟩
theorem Un.sN {M : Mm} {t l : Nat} : Un (fun _ _ => False) M (suN M t l) := by
  refine ⟨Nat.le_succ _, fun b hb => ?_⟩
  have hne : ¬ b = ddZ M := by omega
  exact ⟨by rw [gT_N, if_neg hne], by rw [gN_N, if_neg hne], fun k _ => ⟨by rw [gI_N, if_neg hne], by rw [gL_N, if_neg hne], by rw [gR_N, if_neg hne]⟩⟩
/-! THE STATE in numbers: .1 by column and place: 0..6 entries (kind, prefix, its figures, set, least, most, first), 10..12 lines (block, figures, first day), 20..22 portings (line, day, carrier), 30..34 calls (begun, over, day, how many, figures), 40, 41 demand, 50 cost; .2.1 as ints: 0..6 entries (area, end, came of, changed, rest, off, other), 10 lines' end, 30 calls' answer; .2.2 counts: 0 entries 1 lines 2 portings 3 options 4 clock -/
abbrev Ab : Type := (Nat → Nat → Nat) × (Nat → Nat → Int32) × (Nat → Nat)
def DK (a : Nat) (M : Mm) (A : Ab) : Prop := ddI M a 4 = nI (A.2.2 4)
def MK (m : Nat) (M : Mm) (A : Ab) : Prop := ddI M m 0 = nI (A.2.2 4)
def DD (a : Nat) (M : Mm) (A : Ab) : Prop := ∀ j, j < 16 → ddI M (a + 13 + j) 1 = nI (A.1 40 j) ∧ ddI M (a + 13 + j) 2 = nI (A.1 41 j)
def MD (m : Nat) (M : Mm) (A : Ab) : Prop := ∀ j, j < 16 → ddI M (m + 29) j = nI (A.1 40 j) ∧ ddI M (m + 30) j = nI (A.1 41 j)
def DC (a : Nat) (M : Mm) (A : Ab) : Prop := ∀ k, k < 4 → ddI M (a + 7 + k) 0 = nI (A.1 30 k) ∧ ddI M (a + 7 + k) 1 = nI (A.1 31 k) ∧ ddI M (a + 7 + k) 2 = nI (A.1 32 k) ∧ ddI M (a + 7 + k) 3 = A.2.1 30 k ∧ ddI M (a + 7 + k) 4 = nI (A.1 33 k) ∧ ddL M (a + 7 + k) 5 = lN (A.1 34 k)
def MC (m : Nat) (M : Mm) (A : Ab) : Prop := ∀ k, k < 4 → ddI M (m + 27) k = nI (A.1 30 k) ∧ ddI M (m + 26) k = nI (A.1 31 k) ∧ ddI M (m + 22) k = nI (A.1 32 k) ∧ ddI M (m + 25) k = A.2.1 30 k ∧ ddI M (m + 23) k = nI (A.1 33 k) ∧ ∀ i, i < A.1 33 k → ddI M (m + 24) (16 * k + i) = nI (dg_ (A.1 34 k) (A.1 33 k) i)
/-- the entry that a number tells -/
def pt_ (a : Nat) (M : Mm) (x : Int32) : Option Nat := if x = -1 then none else ddR M (a + 2) (Int32.toNatClampNeg x)
def lb_ (v : Int64) (j : Nat) : Bool := v.toBitVec.getLsbD j
def ck_ (v1 v2 : Int64) (j : Nat) : Bool := if j < 64 then lb_ v1 j else lb_ v2 (j - 64)
/-- an Entry object of the plan -/
def EX (a : Nat) (M : Mm) (q : Nat) (A : Ab) (e : Nat) : Prop := ddI M q 1 = A.2.1 0 e ∧ ddI M q 9 = nI e ∧ ddI M q 10 = A.2.1 1 e ∧ ddI M q 11 = A.2.1 2 e ∧ ddI M q 12 = A.2.1 3 e ∧ ddR M q 13 = pt_ a M (A.2.1 6 e) ∧ ddR M q 14 = pt_ a M (A.2.1 4 e) ∧ ddR M q 15 = (if A.1 0 e = 3 then pt_ a M (A.2.1 0 e) else none) ∧ ∀ j, j < 120 → ck_ (ddL M q 16) (ddL M q 17) j = (decide (e < j) && (decide (j < A.2.2 0) && clB A.1 e j))
def nw_ (a : Nat) (M : Mm) (q : Nat) : Prop := a + 65 ≤ q ∧ q < ddZ M
def fx_ (a : Nat) (M : Mm) (q : Nat) : Prop := ∀ f, ddR M q 8 = some f → nw_ a M f
def DE (a : Nat) (M : Mm) (A : Ab) : Prop := A.2.2 0 ≤ 120 ∧ ddI M (a + 1) 1 = nI (A.2.2 0) ∧ ∀ e, e < A.2.2 0 → ∃ q, ddR M (a + 2) e = some q ∧ nw_ a M q ∧ fx_ a M q ∧ EO M q A.1 e ∧ EX a M q A e
/-- how many numbers a block has -/
def nu_ (G : Nat → Nat → Nat) (j : Nat) : Nat := ((List.range 10).filter (fun f => (G 3 j).testBit f)).length * 10 ^ (G 4 j - G 2 j - 1)
def HR (m : Nat) (M : Mm) (A : Ab) (j : Nat) : Prop := ddI M (m + 2) j = A.2.1 0 j ∧ ddI M (m + 8) j = A.2.1 1 j ∧ ddI M (m + 9) j = A.2.1 2 j ∧ ddI M (m + 10) j = A.2.1 3 j ∧ ddI M (m + 11) j = A.2.1 4 j ∧ ddI M (m + 12) j = A.2.1 5 j ∧ ddI M (m + 13) j = A.2.1 6 j ∧ (A.1 0 j = 0 → ddL M (m + 14) j = lN (nu_ A.1 j))
def ME (m : Nat) (M : Mm) (A : Ab) : Prop := A.2.2 0 ≤ 120 ∧ ddI M m 1 = nI (A.2.2 0) ∧ ∀ e, e < A.2.2 0 → MR m M A.1 e ∧ HR m M A e
/-- the portings of a line, the last first -/
def ch_ (a : Nat) (M : Mm) (A : Ab) (l : Nat) : Nat → Option Nat → Prop
  | 0, o => o = none
  | k + 1, o => if A.1 20 k = l then ∃ p, o = some p ∧ nw_ a M p ∧ ddT M p = 8 ∧ ddI M p 0 = nI (A.1 22 k) ∧ ddI M p 1 = nI (A.1 21 k) ∧ ch_ a M A l k (ddR M p 2) else ch_ a M A l k o
def LO (a : Nat) (M : Mm) (q : Nat) (A : Ab) (l : Nat) : Prop := nw_ a M q ∧ ddT M q = 4 ∧ ddR M q 0 = ddR M (a + 2) (A.1 10 l) ∧ ddI M q 1 = nI (A.1 11 l) ∧ ddI M q 2 = nI (2 ^ dg_ (A.1 11 l) (A.1 4 (A.1 10 l) - A.1 2 (A.1 10 l)) 0) ∧ ddI M q 3 = nI (A.1 12 l) ∧ ddI M q 4 = A.2.1 10 l ∧ ch_ a M A l (A.2.2 2) (ddR M q 5)
def DL (a : Nat) (M : Mm) (A : Ab) : Prop := A.2.2 1 ≤ 300 ∧ ddI M (a + 4) 1 = nI (A.2.2 1) ∧ A.2.2 2 ≤ 500 ∧ ddI M (a + 4) 2 = nI (A.2.2 2) ∧ (∀ l, l < A.2.2 1 → ∃ q, ddR M (a + 5) l = some q ∧ LO a M q A l) ∧ ∀ l l' q, l < A.2.2 1 → l' < A.2.2 1 → ddR M (a + 5) l = some q → ddR M (a + 5) l' = some q → l = l'
def ML (m : Nat) (M : Mm) (A : Ab) : Prop := A.2.2 1 ≤ 300 ∧ ddI M m 16 = nI (A.2.2 1) ∧ A.2.2 2 ≤ 500 ∧ ddI M m 21 = nI (A.2.2 2) ∧ (∀ l, l < A.2.2 1 → ddI M (m + 15) l = nI (A.1 10 l) ∧ ddL M (m + 16) l = lN (A.1 11 l) ∧ ddI M (m + 17) l = nI (A.1 12 l) ∧ ddI M (m + 18) l = A.2.1 10 l) ∧ ∀ k, k < A.2.2 2 → ddI M (m + 19) k = nI (A.1 20 k) ∧ ddI M (m + 20) k = nI (A.1 21 k) ∧ ddI M (m + 21) k = nI (A.1 22 k)
/-- an Option object and its Entry, which is in no plan -/
def OO (a : Nat) (M : Mm) (q r : Nat) (A : Ab) (o : Nat) : Prop := nw_ a M q ∧ ddT M q = 6 ∧ ddR M q 0 = some r ∧ ddI M q 1 = nI (A.1 50 o) ∧ nw_ a M r ∧ fx_ a M r ∧ EO M r A.1 (121 + o) ∧ ddI M r 1 = A.2.1 0 (121 + o) ∧ ddI M r 9 = -1 ∧ ddI M r 10 = -1 ∧ ddI M r 11 = -1 ∧ ddI M r 12 = -1 ∧ ddR M r 13 = none ∧ ddR M r 14 = none ∧ ddR M r 15 = none ∧ ddL M r 16 = 0 ∧ ddL M r 17 = 0
def DO (a : Nat) (M : Mm) (A : Ab) : Prop := A.2.2 3 ≤ 8 ∧ ddI M (a + 11) 3 = nI (A.2.2 3) ∧ (∀ o, o < A.2.2 3 → ∃ q r, ddR M (a + 29) o = some q ∧ OO a M q r A o) ∧ ∀ o o' q q' r, o < A.2.2 3 → o' < A.2.2 3 → ddR M (a + 29) o = some q → ddR M (a + 29) o' = some q' → ddR M q 0 = some r → ddR M q' 0 = some r → o = o'
def MO (m : Nat) (M : Mm) (A : Ab) : Prop := A.2.2 3 ≤ 8 ∧ ddI M m 35 = nI (A.2.2 3) ∧ ∀ o, o < A.2.2 3 → MR m M A.1 (121 + o) ∧ HR m M A (121 + o) ∧ A.1 0 (121 + o) = 0 ∧ ddI M (m + 31) o = nI (A.1 50 o)
/-- what holds of the numbers -/
def WA (A : Ab) : Prop := A.2.2 4 ≤ 20000 ∧ (∀ j, j < 16 → A.1 40 j ≤ 1000000000 ∧ A.1 41 j ≤ 1000000) ∧
  (∀ k, k < 4 → A.1 30 k ≤ 1 ∧ A.1 31 k ≤ 1 ∧ A.1 32 k ≤ 20000 ∧ A.1 33 k ≤ 15 ∧ (A.1 30 k = 1 → 10 ^ A.1 33 k ≤ A.1 34 k ∧ A.1 34 k < 2 * 10 ^ A.1 33 k) ∧ (A.1 33 k = 15 → A.1 31 k = 1) ∧ (A.1 30 k = 0 → A.1 33 k = 0)) ∧
  (∀ e, e < A.2.2 0 → (A.2.1 1 e = -1 ∨ ∃ d : Nat, A.2.1 1 e = nI d ∧ A.1 6 e < d ∧ d ≤ 21000) ∧ (A.1 0 e = 0 → ∃ z : Nat, A.2.1 0 e = nI z ∧ z < 16) ∧
    ((A.2.1 3 e = -1 ∧ A.2.1 6 e = -1 ∧ A.2.1 4 e = -1) ∨ (A.1 0 e = 0 ∧ ∃ d o s : Nat, A.2.1 3 e = nI d ∧ d ≤ 20000 ∧ A.2.1 6 e = nI o ∧ e < o ∧ o < A.2.2 0 ∧ A.2.1 5 e = nI s ∧ s < 1024 ∧ A.1 0 o = 0 ∧ A.1 3 o = s ∧ A.1 6 o = d ∧ A.1 4 o - A.1 2 o = A.1 4 e - A.1 2 e ∧
      ((A.2.1 4 e = -1 ∧ A.1 3 e = s) ∨ ∃ r : Nat, A.2.1 4 e = nI r ∧ e < r ∧ r < A.2.2 0 ∧ A.1 0 r = 0 ∧ A.1 6 r = d ∧ A.1 4 r - A.1 2 r = A.1 4 e - A.1 2 e ∧ ∀ f, f < 10 → (A.1 3 r).testBit f = ((A.1 3 e).testBit f && !s.testBit f)))) ∧
    (A.1 0 e = 3 → ∃ b : Nat, A.2.1 0 e = nI b ∧ b < A.2.2 0 ∧ A.1 0 b = 0 ∧ A.1 3 b = A.1 3 e ∧ A.1 6 b ≤ A.1 6 e ∧ A.1 4 b - A.1 2 b = A.1 4 e - A.1 2 e)) ∧
  (∀ l, l < A.2.2 1 → A.1 10 l < A.2.2 0 ∧ A.1 0 (A.1 10 l) = 0 ∧ A.1 11 l < 2 ^ 31 ∧ isF (A.1 11 l) (A.1 4 (A.1 10 l) - A.1 2 (A.1 10 l)) ∧ (A.1 3 (A.1 10 l)).testBit (dg_ (A.1 11 l) (A.1 4 (A.1 10 l) - A.1 2 (A.1 10 l)) 0) = true ∧ A.1 6 (A.1 10 l) ≤ A.1 12 l ∧ A.1 12 l ≤ A.2.2 4 ∧ (A.2.1 10 l = -1 ∨ ∃ d : Nat, A.2.1 10 l = nI d ∧ d ≤ 20000)) ∧
  (∀ k, k < A.2.2 2 → A.1 21 k ≤ A.2.2 4 ∧ A.1 22 k ≤ 99 ∧ A.1 20 k < A.2.2 1) ∧ (∀ k k', k ≤ k' → k' < A.2.2 2 → A.1 21 k ≤ A.1 21 k') ∧
  (∀ o, o < A.2.2 3 → A.1 50 o ≤ 1000000 ∧ (∃ z : Nat, A.2.1 0 (121 + o) = nI z ∧ z < 16) ∧ A.2.1 1 (121 + o) = -1)
def DS (a : Nat) (M : Mm) (A : Ab) : Prop := DW a M ∧ DK a M A ∧ DD a M A ∧ DC a M A ∧ DE a M A ∧ DL a M A ∧ DO a M A
def MS (m : Nat) (M : Mm) (A : Ab) : Prop := MW m M ∧ MK m M A ∧ MD m M A ∧ MC m M A ∧ ME m M A ∧ ML m M A ∧ MO m M A
def SS (a : Nat) (M : Mm) (A : Ab) : Prop := DS a M A ∧ MS (a + 32) M A ∧ WA A
