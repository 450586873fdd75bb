/-! weeks -/
def wbN (d : Nat) : Nat := (d + 6) / 7
def so_ (nx t w : Nat) : Nat := if w < t ∧ t < nx then t else nx
def blk_ (A : Ab) (x : Int32) (e : Nat) : Bool := decide (A.1 0 e = 0) && decide (A.2.1 0 e = x)
def ed_ (A : Ab) (e : Nat) : Nat := (A.2.1 1 e).toInt.toNat
def ntN (A : Ab) (x : Int32) (w : Nat) : Nat → Nat
  | 0 => 2001
  | e + 1 => if blk_ A x e then (if A.2.1 1 e = -1 then so_ (ntN A x w e) (wbN (A.1 6 e)) w else so_ (so_ (ntN A x w e) (wbN (A.1 6 e)) w) (wbN (ed_ A e)) w) else ntN A x w e
theorem nt_s {A : Ab} {x : Int32} {w e : Nat} : ntN A x w (e + 1) = if blk_ A x e then (if A.2.1 1 e = -1 then so_ (ntN A x w e) (wbN (A.1 6 e)) w else so_ (so_ (ntN A x w e) (wbN (A.1 6 e)) w) (wbN (ed_ A e)) w) else ntN A x w e := rfl
theorem so_le {nx t w : Nat} : so_ nx t w ≤ nx := by unfold so_; split <;> omega
theorem so_lt {nx t w : Nat} (h : w < nx) : w < so_ nx t w := by unfold so_; split <;> omega
theorem so_t {nx t w : Nat} (h : w < t) : so_ nx t w ≤ t := by unfold so_; split <;> omega
theorem nt_le1 {A : Ab} {x : Int32} {w e : Nat} : ntN A x w (e + 1) ≤ ntN A x w e := by
  rw [nt_s]
  split
  · split
    · exact so_le
    · exact Nat.le_trans so_le so_le
  · exact Nat.le_refl _
theorem nt_mono {A : Ab} {x : Int32} {w e : Nat} : ∀ {n : Nat}, e ≤ n → ntN A x w n ≤ ntN A x w e
  | 0, h => by rw [show e = 0 by omega]; exact Nat.le_refl _
  | n + 1, h => by
    rcases Nat.lt_or_ge e (n + 1) with q | q
    · exact Nat.le_trans nt_le1 (nt_mono (by omega))
    · rw [show e = n + 1 by omega]; exact Nat.le_refl _
theorem nt_lt {A : Ab} {x : Int32} {w : Nat} (hw : w < 2001) : ∀ n, w < ntN A x w n
  | 0 => hw
  | n + 1 => by
    have ih := nt_lt (A := A) (x := x) hw n
    rw [nt_s]
    split
    · split
      · exact so_lt ih
      · exact so_lt (so_lt ih)
    · exact ih
theorem nt_2001 {A : Ab} {x : Int32} {w n : Nat} : ntN A x w n ≤ 2001 := nt_mono (e := 0) (by omega)
theorem nt_first {A : Ab} {x : Int32} {w n e : Nat} (he : e < n) (hb : blk_ A x e = true) (h : w < wbN (A.1 6 e)) : ntN A x w n ≤ wbN (A.1 6 e) := by
  refine Nat.le_trans (nt_mono (e := e + 1) (by omega)) ?_
  rw [nt_s, if_pos hb]
  split
  · exact so_t h
  · exact Nat.le_trans so_le (so_t h)
theorem nt_end {A : Ab} {x : Int32} {w n e : Nat} (he : e < n) (hb : blk_ A x e = true) (hn : ¬ A.2.1 1 e = -1) (h : w < wbN (ed_ A e)) : ntN A x w n ≤ wbN (ed_ A e) := by
  refine Nat.le_trans (nt_mono (e := e + 1) (by omega)) ?_
  rw [nt_s, if_pos hb, if_neg hn]
  exact so_t h
theorem wb_nI {d : Nat} (h : d < 2 ^ 20) : (nI d + 7 - 1) / 7 = nI (wbN d) := by
  rw [show (7 : Int32) = nI 7 from rfl, nI_add, show nI (d + 7) - 1 = nI (d + 7 - 1) from pk_sub (b := 1) (by omega), pk_div (by omega) (by omega) (by omega)]
  rfl
theorem se_sooner {nx t w : Nat} {M : Mm} {post : Int32 → Mm → Prop} (h1 : nx < 2 ^ 30) (h2 : t < 2 ^ 30) (h3 : w < 2 ^ 30) (h : post (nI (so_ nx t w)) M) : PX6_sooner (nI nx) (nI t) (nI w) M post := by
  unfold so_ at h
  refine pk_le t w (fun c => ?_) (fun c => pk_le nx t (fun c1 => ?_) (fun c1 => ?_) rfl rfl (by omega) (by omega)) rfl rfl (by omega) (by omega)
  · rw [if_neg (by omega)] at h; exact h
  · rw [if_neg (by omega)] at h; exact h
  · rw [if_pos ⟨c, c1⟩] at h; exact h
theorem end_nat {A : Ab} {e : Nat} (hA : WA A) (he : e < A.2.2 0) (h : ¬ A.2.1 1 e = -1) : A.2.1 1 e = nI (ed_ A e) ∧ ed_ A e ≤ 21000 := by
  rcases (hA.2.2.2.1 e he).1 with z | ⟨u, z1, z2, z3⟩
  · exact absurd z h
  · have : ed_ A e = u := by unfold ed_; rw [z1]; exact toNat_nI (by omega)
    rw [this]; exact ⟨z1, z3⟩
theorem se_nextTurn {a : Nat} {M : Mm} {A : Ab} {x : Int32} {w : Nat} {post : Int32 → Mm → Prop} (hW : DW a M) (hD : DE a M A) (hA : WA A) (hw : w < 2001) (h : post (nI (ntN A x w (A.2.2 0))) M) : PX6_nextTurn (a + 1) x (nI w) M post := by
  have h120 := hD.1
  have t7 : ddT M (a + 1) = 7 := DW_T hW (by decide)
  refine pk_loop (fun fu i (s : Int32) => DX6_nextTurn_7 post fu (a + 1) x (nI w) s (nI i) M) (fun i s => s = nI (ntN A x w i)) (A.2.2 0) 0 2001 (by omega) rfl (fun fu s hs => ?_) (fun fu i s hi hs hk => ?_)
  · show BX6_nextTurn_7 (DX6_nextTurn_7 post fu) post (a + 1) x (nI w) s (nI (A.2.2 0)) M
    exact ⟨t7, pk_le (A.2.2 0) (A.2.2 0) (fun _ => by rw [hs]; exact h) (fun c => by omega) hD.2.1 rfl (by omega) (by omega)⟩
  · show BX6_nextTurn_7 (DX6_nextTurn_7 post fu) post (a + 1) x (nI w) s (nI i) M
    unfold BX6_nextTurn_7
    rw [nI_1]
    have no : blk_ A x i = false → DX6_nextTurn_7 post fu (a + 1) x (nI w) s (nI (i + 1)) M := fun z => hk s (by rw [hs, nt_s, z]; rfl)
    have n1 := nt_2001 (A := A) (x := x) (w := w) (n := i)
    refine ⟨t7, pk_le (A.2.2 0) i (fun c => by omega) (fun _ => se_blockI hW hD hi (fun c => co_none (no (by unfold blk_; rw [decide_eq_false c]; rfl)) rfl) (fun c q hq => co_some q ⟨hq.T, ?_⟩ rfl)) hD.2.1 rfl (by omega) (by omega)⟩
    have hO := hq.2.2.2.1
    have g6 := hO.2.2.2.2.2.2.2.2.1.2.2.2.2.2.2.2.1
    have x10 : ddI M q 10 = A.2.1 1 i := hq.2.2.2.2.2.2.1
    rw [hq.2.2.2.2.1, hO.2.2.2.2.2.2.2.1]
    refine ⟨fun z => no (by unfold blk_; rw [decide_eq_false z, Bool.and_false]), fun z => ?_⟩
    have hb : blk_ A x i = true := by unfold blk_; rw [decide_eq_true c, decide_eq_true z]; rfl
    unfold PX10_weekBehind
    rw [wb_nI (by omega), hs]
    have wb1 : wbN (A.1 6 i) ≤ 20006 := by unfold wbN; omega
    refine se_sooner (by omega) (by omega) (by omega) ⟨hq.T, ?_⟩
    rw [x10]
    refine ⟨fun z1 => ?_, fun z1 => hk _ (by rw [nt_s, if_pos hb, if_pos z1])⟩
    obtain ⟨e1, e2⟩ := end_nat hA hi z1
    have wb2 : wbN (ed_ A i) ≤ 21006 := by unfold wbN; omega
    have sl := so_le (nx := ntN A x w i) (t := wbN (A.1 6 i)) (w := w)
    rw [e1, wb_nI (by omega)]
    exact se_sooner (by omega) (by omega) (by omega) (hk _ (by rw [nt_s, if_pos hb, if_neg z1]))
/-! rooms by weeks -/
theorem sm_cg {f g : Nat → Nat} : ∀ {n : Nat}, (∀ i, i < n → f i = g i) → sm_ f n = sm_ g n
  | 0, _ => rfl
  | n + 1, h => by rw [sm_s, sm_s, sm_cg (fun i hi => h i (by omega)), h n (by omega)]
theorem sm_le {f : Nat → Nat} {b : Nat} : ∀ {n : Nat}, (∀ i, i < n → f i ≤ b) → sm_ f n ≤ n * b
  | 0, _ => Nat.zero_le _
  | n + 1, h => by
    have := sm_le (f := f) (b := b) (n := n) (fun i hi => h i (by omega))
    have := h n (by omega)
    rw [sm_s, Nat.succ_mul]; omega
def rmW (A : Ab) (x : Int32) (w : Nat) : Nat := sm_ (rm_ A x (nI (7 * w))) (A.2.2 0)
def as_ (A : Ab) (j w : Nat) : Nat := A.1 40 j + A.1 41 j * w
theorem inW {A : Ab} {e w : Nat} (hA : WA A) (he : e < A.2.2 0) (h6 : A.1 6 e ≤ 20000) (hw : w < 2 ^ 20) : inF A e (nI (7 * w)) = (decide (wbN (A.1 6 e) ≤ w) && (decide (A.2.1 1 e = -1) || decide (w < wbN (ed_ A e)))) := by
  unfold inF inB
  have e1 : (!decide (nI (7 * w) < nI (A.1 6 e))) = decide (wbN (A.1 6 e) ≤ w) := by
    by_cases h : wbN (A.1 6 e) ≤ w
    · rw [decide_eq_true h, decide_eq_false]
      · rfl
      · rw [nI_ltI (by omega) (by omega)]
        unfold wbN at h; omega
    · rw [decide_eq_false h, decide_eq_true]
      · rfl
      · rw [nI_ltI (by omega) (by omega)]
        unfold wbN at h; omega
  rw [e1]
  congr 1
  by_cases hn : A.2.1 1 e = -1
  · rw [decide_eq_true hn]; rfl
  · obtain ⟨z1, z2⟩ := end_nat hA he hn
    rw [decide_eq_false hn, Bool.false_or, Bool.false_or]
    conv => lhs; rw [z1]
    by_cases h : w < wbN (ed_ A e)
    · rw [decide_eq_true h, decide_eq_true]
      rw [nI_ltI (by omega) (by omega)]
      unfold wbN at h; omega
    · rw [decide_eq_false h, decide_eq_false]
      rw [nI_ltI (by omega) (by omega)]
      unfold wbN at h; omega
theorem rm_const {A : Ab} {x : Int32} {w w' : Nat} (hA : WA A) (hGW : ∀ e, e < A.2.2 0 → GW A.1 e) (h1 : w ≤ w') (h2 : w' < ntN A x w (A.2.2 0)) : rmW A x w' = rmW A x w := by
  have h3 := nt_2001 (A := A) (x := x) (w := w) (n := A.2.2 0)
  refine sm_cg (fun e he => ?_)
  unfold rm_
  have h6 := (hGW e he).2.2.2.2.2.2.2.1
  by_cases hb : blk_ A x e = true
  · have e1 : inF A e (nI (7 * w')) = inF A e (nI (7 * w)) := by
      rw [inW hA he h6 (by omega), inW hA he h6 (by omega)]
      have f1 : decide (wbN (A.1 6 e) ≤ w') = decide (wbN (A.1 6 e) ≤ w) := by
        by_cases h : wbN (A.1 6 e) ≤ w
        · rw [decide_eq_true h, decide_eq_true (by omega : wbN (A.1 6 e) ≤ w')]
        · have := nt_first (w := w) he hb (by omega)
          rw [decide_eq_false h, decide_eq_false (by omega : ¬ wbN (A.1 6 e) ≤ w')]
      rw [f1]
      congr 1
      by_cases hn : A.2.1 1 e = -1
      · rw [decide_eq_true hn]; rfl
      · rw [decide_eq_false hn, Bool.false_or, Bool.false_or]
        by_cases h : w < wbN (ed_ A e)
        · have := nt_end (w := w) he hb hn h
          rw [decide_eq_true h, decide_eq_true (by omega : w' < wbN (ed_ A e))]
        · rw [decide_eq_false h, decide_eq_false (by omega : ¬ w' < wbN (ed_ A e))]
    rw [e1]
  · unfold blk_ at hb
    have hb' : ¬ (A.1 0 e = 0 ∧ A.2.1 0 e = x) := fun z => hb (by rw [decide_eq_true z.1, decide_eq_true z.2]; rfl)
    rw [if_neg (fun z => hb' ⟨z.1, z.2.1⟩), if_neg (fun z => hb' ⟨z.1, z.2.1⟩)]
theorem nu_le {G : Nat → Nat → Nat} {j : Nat} (hG : GW G j) : nu_ G j ≤ 10 ^ 13 := by
  unfold nu_
  rw [fl_ct]
  have h1 : ct_ (fun f => (G 3 j).testBit f) 10 ≤ 10 := ct_le 10
  have g4 := hG.2.2.2.2.2.1
  have g5 := hG.2.2.2.2.2.2.1
  by_cases hk : G 0 j = 0 ∨ G 0 j = 3
  · have := hG.2.2.2.2.2.2.2.2.2.1 hk
    have h2 : 10 ^ (G 4 j - G 2 j - 1) ≤ 10 ^ 12 := Nat.pow_le_pow_right (by decide) (by omega)
    calc ct_ (fun f => (G 3 j).testBit f) 10 * 10 ^ (G 4 j - G 2 j - 1) ≤ 10 * 10 ^ 12 := Nat.mul_le_mul h1 h2
      _ = 10 ^ 13 := by decide
  · have h0 : G 3 j = 0 := by
      have h03 := hG.1
      rcases (by omega : G 0 j = 1 ∨ G 0 j = 2) with k | k
      · exact (hG.2.2.2.2.2.2.2.2.2.2.1 k).1
      · exact (hG.2.2.2.2.2.2.2.2.2.2.2 k).1
    have : ct_ (fun f => (G 3 j).testBit f) 10 = 0 := by
      rw [h0]
      exact ct_0 (fun i _ => Nat.zero_testBit i)
    rw [this, Nat.zero_mul]
    exact Nat.zero_le _
theorem rmW_lt {A : Ab} {x : Int32} {w : Nat} (h120 : A.2.2 0 ≤ 120) (hGW : ∀ e, e < A.2.2 0 → GW A.1 e) : rmW A x w ≤ 120 * 10 ^ 13 := by
  refine Nat.le_trans (sm_le (b := 10 ^ 13) (fun i hi => ?_)) (Nat.mul_le_mul_right _ h120)
  unfold rm_
  split
  · exact nu_le (hGW i hi)
  · exact Nat.zero_le _
theorem as_lt {A : Ab} {j w : Nat} (hA : WA A) (hj : j < 16) (hw : w ≤ 3000) : as_ A j w ≤ 4000000000 := by
  obtain ⟨h1, h2⟩ := hA.2.1 j hj
  unfold as_
  have : A.1 41 j * w ≤ 1000000 * 3000 := Nat.mul_le_mul h2 hw
  omega
theorem as_mono {A : Ab} {j w w' : Nat} (h : w ≤ w') : as_ A j w ≤ as_ A j w' := by
  unfold as_
  have : A.1 41 j * w ≤ A.1 41 j * w' := Nat.mul_le_mul_left _ h
  omega
theorem se_askedIn {a : Nat} {M : Mm} {A : Ab} {j w : Nat} {post : Int64 → Mm → Prop} (hW : DW a M) (hD : DD a M A) (hA : WA A) (hj : j < 16) (hw : w < 2 ^ 30) (h : post (lN (as_ A j w)) M) : PX1_askedIn (a + 13 + j) (nI w) M post := by
  obtain ⟨h1, h2⟩ := hA.2.1 j hj
  have t2 : ddT M (a + 13 + j) = 2 := by
    have := DW_T hW (dwT13 j hj)
    rw [show a + (13 + j) = a + 13 + j by omega] at this
    exact this
  refine ⟨t2, ?_⟩
  rw [(hD j hj).1, (hD j hj).2, i2l_nI (by omega), i2l_nI (by omega), i2l_nI (by omega), lN_mul, lN_add]
  exact h
theorem se_firstAbove {a : Nat} {M : Mm} {A : Ab} {j w R : Nat} {post : Int32 → Mm → Prop} (hW : DW a M) (hD : DD a M A) (hA : WA A) (hj : j < 16) (hw : w ≤ 2000) (hR : R < 2 ^ 60) (h : ∀ f, w ≤ f → f ≤ 2001 → (∀ w', w ≤ w' → w' < f → as_ A j w' ≤ R) → (f < 2001 → R < as_ A j f) → post (nI f) M) : PX1_firstAbove (a + 13 + j) (lN R) (nI w) M post := by
  obtain ⟨h1, h2⟩ := hA.2.1 j hj
  have hal := as_lt (w := w) hA hj (by omega)
  have t2 : ddT M (a + 13 + j) = 2 := by
    have := DW_T hW (dwT13 j hj)
    rw [show a + (13 + j) = a + 13 + j by omega] at this
    exact this
  refine ⟨t2, se_askedIn hW hD hA hj (by omega) ?_⟩
  rw [xl_le, pk_lT (by omega), pk_lT (by omega)]
  refine ⟨fun c => ⟨t2, ?_⟩, fun c => ?_⟩
  · have c : as_ A j w ≤ R := by omega
    rw [(hD j hj).1, (hD j hj).2]
    refine ⟨fun c1 => ⟨?_, ?_⟩, fun c1 => ?_⟩
    · rw [show (0 : Int32) = nI 0 from rfl, nI_ltI (by omega) (by omega)] at c1
      rw [i2l_nI (by omega)]
      intro z
      have := congrArg Int64.toInt z
      rw [pk_lT (by omega)] at this
      have this : ((A.1 41 j : Nat) : Int) = 0 := this
      omega
    · rw [show (0 : Int32) = nI 0 from rfl, nI_ltI (by omega) (by omega)] at c1
      rw [i2l_nI (by omega), i2l_nI (by omega)]
      have hfr : A.1 40 j ≤ R := by unfold as_ at c; omega
      rw [lN_sub hfr, pk_lDiv (by omega) c1 (by omega), lN_1]
      obtain ⟨t, et⟩ : ∃ t, t = (R - A.1 40 j) / A.1 41 j + 1 := ⟨_, rfl⟩
      have htl : t ≤ R + 1 := by
        rw [et]
        have : (R - A.1 40 j) / A.1 41 j ≤ R - A.1 40 j := Nat.div_le_self _ _
        omega
      have key : ∀ w', w' < t ↔ as_ A j w' ≤ R := fun w' => by
        rw [et]
        unfold as_
        rw [Nat.lt_succ_iff, Nat.le_div_iff_mul_le c1, Nat.mul_comm w']
        omega
      have htw : w < t := (key w).mpr c
      rw [← et]
      unfold PJ9_min_f86c9
      rw [xl_gt, pk_lT (by omega)]
      refine ⟨fun c2 => ?_, fun c2 => ?_⟩
      · have c2 : (t : Int) < 2001 := c2
        show post (Int64.toInt32 (lN t)) M
        rw [lN_i]
        exact h t (by omega) (by omega) (fun w' _ h4 => (key w').mp h4) (fun _ => by
          rcases Nat.lt_or_ge R (as_ A j t) with q | q
          · exact q
          · have := (key t).mpr q; omega)
      · have c2 : ¬ (t : Int) < 2001 := c2
        exact h 2001 (by omega) (by omega) (fun w' _ h4 => (key w').mp (by omega)) (fun z => by omega)
    · rw [show (0 : Int32) = nI 0 from rfl, nI_ltI (by omega) (by omega)] at c1
      have h0 : A.1 41 j = 0 := by omega
      refine h 2001 (by omega) (by omega) (fun w' _ _ => ?_) (fun z => by omega)
      unfold as_ at c ⊢
      rw [h0, Nat.zero_mul] at c ⊢
      exact c
  · exact h w (by omega) (by omega) (fun w' h3 h4 => by omega) (fun _ => by omega)
/-! the first week of a shortage -/
def shB (A : Ab) (j : Nat) (x : Int32) (w : Nat) : Bool := decide (rmW A x w < as_ A j w)
def fs_ (A : Ab) (j : Nat) (x : Int32) (c : Nat) : Int32 := ff_ (fun w => decide (c ≤ w) && shB A j x w) 2001
theorem fs_cases (A : Ab) (j : Nat) (x : Int32) (c : Nat) : (fs_ A j x c = -1 ∧ ∀ w, c ≤ w → w ≤ 2000 → as_ A j w ≤ rmW A x w) ∨ ∃ s, c ≤ s ∧ s ≤ 2000 ∧ fs_ A j x c = nI s ∧ rmW A x s < as_ A j s ∧ ∀ w, c ≤ w → w < s → as_ A j w ≤ rmW A x w := by
  rcases ff_cases (f := fun w => decide (c ≤ w) && shB A j x w) (n := 2001) (by omega) with ⟨z1, z2⟩ | ⟨s, z1, z2, z3, z4⟩
  · refine Or.inl ⟨z1, fun w h1 h2 => ?_⟩
    have := z2 w (by omega)
    unfold shB at this
    rw [decide_eq_true h1, Bool.true_and, decide_eq_false_iff_not] at this
    omega
  · unfold shB at z3
    rw [Bool.and_eq_true, decide_eq_true_eq, decide_eq_true_eq] at z3
    refine Or.inr ⟨s, z3.1, by omega, z2, z3.2, fun w h1 h2 => ?_⟩
    have := z4 w h2
    unfold shB at this
    rw [decide_eq_true h1, Bool.true_and, decide_eq_false_iff_not] at this
    omega
theorem se_firstShort {a : Nat} {M : Mm} {A : Ab} {j c : Nat} {post : Int32 → Mm → Prop} (hD : DS a M A) (hA : WA A) (hj : j < 16) (hc : c < 10000) (h : post (fs_ A j (nI j) c) M) : PX9_firstShort (a + 11) (some (a + 13 + j)) (nI c) M post := by
  have hDE := hD.2.2.2.2.1
  have h120 := hDE.1
  have hGW := GW_E hDE
  have hT10 : ddT M (a + 11) = 10 := DW_T hD.1 (by decide)
  have hT7 : ddT M (a + 1) = 7 := DW_T hD.1 (by decide)
  have hR0 : ddR M (a + 11) 0 = some (a + 1) := DW_R hD.1 (by decide)
  have t2 : ddT M (a + 13 + j) = 2 := by
    have := DW_T hD.1 (dwT13 j hj)
    rw [show a + (13 + j) = a + 13 + j by omega] at this
    exact this
  have ea : ddI M (a + 13 + j) 0 = nI j := hD.1.2.2.2.1 j hj
  have lp : ∀ (fu w : Nat), 2001 - w < fu → c ≤ w → w < 10000 → (∀ w', c ≤ w' → w' < w → w' ≤ 2000 → as_ A j w' ≤ rmW A (nI j) w') → DX9_firstShort_2 post fu (a + 11) (some (a + 13 + j)) (nI w) M := by
    intro fu
    induction fu with
    | zero => intro w h1; omega
    | succ fu ih =>
      intro w h1 h2 h3 h4
      show BX9_firstShort_2 (DX9_firstShort_2 post fu) post (a + 11) (some (a + 13 + j)) (nI w) M
      unfold BX9_firstShort_2
      refine pk_lt 2000 w (fun y => ?_) (fun y => ⟨hT10, a + 13 + j, rfl, t2, a + 1, hR0, hT7, ?_⟩) rfl rfl (by omega) (by omega)
      · have : fs_ A j (nI j) c = -1 := by
          rcases fs_cases A j (nI j) c with ⟨z, -⟩ | ⟨s, z1, z2, z3, z4, -⟩
          · exact z
          · have := h4 s z1 (by omega) z2
            omega
        rw [this] at h
        exact h
      · rw [ea]
        have n1 := nt_2001 (A := A) (x := nI j) (w := w) (n := A.2.2 0)
        have n2 := nt_lt (A := A) (x := nI j) (w := w) (by omega) (A.2.2 0)
        have hRl := rmW_lt (A := A) (x := nI j) (w := w) h120 hGW
        refine se_nextTurn hD.1 hDE hA (by omega) ⟨hT10, t2, a + 1, hR0, hT7, ?_⟩
        rw [ea, show (7 : Int32) * nI w = nI (7 * w) by rw [show (7 : Int32) = nI 7 from rfl, pk_mul]]
        refine se_roomOf hD.1 hDE ⟨t2, se_firstAbove (R := rmW A (nI j) w) hD.1 hD.2.2.1 hA hj y (by omega) (fun f f1 f2 f3 f4 => ?_)⟩
        refine pk_le (ntN A (nI j) w (A.2.2 0)) f (fun z => ?_) (fun z => ?_) rfl rfl (by omega) (by omega)
        · unfold PJ9_max_7cf53
          rw [nI_1, nI_ltI (by omega) (by omega)]
          have nxt : DX9_firstShort_2 post fu (a + 11) (some (a + 13 + j)) (nI (ntN A (nI j) w (A.2.2 0))) M := ih _ (by omega) (by omega) (by omega) (fun w' g1 g2 g3 => by
            rcases Nat.lt_or_ge w' w with q | q
            · exact h4 w' g1 q g3
            · rw [rm_const hA hGW q g2]
              exact f3 w' q (by omega))
          refine ⟨fun _ => nxt, fun q => ?_⟩
          rw [show w + 1 = ntN A (nI j) w (A.2.2 0) by omega]
          exact nxt
        · have : fs_ A j (nI j) c = nI f := by
            rcases fs_cases A j (nI j) c with ⟨z1, z2⟩ | ⟨s, z1, z2, z3, z4, z5⟩
            · have g1 := z2 f (by omega) (by omega)
              rw [rm_const hA hGW f1 z] at g1
              have := f4 (by omega)
              omega
            · have : s = f := by
                rcases Nat.lt_trichotomy s f with q | q | q
                · rcases Nat.lt_or_ge s w with q1 | q1
                  · have := h4 s z1 q1 z2; omega
                  · have g1 := f3 s q1 q
                    rw [rm_const hA hGW q1 (by omega)] at z4
                    omega
                · exact q
                · have g1 := z5 f (by omega) q
                  rw [rm_const hA hGW f1 z] at g1
                  have := f4 (by omega)
                  omega
              rw [z3, this]
          rw [this] at h
          exact h
  exact ⟨2002, lp 2002 c (by omega) (by omega) hc (fun w' h1 h2 => by omega)⟩
def an_short (A : Ab) (x : Int32) : Int32 := if wi_ x.toInt 0 15 then fs_ A x.toInt.toNat x (A.2.2 4 / 7) else -2
theorem dn_short {a : Nat} {M : Mm} {A : Ab} {x : Int32} {post : Int32 → Mm → Prop} (hS : SS a M A) (h : post (an_short A x) M) : PX10_shortage a x M post := by
  obtain ⟨hD, hM, hA⟩ := hS
  have w1 := hA.1
  have hT0 : ddT M a = 11 := DW_T hD.1 (i := 0) (by decide)
  have hT10 : ddT M (a + 11) = 10 := DW_T hD.1 (by decide)
  have hk : ddI M a 4 = nI (A.2.2 4) := hD.2.1
  unfold an_short at h
  refine ⟨hT0, a + 11, DW_R hD.1 (i := 0) (by decide), hT10, se_demandOf hD.1 (fun c => co_none (by rw [c] at h; exact h) rfl) (fun j hj ex => co_some (a + 13 + j) ⟨hT0, a + 11, DW_R hD.1 (i := 0) (by decide), hT10, ?_⟩ rfl)⟩
  rw [hk, show (7 : Int32) = nI 7 from rfl, pk_div (by omega) (by omega) (by omega)]
  refine se_firstShort hD hA hj (by omega) ?_
  have hx : x.toInt = j := by rw [ex, nI_T (by omega)]
  rw [show wi_ x.toInt 0 15 = true from wi_t.mpr (by omega), if_pos rfl, show x.toInt.toNat = j by omega, ex] at h
  exact h
/-! the model's weeks -/
def op_ (A : Ab) (x : Int32) (s w o : Nat) : Nat := if s.testBit o = true ∧ A.2.1 0 (121 + o) = x ∧ A.1 6 (121 + o) ≤ 7 * w then nu_ A.1 (121 + o) else 0
def oW_ (A : Ab) (x : Int32) (s w : Nat) : Nat := sm_ (op_ A x s w) (A.2.2 3)
def sw_ (A : Ab) (j : Nat) (x : Int32) (s c : Nat) : Int32 := ff_ (fun w => decide (c ≤ w) && decide (rmW A x w + oW_ A x s w < as_ A j w)) 2001
def BS (m : Nat) (M : Mm) (A : Ab) (x : Int32) (c : Nat) : Prop := ∀ w, c ≤ w → w ≤ 2000 → ddL M (m + 32) w = lN (rmW A x w)
theorem sp_makeBase {m : Nat} {M : Mm} {A : Ab} {x : Int32} {post : Mm → Prop} (hM : MS m M A) (hA : WA A) (hz : m + 33 ≤ ddZ M) (h : ∀ M1, Un (fun b _ => b = m + 32) M M1 → BS m M1 A x (A.2.2 4 / 7) → post M1) : PX11_makeBase m x M post := by
  have w1 := hA.1
  have hk : ddI M m 0 = nI (A.2.2 4) := hM.2.1
  refine ⟨hM.1.1, fun v ev => ?_⟩
  rw [hk, show (7 : Int32) = nI 7 from rfl, pk_div (by omega) (by omega) (by omega)] at ev
  rw [ev]
  rcases Nat.lt_or_ge 2000 (A.2.2 4 / 7) with hc | hc
  · refine ⟨1, ?_⟩
    show BX11_makeBase_8 (DX11_makeBase_8 post 0) post m x (nI (A.2.2 4 / 7)) M
    exact pk_lt 2000 (A.2.2 4 / 7) (fun _ => h M Un.rf (fun w q1 q2 => by omega)) (fun y => by omega) rfl rfl (by omega) (by omega)
  · refine pk_loop (fun fu i (s : Mm) => DX11_makeBase_8 post fu m x (nI i) s) (fun i s => Un (fun b _ => b = m + 32) M s ∧ ∀ w, A.2.2 4 / 7 ≤ w → w < i → ddL s (m + 32) w = lN (rmW A x w)) 2001 (A.2.2 4 / 7) M (by omega) ⟨Un.rf, fun w q1 q2 => by omega⟩ (fun fu s hs => ?_) (fun fu i s hi hs hk2 => ?_)
    · show BX11_makeBase_8 (DX11_makeBase_8 post fu) post m x (nI 2001) s
      exact pk_lt 2000 2001 (fun _ => h s hs.1 (fun w q1 q2 => hs.2 w q1 (by omega))) (fun y => by omega) rfl rfl (by omega) (by omega)
    · have sM := MS_scr hM hz hs.1 (fun b k z => Or.inr (Or.inr z))
      obtain ⟨b1, b2, b3⟩ := sM.1.f37
      show BX11_makeBase_8 (DX11_makeBase_8 post fu) post m x (nI i) s
      unfold BX11_makeBase_8
      rw [nI_1, show (7 : Int32) * nI i = nI (7 * i) by rw [show (7 : Int32) = nI 7 from rfl, pk_mul], nI_cl (by omega)]
      refine pk_lt 2000 i (fun y => by omega) (fun y => ⟨sM.1.1, sp_roomAt sM.1 sM.2.2.2.2.1 ⟨m + 32, b1, b2, by rw [b3]; exact nI_in2 (by omega) (by decide), fun M11 E11 => hk2 M11 ⟨?_, fun w q1 q2 => ?_⟩⟩⟩) rfl rfl (by omega) (by omega)
      · rw [E11]; exact hs.1.tt (Un.sL.wk (fun b k _ z => z.1))
      · rw [E11, gL_L]
        by_cases hwi : w = i
        · rw [if_pos ⟨rfl, hwi⟩, hwi]; rfl
        · rw [if_neg (fun z => hwi z.2)]; exact hs.2 w q1 (by omega)
theorem oW_lt {A : Ab} {x : Int32} {s w : Nat} (h8 : A.2.2 3 ≤ 8) (hGO : ∀ o, o < A.2.2 3 → GW A.1 (121 + o)) : ∀ i, i ≤ A.2.2 3 → sm_ (op_ A x s w) i ≤ 8 * 10 ^ 13 := fun i hi => by
  refine Nat.le_trans (sm_le (b := 10 ^ 13) (fun o ho => ?_)) (Nat.mul_le_mul_right _ (by omega))
  unfold op_
  split
  · exact nu_le (hGO o (by omega))
  · exact Nat.zero_le _
theorem sp_shortWith {m : Nat} {M : Mm} {A : Ab} {j s : Nat} {post : Int32 → Mm → Prop} (hM : MS m M A) (hA : WA A) (hj : j < 16) (hs : s < 2 ^ 30) (hB : BS m M A (nI j) (A.2.2 4 / 7)) (h : post (sw_ A j (nI j) s (A.2.2 4 / 7)) M) : PX11_shortageWith m (nI j) (nI s) M post := by
  obtain ⟨d1, d2, d3, d4, d5, d6, d7⟩ := id hM
  have w1 := hA.1
  have hk : ddI M m 0 = nI (A.2.2 4) := d2
  obtain ⟨m1, m2, m3⟩ := id d7
  have h120 := d5.1
  have hGW := GW_M d5
  have hGO : ∀ o, o < A.2.2 3 → GW A.1 (121 + o) := fun o ho => (m3 o ho).1.2.2.2.2.2.2
  obtain ⟨b1, b2, b3⟩ := d1.f37
  obtain ⟨e1, e2, e3⟩ := d1.f33
  obtain ⟨fa1, fa2, fa3⟩ := d1.f34
  obtain ⟨g1, g2, g3⟩ := d1.f3
  obtain ⟨i1, i2, i3⟩ := d1.f8
  obtain ⟨k1, k2, k3⟩ := d1.f15
  have hinj : vp_in (nI j) 16 := nI_in2 hj (by decide)
  refine ⟨d1.1, fun v ev => ?_⟩
  rw [hk, show (7 : Int32) = nI 7 from rfl, pk_div (by omega) (by omega) (by omega)] at ev
  rw [ev]
  obtain ⟨c, ec⟩ : ∃ c, c = A.2.2 4 / 7 := ⟨_, rfl⟩
  rw [← ec] at h hB ⊢
  rcases Nat.lt_or_ge 2000 c with hc | hc
  · refine ⟨1, ?_⟩
    show BX11_shortageWith_8 (DX11_shortageWith_8 post 0) post m (nI j) (nI s) (nI c) M
    refine pk_lt 2000 c (fun _ => ?_) (fun y => by omega) rfl rfl (by omega) (by omega)
    have : sw_ A j (nI j) s c = -1 := ff_none (fun w hw => by rw [decide_eq_false (by omega)]; rfl)
    rw [this] at h
    exact h
  · refine pk_loop (fun fu i (_ : Unit) => DX11_shortageWith_8 post fu m (nI j) (nI s) (nI i) M) (fun i _ => c ≤ i ∧ ∀ w, c ≤ w → w < i → as_ A j w ≤ rmW A (nI j) w + oW_ A (nI j) s w) 2001 c () (by omega) ⟨by omega, fun w q1 q2 => by omega⟩ (fun fu _ hs2 => ?_) (fun fu i _ hi hs2 hk2 => ?_)
    · show BX11_shortageWith_8 (DX11_shortageWith_8 post fu) post m (nI j) (nI s) (nI 2001) M
      refine pk_lt 2000 2001 (fun _ => ?_) (fun y => by omega) rfl rfl (by omega) (by omega)
      have : sw_ A j (nI j) s c = -1 := ff_none (fun w hw => by
        rcases Nat.lt_or_ge w c with q | q
        · rw [decide_eq_false (by omega)]; rfl
        · have := hs2.2 w q hw
          rw [decide_eq_false (by omega : ¬ rmW A (nI j) w + oW_ A (nI j) s w < as_ A j w), Bool.and_false])
      rw [this] at h
      exact h
    · show BX11_shortageWith_8 (DX11_shortageWith_8 post fu) post m (nI j) (nI s) (nI i) M
      unfold BX11_shortageWith_8
      rw [nI_cl (by omega)]
      refine pk_lt 2000 i (fun y => by omega) (fun y => ⟨d1.1, m + 32, b1, b2, by rw [b3]; exact nI_in2 (by omega) (by decide), fun v9 e9 => ?_⟩) rfl rfl (by omega) (by omega)
      rw [hB i hs2.1 (by omega)] at e9
      rw [e9]
      have hRl := rmW_lt (A := A) (x := nI j) (w := i) h120 hGW
      have hal := as_lt (w := i) hA hj (by omega)
      refine pk_loop (fun f2 o (n : Int64) => DX11_shortageWith_26 (DX11_shortageWith_8 post fu) post f2 m (nI j) (nI s) (nI i) n (nI o) M) (fun o n => n = lN (rmW A (nI j) i + sm_ (op_ A (nI j) s i) o)) (A.2.2 3) 0 (lN (rmW A (nI j) i)) (by omega) rfl (fun f2 n hn => ?_) (fun f2 o n ho hn hk3 => ?_)
      · show BX11_shortageWith_26 (DX11_shortageWith_8 post fu) (DX11_shortageWith_26 (DX11_shortageWith_8 post fu) post f2) post m (nI j) (nI s) (nI i) n (nI (A.2.2 3)) M
        unfold BX11_shortageWith_26
        rw [nI_1 i, nI_cl (n := j) (by omega)]
        have hol := oW_lt (x := nI j) (s := s) (w := i) m1 hGO (A.2.2 3) (Nat.le_refl _)
        obtain ⟨q1, q2⟩ := hA.2.1 j hj
        refine ⟨d1.1, pk_le (A.2.2 3) (A.2.2 3) (fun _ => ⟨m + 29, e1, e2, by rw [e3]; exact hinj, m + 30, fa1, fa2, by rw [fa3]; exact hinj, ?_⟩) (fun z => by omega) m2 rfl (by omega) (by omega)⟩
        rw [(d3 j hj).1, (d3 j hj).2, i2l_nI (by omega), i2l_nI (by omega), i2l_nI (by omega), lN_mul, lN_add, hn, Nat.mul_comm i]
        have ea : A.1 40 j + A.1 41 j * i = as_ A j i := rfl
        rw [ea, xl_le, pk_lT (by omega), pk_lT (by omega)]
        refine ⟨fun z => hk2 () ⟨by omega, fun w r1 r2 => ?_⟩, fun z => ?_⟩
        · rcases Nat.lt_or_ge w i with r3 | r3
          · exact hs2.2 w r1 r3
          · rw [show w = i by omega]
            unfold oW_
            omega
        · have : sw_ A j (nI j) s c = nI i := by
            refine ff_some (by omega) hi ?_ (fun w hw => ?_)
            · rw [decide_eq_true hs2.1, Bool.true_and]
              unfold oW_
              exact decide_eq_true (by omega)
            · rcases Nat.lt_or_ge w c with r3 | r3
              · rw [decide_eq_false (by omega)]; rfl
              · have := hs2.2 w r3 hw
                rw [decide_eq_false (by omega : ¬ rmW A (nI j) w + oW_ A (nI j) s w < as_ A j w), Bool.and_false]
          rw [this] at h
          exact h
      · show BX11_shortageWith_26 (DX11_shortageWith_8 post fu) (DX11_shortageWith_26 (DX11_shortageWith_8 post fu) post f2) post m (nI j) (nI s) (nI i) n (nI o) M
        unfold BX11_shortageWith_26
        obtain ⟨⟨r0, r1, r3, r4, r5, r6, hG⟩, ⟨y0, y1, y2, y3, y4, y5, y6, y7⟩, yk, -⟩ := m3 o ho
        have g6 := hG.2.2.2.2.2.2.2.1
        rw [nI_1 o, show (121 : Int32) + nI o = nI (121 + o) by rw [show (121 : Int32) = nI 121 from rfl, nI_add], nI_cl (n := 121 + o) (by omega), sh_bit (by omega) (by omega), show (7 : Int32) * nI i = nI (7 * i) by rw [show (7 : Int32) = nI 7 from rfl, pk_mul]]
        have hin2 : vp_in (nI (121 + o)) 130 := nI_in2 (by omega) (by decide)
        have no : op_ A (nI j) s i o = 0 → DX11_shortageWith_26 (DX11_shortageWith_8 post fu) post f2 m (nI j) (nI s) (nI i) n (nI (o + 1)) M := fun z => hk3 n (by rw [hn, sm_s, z, Nat.add_zero])
        refine ⟨d1.1, pk_le (A.2.2 3) o (fun z => by omega) (fun _ => ⟨fun z => no ?_, fun z => ⟨m + 2, g1, g2, by rw [g3]; exact hin2, ?_⟩⟩) m2 rfl (by omega) (by omega)⟩
        · rw [b2_n1] at z
          unfold op_; rw [if_neg (fun q => by rw [z] at q; exact absurd q.1 (by decide))]
        · rw [b2_1] at z
          rw [y0]
          refine ⟨fun z1 => no (by unfold op_; rw [if_neg (fun q => z1 q.2.1)]), fun z1 => ⟨m + 7, i1, i2, by rw [i3]; exact hin2, ?_⟩⟩
          rw [r6]
          refine pk_lt (7 * i) (A.1 6 (121 + o)) (fun z2 => no (by unfold op_; rw [if_neg (by omega)])) (fun z2 => ⟨m + 14, k1, k2, by rw [k3]; exact hin2, fun v36 e36 => hk3 v36 ?_⟩) rfl rfl (by omega) (by omega)
          rw [e36, hn, y7 yk, lN_add, sm_s]
          unfold op_
          rw [if_pos ⟨z, z1, z2⟩, Nat.add_assoc]
theorem oW_0 {A : Ab} {x : Int32} {w : Nat} : oW_ A x 0 w = 0 := by
  have : ∀ n, sm_ (op_ A x 0 w) n = 0 := fun n => by
    induction n with
    | zero => rfl
    | succ n ih =>
      rw [sm_s, ih]
      unfold op_
      rw [if_neg (fun q => by rw [Nat.zero_testBit] at q; exact absurd q.1 (by decide))]
  exact this _
theorem sw_0 {A : Ab} {j : Nat} {x : Int32} {c : Nat} : sw_ A j x 0 c = fs_ A j x c := by
  unfold sw_ fs_ shB
  congr 1
  funext w
  rw [oW_0, Nat.add_zero]
theorem mn_short {m : Nat} {M : Mm} {A : Ab} {x : Int32} {post : Int32 → Mm → Prop} (hM : MS m M A) (hA : WA A) (hz : m + 33 ≤ ddZ M) (h : ∀ M1, MS m M1 A → Un (fun b _ => m ≤ b ∧ b < m + 33) M M1 → post (an_short A x) M1) : PX11_shortage m x M post := by
  unfold an_short at h
  refine sp_in (bn (fun z => ⟨hM.1.1, sp_makeBase hM hA hz (fun M1 u hB => ?_)⟩) (fun z => ?_))
  · rw [wd_T] at z
    have z : wi_ x.toInt 0 15 = true := z
    obtain ⟨j, ej, hj, ex⟩ := wi_nI (n := 15) z
    rw [z, if_pos rfl, ← ej] at h
    have sM := MS_scr hM hz u (fun b k z => Or.inr (Or.inr z))
    refine ⟨sM.1.1, ?_⟩
    have fin := h M1 sM (u.wk (fun b k _ z => by omega))
    rw [ex] at fin hB ⊢
    exact sp_shortWith (s := 0) sM hA (by omega) (by omega) hB (by rw [sw_0]; exact fin)
  · rw [wd_T] at z
    rw [show wi_ x.toInt 0 15 = false from z] at h
    exact h M hM Un.rf
