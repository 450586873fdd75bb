/-! relief: the desk's parts -/
theorem ex_t {f : Nat → Bool} {i : Nat} : ∀ {n : Nat}, i < n → f i = true → ex_ f n = true
  | 0, h, _ => by omega
  | n + 1, h, hf => by
    show (ex_ f n || f n) = true
    rcases Nat.lt_or_ge i n with q | q
    · rw [ex_t q hf]; rfl
    · rw [show n = i by omega, hf, Bool.or_true]
theorem ex_f {f : Nat → Bool} {n : Nat} (h : ex_ f n = false) : ∀ i, i < n → f i = false := fun i hi => by
  cases hf : f i with
  | false => rfl
  | true => rw [ex_t hi hf] at h; cases h
def clE (A : Ab) (o : Nat) : Bool := ex_ (fun e => inF A e (nI (A.1 6 (121 + o))) && clB A.1 e (121 + o)) (A.2.2 0)
theorem se_clashesOn {a : Nat} {M : Mm} {A : Ab} {o r : Nat} {post : Int32 → Mm → Prop} (hW : DW a M) (hD : DE a M A) (hr : EO M r A.1 (121 + o)) (h : post (b2_ (clE A o)) M) : PX6_clashesOn (a + 1) (some r) (nI (A.1 6 (121 + o))) M post := by
  have h120 := hD.1
  have t7 : ddT M (a + 1) = 7 := DW_T hW (by decide)
  refine pk_loop (fun fu i (_ : Unit) => DX6_clashesOn_2 post fu (a + 1) (some r) (nI (A.1 6 (121 + o))) (nI i) M) (fun i _ => ex_ (fun e => inF A e (nI (A.1 6 (121 + o))) && clB A.1 e (121 + o)) i = false) (A.2.2 0) 0 () (by omega) rfl (fun fu _ hs => ?_) (fun fu i _ hi hs hk => ?_)
  · show BX6_clashesOn_2 (DX6_clashesOn_2 post fu) post (a + 1) (some r) (nI (A.1 6 (121 + o))) (nI (A.2.2 0)) M
    refine ⟨t7, pk_le (A.2.2 0) (A.2.2 0) (fun _ => ?_) (fun c => by omega) hD.2.1 rfl (by omega) (by omega)⟩
    unfold clE at h
    rw [hs] at h
    exact h
  · show BX6_clashesOn_2 (DX6_clashesOn_2 post fu) post (a + 1) (some r) (nI (A.1 6 (121 + o))) (nI i) M
    unfold BX6_clashesOn_2
    rw [nI_1]
    have no : (inF A i (nI (A.1 6 (121 + o))) && clB A.1 i (121 + o)) = false → DX6_clashesOn_2 post fu (a + 1) (some r) (nI (A.1 6 (121 + o))) (nI (i + 1)) M := fun z => hk () (by show (ex_ _ i || _) = false; rw [hs]; exact z)
    refine ⟨t7, pk_le (A.2.2 0) i (fun c => by omega) (fun _ => se_entryI hW hD hi fun q hq => co_some q ⟨hq.T, se_inF hq (bz (fun z => no (by rw [z]; rfl)) (fun z => ⟨hq.T, se_clashesWith hq.2.2.2.1 hr (bz (fun z1 => no (by rw [z1, Bool.and_false])) (fun z1 => ?_))⟩))⟩ rfl) hD.2.1 rfl (by omega) (by omega)⟩
    have : clE A o = true := ex_t hi (by rw [z, z1]; rfl)
    rw [this] at h
    exact h
def uB (A : Ab) (x : Int32) (o : Nat) : Bool := decide (A.2.1 0 (121 + o) = x) && (!decide (A.1 6 (121 + o) < A.2.2 4) && !clE A o)
def us_ (A : Ab) (x : Int32) : Nat → Nat
  | 0 => 0
  | o + 1 => if uB A x o then us_ A x o ||| 2 ^ o else us_ A x o
theorem us_s {A : Ab} {x : Int32} {o : Nat} : us_ A x (o + 1) = if uB A x o then us_ A x o ||| 2 ^ o else us_ A x o := rfl
theorem us_bit {A : Ab} {x : Int32} {f : Nat} : ∀ n, (us_ A x n).testBit f = (decide (f < n) && uB A x f)
  | 0 => by rw [show us_ A x 0 = 0 from rfl, Nat.zero_testBit, decide_eq_false (by omega)]; rfl
  | n + 1 => by
    have ih := us_bit (A := A) (x := x) (f := f) n
    rw [us_s]
    by_cases hfn : f = n
    · subst hfn
      rw [decide_eq_true (by omega : f < f + 1), Bool.true_and]
      split
      · next hu => rw [Nat.testBit_or, tb_pow, decide_eq_true rfl, Bool.or_true, hu]
      · next hu => rw [ih, decide_eq_false (by omega)]; simpa using hu
    · have e1 : decide (f < n + 1) = decide (f < n) := by
        by_cases h : f < n
        · rw [decide_eq_true h, decide_eq_true (by omega)]
        · rw [decide_eq_false h, decide_eq_false (by omega)]
      rw [e1]
      split
      · rw [Nat.testBit_or, tb_pow, decide_eq_false (fun z => hfn z.symm), Bool.or_false, ih]
      · exact ih
section RD
variable {a : Nat} {M : Mm} {A : Ab}
theorem se_usable {x : Int32} {post : Int32 → Mm → Prop} (hD : DS a M A) (hA : WA A) (h : post (nI (us_ A x (A.2.2 3))) M) : PX9_usableFor (a + 11) x (nI (A.2.2 4)) M post := by
  have hDO := hD.2.2.2.2.2.2
  have h8 := hDO.1
  have w1 := hA.1
  have t10 : ddT M (a + 11) = 10 := DW_T hD.1 (by decide)
  refine pk_loop (fun fu i (s : Int32) => DX9_usableFor_5 post fu (a + 11) x (nI (A.2.2 4)) s (nI i) M) (fun i s => s = nI (us_ A x i)) (A.2.2 3) 0 0 (by omega) rfl (fun fu s hs => ?_) (fun fu i s hi hs hk => ?_)
  · show BX9_usableFor_5 (DX9_usableFor_5 post fu) post (a + 11) x (nI (A.2.2 4)) s (nI (A.2.2 3)) M
    exact ⟨t10, pk_le (A.2.2 3) (A.2.2 3) (fun _ => by rw [hs]; exact h) (fun c => by omega) hDO.2.1 rfl (by omega) (by omega)⟩
  · show BX9_usableFor_5 (DX9_usableFor_5 post fu) post (a + 11) x (nI (A.2.2 4)) s (nI i) M
    unfold BX9_usableFor_5
    rw [nI_1, sh1_ i (by omega)]
    have no : uB A x i = false → DX9_usableFor_5 post fu (a + 11) x (nI (A.2.2 4)) s (nI (i + 1)) M := fun z => hk s (by rw [hs, us_s, z]; rfl)
    refine ⟨t10, pk_le (A.2.2 3) i (fun c => by omega) (fun _ => se_optionI hD.1 hDO hi (fun q r hq ho => co_some q ⟨ho.2.1, r, ho.2.2.1, ho.2.2.2.2.2.2.1.1, ?_⟩ rfl)) hDO.2.1 rfl (by omega) (by omega)⟩
    have hO := ho.2.2.2.2.2.2.1
    have g6 := hO.2.2.2.2.2.2.2.2.1.2.2.2.2.2.2.2.1
    rw [ho.2.2.2.2.2.2.2.1, hO.2.2.2.2.2.2.2.1, ho.2.2.1]
    refine ⟨fun z => no (by unfold uB; rw [decide_eq_false z]; rfl), fun z => pk_lt (A.1 6 (121 + i)) (A.2.2 4) (fun z1 => no (by unfold uB; rw [decide_eq_true z1, Bool.not_true, Bool.false_and, Bool.and_false])) (fun z1 => ⟨t10, a + 1, DW_R hD.1 (by decide), DW_T hD.1 (by decide), se_clashesOn hD.1 hD.2.2.2.2.1 hO (bn (fun z2 => no (by unfold uB; rw [z2, Bool.not_true, Bool.and_false, Bool.and_false])) (fun z2 v20 e20 => hk v20 ?_))⟩) rfl rfl (by omega) (by omega)⟩
    have hu : uB A x i = true := by unfold uB; rw [decide_eq_true z, decide_eq_false (by omega), z2]; rfl
    rw [e20, hs, fa_or, us_s, if_pos hu]
def cs_ (A : Ab) (s : Nat) : Nat := sm_ (fun o => if s.testBit o then A.1 50 o else 0) (A.2.2 3)
theorem se_costOf {s : Nat} {post : Int32 → Mm → Prop} (hD : DS a M A) (hs : s < 2 ^ 30) (h : post (nI (cs_ A s)) M) : PX9_costOf (a + 11) (nI s) M post := by
  have hDO := hD.2.2.2.2.2.2
  have h8 := hDO.1
  have t10 : ddT M (a + 11) = 10 := DW_T hD.1 (by decide)
  refine pk_loop (fun fu i (c : Int32) => DX9_costOf_4 post fu (a + 11) (nI s) c (nI i) M) (fun i c => c = nI (sm_ (fun o => if s.testBit o then A.1 50 o else 0) i)) (A.2.2 3) 0 0 (by omega) rfl (fun fu c hc => ?_) (fun fu i c hi hc hk => ?_)
  · show BX9_costOf_4 (DX9_costOf_4 post fu) post (a + 11) (nI s) c (nI (A.2.2 3)) M
    exact ⟨t10, pk_le (A.2.2 3) (A.2.2 3) (fun _ => by rw [hc]; exact h) (fun c => by omega) hDO.2.1 rfl (by omega) (by omega)⟩
  · show BX9_costOf_4 (DX9_costOf_4 post fu) post (a + 11) (nI s) c (nI i) M
    unfold BX9_costOf_4
    rw [nI_1, sh_bit (by omega) (by omega)]
    refine ⟨t10, pk_le (A.2.2 3) i (fun c => by omega) (fun _ => se_optionI hD.1 hDO hi (fun q r hq ho => co_some q (bz (fun z => hk c ?_) (fun z => ⟨ho.2.1, fun v9 e9 => hk v9 ?_⟩)) rfl)) hDO.2.1 rfl (by omega) (by omega)⟩
    · rw [hc, sm_s, z]; rfl
    · rw [e9, hc, ho.2.2.2.1, nI_add, sm_s, z]; rfl
def oS_ (A : Ab) (s w : Nat) : Nat := sm_ (fun o => if s.testBit o = true ∧ A.1 6 (121 + o) ≤ 7 * w then nu_ A.1 (121 + o) else 0) (A.2.2 3)
theorem se_roomBy {s w : Nat} {post : Int64 → Mm → Prop} (hD : DS a M A) (hs : s < 2 ^ 30) (hw : w ≤ 2000) (hk0 : ∀ o, o < A.2.2 3 → A.1 0 (121 + o) = 0) (h : post (lN (oS_ A s w)) M) : PX9_roomBy (a + 11) (nI s) (nI (7 * w)) M post := by
  have hDO := hD.2.2.2.2.2.2
  have h8 := hDO.1
  have t10 : ddT M (a + 11) = 10 := DW_T hD.1 (by decide)
  refine pk_loop (fun fu i (c : Int64) => DX9_roomBy_5 post fu (a + 11) (nI s) (nI (7 * w)) c (nI i) M) (fun i c => c = lN (sm_ (fun o => if s.testBit o = true ∧ A.1 6 (121 + o) ≤ 7 * w then nu_ A.1 (121 + o) else 0) i)) (A.2.2 3) 0 0 (by omega) rfl (fun fu c hc => ?_) (fun fu i c hi hc hk => ?_)
  · show BX9_roomBy_5 (DX9_roomBy_5 post fu) post (a + 11) (nI s) (nI (7 * w)) c (nI (A.2.2 3)) M
    exact ⟨t10, pk_le (A.2.2 3) (A.2.2 3) (fun _ => by rw [hc]; exact h) (fun c => by omega) hDO.2.1 rfl (by omega) (by omega)⟩
  · show BX9_roomBy_5 (DX9_roomBy_5 post fu) post (a + 11) (nI s) (nI (7 * w)) c (nI i) M
    unfold BX9_roomBy_5
    rw [nI_1, sh_bit (by omega) (by omega)]
    refine ⟨t10, pk_le (A.2.2 3) i (fun c => by omega) (fun _ => se_optionI hD.1 hDO hi (fun q r hq ho => co_some q (bz (fun z => hk c ?_) (fun z => ⟨ho.2.1, r, ho.2.2.1, ho.2.2.2.2.2.2.1.1, se_roomOn ho.2.2.2.2.2.2.1 (GW_kl ho.2.2.2.2.2.2.1.2.2.2.2.2.2.2.2.1 (hk0 i hi)) (fun v14 e14 => hk v14 ?_)⟩)) rfl)) hDO.2.1 rfl (by omega) (by omega)⟩
    · rw [hc, sm_s, if_neg (fun q => by rw [z] at q; exact absurd q.1 (by decide)), Nat.add_zero]
    · have g6 := ho.2.2.2.2.2.2.1.2.2.2.2.2.2.2.2.1.2.2.2.2.2.2.2.1
      have e10 : ddI M r 10 = -1 := ho.2.2.2.2.2.2.2.2.2.1
      have ei : inB (nI (A.1 6 (121 + i))) (-1) (nI (7 * w)) = decide (A.1 6 (121 + i) ≤ 7 * w) := by
        unfold inB
        rw [decide_eq_true rfl, Bool.true_or, Bool.and_true]
        by_cases hc : A.1 6 (121 + i) ≤ 7 * w
        · rw [decide_eq_true hc, decide_eq_false (by rw [nI_ltI (by omega) (by omega)]; omega)]; rfl
        · rw [decide_eq_false hc, decide_eq_true (by rw [nI_ltI (by omega) (by omega)]; omega)]; rfl
      rw [e14, hc, e10, ei, sm_s]
      by_cases hc2 : A.1 6 (121 + i) ≤ 7 * w
      · rw [decide_eq_true hc2, if_pos rfl, if_pos ⟨z, hc2⟩, lN_add]
      · rw [decide_eq_false hc2, if_neg (by decide), if_neg (fun q => hc2 q.2), lN_add]
/-- what is noted of the weeks -/
def LK (a : Nat) (M : Mm) (k : Nat) (W L : Nat → Nat) : Prop := ddI M (a + 11) 6 = nI k ∧ k ≤ 249 ∧ ∀ i, i < k → ddI M (a + 30) i = nI (W i) ∧ ddL M (a + 31) i = lN (L i) ∧ W i ≤ 2000 ∧ L i < 2 ^ 60
def cvB (A : Ab) (s k : Nat) (W L : Nat → Nat) : Bool := (List.range k).all (fun i => decide (L i ≤ oS_ A s (W i)))
theorem oS_lt {s w : Nat} (h8 : A.2.2 3 ≤ 8) (hGO : ∀ o, o < A.2.2 3 → GW A.1 (121 + o)) : oS_ A s w ≤ 8 * 10 ^ 13 := by
  refine Nat.le_trans (sm_le (b := 10 ^ 13) (fun o ho => ?_)) (Nat.mul_le_mul_right _ (by omega))
  split
  · exact nu_le (hGO o (by omega))
  · exact Nat.zero_le _
theorem se_covers {s k : Nat} {W L : Nat → Nat} {post : Int32 → Mm → Prop} (hD : DS a M A) (hs : s < 2 ^ 30) (hk0 : ∀ o, o < A.2.2 3 → A.1 0 (121 + o) = 0) (hL : LK a M k W L) (h : post (b2_ (cvB A s k W L)) M) : PX9_coversLacks (a + 11) (nI s) M post := by
  have hDO := hD.2.2.2.2.2.2
  have t10 : ddT M (a + 11) = 10 := DW_T hD.1 (by decide)
  have N30 : ddN M (a + 30) = 249 := DW_N hD.1 (by decide)
  have N31 : ddN M (a + 31) = 249 := DW_N hD.1 (by decide)
  obtain ⟨l1, l2, l3⟩ := hL
  have hGO : ∀ o, o < A.2.2 3 → GW A.1 (121 + o) := fun o ho => by
    obtain ⟨q, r, -, q2⟩ := hDO.2.2.1 o ho
    exact q2.2.2.2.2.2.2.1.2.2.2.2.2.2.2.2.1
  refine pk_loop (fun fu i (_ : Unit) => DX9_coversLacks_2 post fu (a + 11) (nI s) (nI i) M) (fun i _ => ∀ j, j < i → L j ≤ oS_ A s (W j)) k 0 () (by omega) (fun j hj => by omega) (fun fu _ hc => ?_) (fun fu i _ hi hc hk => ?_)
  · show BX9_coversLacks_2 (DX9_coversLacks_2 post fu) post (a + 11) (nI s) (nI k) M
    refine ⟨t10, pk_le k k (fun _ => ?_) (fun c => by omega) l1 rfl (by omega) (by omega)⟩
    have : cvB A s k W L = true := all_lt.mpr (fun i hi => decide_eq_true (hc i hi))
    rw [this] at h
    exact h
  · show BX9_coversLacks_2 (DX9_coversLacks_2 post fu) post (a + 11) (nI s) (nI i) M
    unfold BX9_coversLacks_2
    obtain ⟨y1, y2, y3, y4⟩ := l3 i hi
    have hol := oS_lt (A := A) (s := s) (w := W i) hDO.1 hGO
    rw [nI_1, nI_cl (by omega)]
    refine ⟨t10, pk_le k i (fun c => by omega) (fun _ => ⟨a + 31, DW_R hD.1 (by decide), DW_T hD.1 (by decide), pk_le 249 i (fun c => by omega) (fun _ => ⟨a + 30, DW_R hD.1 (by decide), DW_T hD.1 (by decide), pk_le 249 i (fun c => by omega) (fun _ => ⟨by rw [N30]; exact nI_in2 (by omega) (by decide), ?_⟩) (by rw [N30]; rfl) rfl (by omega) (by omega)⟩) (by rw [N31]; rfl) rfl (by omega) (by omega)⟩) l1 rfl (by omega) (by omega)⟩
    rw [y1, show (7 : Int32) * nI (W i) = nI (7 * W i) by rw [show (7 : Int32) = nI 7 from rfl, pk_mul]]
    refine se_roomBy hD hs y3 hk0 ⟨t10, a + 31, DW_R hD.1 (by decide), DW_T hD.1 (by decide), by rw [N31]; exact nI_in2 (by omega) (by decide), ?_⟩
    rw [y2, xl_ge, pk_lT (by omega), pk_lT (by omega)]
    refine ⟨fun z => hk () (fun j hj => ?_), fun z => ?_⟩
    · rcases Nat.lt_or_ge j i with q | q
      · exact hc j q
      · rw [show j = i by omega]; omega
    · have : cvB A s k W L = false := all_no (i := i) hi (decide_eq_false (by omega))
      rw [this] at h
      exact h
def npB (A : Ab) (s : Nat) : Bool := (List.range (A.2.2 3)).all (fun o => (List.range (A.2.2 3)).all (fun p => !(decide (o < p) && (s.testBit o && (s.testBit p && clB A.1 (121 + o) (121 + p))))))
theorem np_t {s : Nat} : npB A s = true ↔ ∀ o p, o < p → p < A.2.2 3 → s.testBit o = true → s.testBit p = true → clB A.1 (121 + o) (121 + p) = false := by
  unfold npB
  rw [all_lt]
  constructor
  · intro h o p h1 h2 h3 h4
    have := all_lt.mp (h o (by omega)) p h2
    rw [decide_eq_true h1, h3, h4] at this
    simpa using this
  · intro h o ho
    refine all_lt.mpr (fun p hp => ?_)
    by_cases h1 : o < p
    · cases h3 : s.testBit o with
      | false => rw [decide_eq_true h1]; rfl
      | true =>
        cases h4 : s.testBit p with
        | false => rw [decide_eq_true h1]; rfl
        | true => rw [decide_eq_true h1, h o p h1 hp h3 h4]; rfl
    · rw [decide_eq_false h1]; rfl
theorem se_withoutPair {s : Nat} {post : Int32 → Mm → Prop} (hD : DS a M A) (hs : s < 2 ^ 30) (h : post (b2_ (npB A s)) M) : PX9_isWithoutPair (a + 11) (nI s) M post := by
  have hDO := hD.2.2.2.2.2.2
  have h8 := hDO.1
  have t10 : ddT M (a + 11) = 10 := DW_T hD.1 (by decide)
  refine pk_loop (fun fu o (_ : Unit) => DX9_isWithoutPair_2 post fu (a + 11) (nI s) (nI o) M) (fun i _ => ∀ o p, o < i → o < p → p < A.2.2 3 → s.testBit o = true → s.testBit p = true → clB A.1 (121 + o) (121 + p) = false) (A.2.2 3) 0 () (by omega) (fun o p h1 => by omega) (fun fu _ hc => ?_) (fun fu i _ hi hc hk => ?_)
  · show BX9_isWithoutPair_2 (DX9_isWithoutPair_2 post fu) post (a + 11) (nI s) (nI (A.2.2 3)) M
    refine ⟨t10, pk_le (A.2.2 3) (A.2.2 3) (fun _ => ?_) (fun c => by omega) hDO.2.1 rfl (by omega) (by omega)⟩
    have : npB A s = true := np_t.mpr (fun o p h1 h2 => hc o p (by omega) h1 h2)
    rw [this] at h
    exact h
  · show BX9_isWithoutPair_2 (DX9_isWithoutPair_2 post fu) post (a + 11) (nI s) (nI i) M
    unfold BX9_isWithoutPair_2
    refine ⟨t10, pk_le (A.2.2 3) i (fun c => by omega) (fun _ => se_optionI hD.1 hDO hi (fun q r hq ho v5 e5 => ?_)) hDO.2.1 rfl (by omega) (by omega)⟩
    rw [e5, nI_1]
    refine pk_loop (fun f2 p (_ : Unit) => DX9_isWithoutPair_21 (DX9_isWithoutPair_2 post fu) post f2 (a + 11) (nI s) (nI i) (some q) (nI p) M) (fun j _ => i < j ∧ ∀ p, i < p → p < j → s.testBit i = true → s.testBit p = true → clB A.1 (121 + i) (121 + p) = false) (A.2.2 3) (i + 1) () (by omega) ⟨by omega, fun p h1 h2 => by omega⟩ (fun f2 _ hp => ?_) (fun f2 p _ hp2 hp hk2 => ?_)
    · show BX9_isWithoutPair_21 (DX9_isWithoutPair_2 post fu) (DX9_isWithoutPair_21 (DX9_isWithoutPair_2 post fu) post f2) post (a + 11) (nI s) (nI i) (some q) (nI (A.2.2 3)) M
      unfold BX9_isWithoutPair_21
      rw [nI_1 i]
      refine ⟨t10, pk_le (A.2.2 3) (A.2.2 3) (fun _ => hk () (fun o p h1 h2 h3 h4 h5 => ?_)) (fun c => by omega) hDO.2.1 rfl (by omega) (by omega)⟩
      rcases Nat.lt_or_ge o i with y | y
      · exact hc o p y h2 h3 h4 h5
      · rw [show o = i by omega] at h2 h4 ⊢
        exact hp.2 p h2 h3 h4 h5
    · show BX9_isWithoutPair_21 (DX9_isWithoutPair_2 post fu) (DX9_isWithoutPair_21 (DX9_isWithoutPair_2 post fu) post f2) post (a + 11) (nI s) (nI i) (some q) (nI p) M
      unfold BX9_isWithoutPair_21
      rw [nI_1 p, sh_bit (f := i) (by omega) (by omega), sh_bit (f := p) (by omega) (by omega)]
      have no : (s.testBit i = true → s.testBit p = true → clB A.1 (121 + i) (121 + p) = false) → DX9_isWithoutPair_21 (DX9_isWithoutPair_2 post fu) post f2 (a + 11) (nI s) (nI i) (some q) (nI (p + 1)) M := fun z => hk2 () ⟨by omega, fun p' h1 h2 h3 h4 => by
        rcases Nat.lt_or_ge p' p with y | y
        · exact hp.2 p' h1 y h3 h4
        · rw [show p' = p by omega] at h4 ⊢
          exact z h3 h4⟩
      refine ⟨t10, pk_le (A.2.2 3) p (fun c => by omega) (fun _ => se_optionI hD.1 hDO hp2 (fun q' r' hq' ho' => co_some q (co_some q' (bz (fun z => no (fun z1 => by rw [z] at z1; cases z1)) (fun z => bz (fun z1 => no (fun _ z2 => by rw [z1] at z2; cases z2)) (fun z1 => ⟨ho.2.1, ho'.2.1, r, ho.2.2.1, ho.2.2.2.2.2.2.1.1, ?_⟩))) rfl) rfl)) hDO.2.1 rfl (by omega) (by omega)⟩
      rw [ho'.2.2.1]
      refine se_clashesWith ho.2.2.2.2.2.2.1 ho'.2.2.2.2.2.2.1 (bz (fun z2 => no (fun _ _ => z2)) (fun z2 => ?_))
      have : npB A s = false := by
        cases hn : npB A s with
        | false => rfl
        | true =>
          have := np_t.mp hn i p hp.1 hp2 z z1
          rw [z2] at this
          cases this
      rw [this] at h
      exact h
end RD
