/-! reading figures -/
theorem fa_or (a b : Nat) : nI a ||| nI b = nI (a ||| b) := by
  apply Int32.toBitVec_inj.1
  show BitVec.ofNat 32 a ||| BitVec.ofNat 32 b = BitVec.ofNat 32 (a ||| b)
  apply BitVec.eq_of_getLsbD_eq
  intro i hi
  simp [hi]
theorem pM_n : pM none = -1 := rfl
theorem pM_s {b : Nat} : pM (some b) = nI b := rfl
def nmB (G : Nat → Nat → Nat) (w c e : Nat) : Bool := decide (G 4 e ≤ c) && ftB G e w c
def goB (G : Nat → Nat → Nat) (w c e : Nat) : Bool := decide (c < G 5 e) && bgB G e w c
def ex_ (f : Nat → Bool) : Nat → Bool
  | 0 => false
  | n + 1 => ex_ f n || f n
def lw_ (G : Nat → Nat → Nat) (c e : Nat) : Nat := if c < G 4 e then G 4 e - c else 1
def mnO (o : Option Nat) (l : Nat) : Option Nat := match o with | none => some l | some x => if l < x then some l else some x
def mxO (o : Option Nat) (l : Nat) : Option Nat := match o with | none => some l | some x => if x < l then some l else some x
def isN (A : Ab) (w c : Nat) (d : Int32) (e : Nat) : Bool := inF A e d && nmB A.1 w c e
def isG (A : Ab) (w c : Nat) (d : Int32) (e : Nat) : Bool := inF A e d && goB A.1 w c e
def nb_ (A : Ab) (w c : Nat) (d : Int32) : Nat → Nat
  | 0 => 0
  | n + 1 => if isG A w c d n then nb_ A w c d n ||| mayN A.1 n c else nb_ A w c d n
def lmq_ (A : Ab) (w c : Nat) (d : Int32) : Nat → Option Nat
  | 0 => none
  | n + 1 => if isG A w c d n then mnO (lmq_ A w c d n) (lw_ A.1 c n) else lmq_ A w c d n
def mmq_ (A : Ab) (w c : Nat) (d : Int32) : Nat → Option Nat
  | 0 => none
  | n + 1 => if isG A w c d n then mxO (mmq_ A w c d n) (A.1 5 n - c) else mmq_ A w c d n
theorem nb_s {A : Ab} {w c : Nat} {d : Int32} {n : Nat} : nb_ A w c d (n + 1) = if isG A w c d n then nb_ A w c d n ||| mayN A.1 n c else nb_ A w c d n := rfl
theorem lmq_s {A : Ab} {w c : Nat} {d : Int32} {n : Nat} : lmq_ A w c d (n + 1) = if isG A w c d n then mnO (lmq_ A w c d n) (lw_ A.1 c n) else lmq_ A w c d n := rfl
theorem mmq_s {A : Ab} {w c : Nat} {d : Int32} {n : Nat} : mmq_ A w c d (n + 1) = if isG A w c d n then mxO (mmq_ A w c d n) (A.1 5 n - c) else mmq_ A w c d n := rfl
theorem mx_some (o : Option Nat) (l : Nat) : (mxO o l).isSome = true := by
  unfold mxO
  split
  · rfl
  · split <;> rfl
theorem mm_ex (A : Ab) (w c : Nat) (d : Int32) : ∀ n, (mmq_ A w c d n).isSome = ex_ (isG A w c d) n
  | 0 => rfl
  | n + 1 => by
    show (if isG A w c d n then mxO (mmq_ A w c d n) (A.1 5 n - c) else mmq_ A w c d n).isSome = (ex_ (isG A w c d) n || isG A w c d n)
    cases h : isG A w c d n with
    | true => rw [if_pos rfl, mx_some, Bool.or_true]
    | false => rw [if_neg (by decide), mm_ex A w c d n, Bool.or_false]
theorem lm_lt {A : Ab} {w c : Nat} {d : Int32} : ∀ {n : Nat}, (∀ e, e < n → GW A.1 e) → ∀ x, lmq_ A w c d n = some x → x ≤ 15
  | 0, _, x, h => by cases h
  | n + 1, hG, x, h => by
    have ih := lm_lt (A := A) (w := w) (c := c) (d := d) (n := n) (fun e he => hG e (by omega))
    have g := hG n (by omega)
    have g4 := g.2.2.2.2.2.1
    have g5 := g.2.2.2.2.2.2.1
    have hl : lw_ A.1 c n ≤ 15 := by unfold lw_; split <;> omega
    have h : (if isG A w c d n then mnO (lmq_ A w c d n) (lw_ A.1 c n) else lmq_ A w c d n) = some x := h
    split at h
    · unfold mnO at h
      cases ho : lmq_ A w c d n with
      | none => rw [ho] at h; cases h; exact hl
      | some y =>
        rw [ho] at h
        have := ih y ho
        dsimp only at h
        split at h
        · cases h; exact hl
        · cases h; exact this
    · exact ih x h
theorem mm_lt {A : Ab} {w c : Nat} {d : Int32} : ∀ {n : Nat}, (∀ e, e < n → GW A.1 e) → ∀ x, mmq_ A w c d n = some x → x ≤ 15
  | 0, _, x, h => by cases h
  | n + 1, hG, x, h => by
    have ih := mm_lt (A := A) (w := w) (c := c) (d := d) (n := n) (fun e he => hG e (by omega))
    have g := hG n (by omega)
    have g5 := g.2.2.2.2.2.2.1
    have h : (if isG A w c d n then mxO (mmq_ A w c d n) (A.1 5 n - c) else mmq_ A w c d n) = some x := h
    split at h
    · unfold mxO at h
      cases ho : mmq_ A w c d n with
      | none => rw [ho] at h; cases h; omega
      | some y =>
        rw [ho] at h
        have := ih y ho
        dsimp only at h
        split at h
        · cases h; omega
        · cases h; exact this
    · exact ih x h
theorem jmax1 {g c : Nat} {M : Mm} {post : Int32 → Mm → Prop} (hg : g < 2 ^ 30) (hc : c < 2 ^ 30) (h : post (nI (if c < g then g - c else 1)) M) : PJ9_max_7cf53 1 (nI g - nI c) M post := by
  unfold PJ9_max_7cf53
  have e : (nI g - nI c).toInt = (g : Int) - c := pk_sub_toInt hg hc
  refine ⟨fun z => ?_, fun z => ?_⟩
  · rw [xi_lt, e] at z
    have z : (1 : Int) < (g : Int) - c := z
    rw [if_pos (by omega)] at h
    rw [pk_sub (by omega)]
    exact h
  · rw [xi_lt, e] at z
    have z : ¬ (1 : Int) < (g : Int) - c := z
    by_cases q : c < g
    · rw [if_pos q, show g - c = 1 by omega] at h
      exact h
    · rw [if_neg q] at h
      exact h
theorem jmin_o {x l : Nat} {M : Mm} {post : Int32 → Mm → Prop} (hx : x < 2 ^ 30) (hl : l < 2 ^ 30) (h : post (pM (mnO (some x) l)) M) : PJ9_min_7cf53 (nI x) (nI l) M post := by
  unfold PJ9_min_7cf53
  unfold mnO at h
  rw [nI_ltI (by omega) (by omega)]
  refine ⟨fun z => ?_, fun z => ?_⟩
  · dsimp only at h; rw [if_pos z] at h; exact h
  · dsimp only at h; rw [if_neg z] at h; exact h
theorem jmax_o {o : Option Nat} {l : Nat} {M : Mm} {post : Int32 → Mm → Prop} (hx : ∀ x, o = some x → x < 2 ^ 30) (hl : l < 2 ^ 30) (h : post (pM (mxO o l)) M) : PJ9_max_7cf53 (pM o) (nI l) M post := by
  unfold PJ9_max_7cf53
  unfold mxO at h
  cases o with
  | none =>
    refine ⟨fun _ => h, fun z => absurd ?_ z⟩
    rw [xi_lt, nI_T (by omega)]
    show (-1 : Int) < l
    omega
  | some x =>
    have := hx x rfl
    rw [pM_s, nI_ltI (by omega) (by omega)]
    refine ⟨fun z => ?_, fun z => ?_⟩
    · dsimp only at h; rw [if_pos z] at h; exact h
    · dsimp only at h; rw [if_neg z] at h; exact h
def P3 (a : Nat) (b _k : Nat) : Prop := b = a + 3
def RV (a : Nat) (M : Mm) (wh : Bool) (nx : Nat) (lm mm : Option Nat) : Prop := ddI M (a + 3) 0 = b2_ wh ∧ ddI M (a + 3) 1 = nI nx ∧ ddI M (a + 3) 2 = pM lm ∧ ddI M (a + 3) 3 = pM mm
theorem rn3 : ∀ q ∈ dw_R, ¬ (q.1 = 3) := by decide
theorem DW_P3 {a : Nat} {M M' : Mm} (h : DW a M) (u : Un (P3 a) M M') : DW a M' := by
  refine DW_keep h u (fun q hq z => ?_) (fun j hj z => by unfold P3 at z; omega)
  unfold P3 at z
  have := rn3 q hq
  omega
theorem DE_P3 {a : Nat} {M M' : Mm} {A : Ab} (h : DE a M A) (hz : a + 65 ≤ ddZ M) (u : Un (P3 a) M M') : DE a M' A :=
  DE_keep h hz u (fun z => by unfold P3 at z; omega) (fun e z => by unfold P3 at z; omega) (fun q k hq _ z => by unfold P3 at z; have := hq.1; omega)
theorem se_radd {a : Nat} {M : Mm} {q c j : Nat} {G : Nat → Nat → Nat} {wh : Bool} {nx : Nat} {lm mm : Option Nat} {post : Mm → Prop} (hT : ddT M (a + 3) = 9) (hz : a + 65 ≤ ddZ M) (hn : nw_ a M q) (hf : fx_ a M q) (hE : EO M q G j) (hv : RV a M wh nx lm mm) (hc : c ≤ G 5 j) (hl : ∀ x, lm = some x → x ≤ 15) (hm : ∀ x, mm = some x → x ≤ 15)
    (h : ∀ M1, Un (P3 a) M M1 → RV a M1 (wh || decide (G 4 j ≤ c)) (if c < G 5 j then nx ||| mayN G j c else nx) (if c < G 5 j then mnO lm (lw_ G c j) else lm) (if c < G 5 j then mxO mm (G 5 j - c) else mm) → post M1) : PX8_add (a + 3) (some q) (nI c) M post := by
  have hG := hE.2.2.2.2.2.2.2.2.1
  have g4 := hG.2.2.2.2.2.1
  have g5 := hG.2.2.2.2.2.2.1
  have n65 := hn.1
  have kE : ∀ M', Un (P3 a) M M' → EO M' q G j := fun M' u => EO_keep hE hn hf u (fun k _ z => by unfold P3 at z; omega) (fun f k hff z => by unfold P3 at z; have := (hf f hff).1; omega)
  have kT : ∀ M', Un (P3 a) M M' → ddT M' (a + 3) = 9 := fun M' u => by rw [u.T (by omega)]; exact hT
  obtain ⟨v0, v1, v2, v3⟩ := hv
  have key : BX8_add_21 post (a + 3) (some q) (nI c) (some (a + 3)) (b2_ (wh || decide (G 4 j ≤ c))) M := by
    refine ⟨a + 3, rfl, hT, b2_01 _, fun M11 E11 => ?_⟩
    have u11 : Un (P3 a) M M11 := by rw [E11]; exact Un.sI.wk (fun b k _ z => z.1)
    have k0 : ddI M11 (a + 3) 0 = b2_ (wh || decide (G 4 j ≤ c)) := by rw [E11, gI_I, if_pos ⟨rfl, rfl⟩]
    have k1 : ddI M11 (a + 3) 1 = nI nx := by rw [E11, gI_I, if_neg (by omega)]; exact v1
    have k2 : ddI M11 (a + 3) 2 = pM lm := by rw [E11, gI_I, if_neg (by omega)]; exact v2
    have k3 : ddI M11 (a + 3) 3 = pM mm := by rw [E11, gI_I, if_neg (by omega)]; exact v3
    have e11 := kE M11 u11
    refine ⟨q, rfl, e11.1, ?_⟩
    rw [e11.2.2.2.2.2.2.1, e11.2.2.2.2.2.1]
    refine pk_le (G 5 j) c (fun z => ?_) (fun z => ?_) rfl rfl (by omega) (by omega)
    · have := h M11 u11
      rw [if_neg (by omega), if_neg (by omega), if_neg (by omega)] at this
      exact this ⟨k0, k1, k2, k3⟩
    · have z2 : c < G 5 j := z
      refine jmax1 (by omega) (by omega) ⟨kT M11 u11, ?_⟩
      have elw : (if c < G 4 j then G 4 j - c else 1) = lw_ G c j := rfl
      rw [elw]
      have hlw : lw_ G c j ≤ 15 := by unfold lw_; split <;> omega
      have key2 : BX8_add_64 post (a + 3) (some q) (nI c) (some (a + 3)) (pM (mnO lm (lw_ G c j))) M11 := by
        refine ⟨a + 3, rfl, kT M11 u11, fun M25 E25 => ?_⟩
        have u25 : Un (P3 a) M M25 := by rw [E25]; exact u11.tt (Un.sI.wk (fun b k _ z => z.1))
        have e25 := kE M25 u25
        have m3 : ddI M25 (a + 3) 3 = pM mm := by rw [E25, gI_I, if_neg (by omega)]; exact k3
        refine ⟨kT M25 u25, q, rfl, e25.1, ?_⟩
        rw [m3, e25.2.2.2.2.2.2.1, pk_sub (by omega)]
        refine jmax_o (fun x hx => by have := hm x hx; omega) (by omega) ⟨kT M25 u25, fun M33 E33 => ?_⟩
        have u33 : Un (P3 a) M M33 := by rw [E33]; exact u25.tt (Un.sI.wk (fun b k _ z => z.1))
        have e33 := kE M33 u33
        refine ⟨e33.1, se_figuresAt e33 (by omega) ⟨kT M33 u33, fun M38 E38 => ?_⟩⟩
        have u38 : Un (P3 a) M M38 := by rw [E38]; exact u33.tt (Un.sI.wk (fun b k _ z => z.1))
        have o1 : ddI M33 (a + 3) 1 = nI nx := by rw [E33, gI_I, if_neg (by omega), E25, gI_I, if_neg (by omega)]; exact k1
        have := h M38 u38
        rw [if_pos z2, if_pos z2, if_pos z2] at this
        refine this ⟨?_, ?_, ?_, ?_⟩
        · rw [E38, gI_I, if_neg (by omega), E33, gI_I, if_neg (by omega), E25, gI_I, if_neg (by omega)]; exact k0
        · rw [E38, gI_I, if_pos ⟨rfl, rfl⟩, o1, fa_or]
        · rw [E38, gI_I, if_neg (by omega), E33, gI_I, if_neg (by omega), E25, gI_I, if_pos ⟨rfl, rfl⟩]
        · rw [E38, gI_I, if_neg (by omega), E33, gI_I, if_pos ⟨rfl, rfl⟩]
      rw [k2]
      cases lm with
      | none => exact ⟨fun y => absurd rfl y, fun _ => key2⟩
      | some x =>
        have := hl x rfl
        exact ⟨fun _ => jmin_o (by omega) (by omega) key2, fun y => absurd y (nI_m1 (by omega))⟩
  refine ⟨hT, ?_⟩
  rw [v0]
  refine bn (fun z => ?_) (fun z => ⟨q, rfl, hE.1, ?_⟩)
  · rw [z, Bool.true_or] at key
    exact key
  · rw [z, Bool.false_or] at key
    rw [hE.2.2.2.2.2.1]
    refine pk_lt c (G 4 j) (fun y => ?_) (fun y => ?_) rfl rfl (by omega) (by omega)
    · rw [decide_eq_false (by omega)] at key; exact key
    · rw [decide_eq_true y] at key; exact key
theorem GW_E {a : Nat} {M : Mm} {A : Ab} (h : DE a M A) : ∀ e, e < A.2.2 0 → GW A.1 e := fun e he => by
  obtain ⟨q, -, -, -, q4, -⟩ := h.2.2 e he
  exact q4.2.2.2.2.2.2.2.2.1
theorem GW_M {m : Nat} {M : Mm} {A : Ab} (h : ME m M A) : ∀ e, e < A.2.2 0 → GW A.1 e := fun e he => (h.2.2 e he).1.2.2.2.2.2.2
theorem se_read {a : Nat} {M : Mm} {A : Ab} {w c : Nat} {d : Int32} {post : Option Nat → Mm → Prop} (hW : DW a M) (hD : DE a M A) (hw : 10 ^ c ≤ w ∧ w < 2 * 10 ^ c) (hc : c ≤ 16)
    (h : ∀ M1, Un (P3 a) M M1 → RV a M1 (ex_ (isN A w c d) (A.2.2 0)) (nb_ A w c d (A.2.2 0)) (lmq_ A w c d (A.2.2 0)) (mmq_ A w c d (A.2.2 0)) → post (some (a + 3)) M1) : PX6_read (a + 1) (lN w) (nI c) d M post := by
  have h120 := hD.1
  have hz := hW.2.2.2.2
  have hT3 : ddT M (a + 3) = 9 := DW_T hW (by decide)
  have hGW := GW_E hD
  refine ⟨DW_T hW (by decide), a + 3, DW_R hW (by decide), hT3, hT3, fun M2 E2 M3 E3 M4 E4 M5 E5 => ?_⟩
  have u5 : Un (P3 a) M M5 := by
    rw [E5, E4, E3, E2]
    exact (((Un.sI.tr Un.sI).tr Un.sI).tr Un.sI).wk (fun b k _ z => by unfold P3; omega)
  have r5 : RV a M5 false 0 none none := by
    subst E5 E4 E3 E2
    refine ⟨?_, ?_, ?_, ?_⟩
    · rw [gI_I, if_neg (by omega), gI_I, if_neg (by omega), gI_I, if_neg (by omega), gI_I, if_pos ⟨rfl, rfl⟩]; rfl
    · rw [gI_I, if_neg (by omega), gI_I, if_neg (by omega), gI_I, if_pos ⟨rfl, rfl⟩]; rfl
    · rw [gI_I, if_neg (by omega), gI_I, if_pos ⟨rfl, rfl⟩]; rfl
    · rw [gI_I, if_pos ⟨rfl, rfl⟩]; rfl
  refine pk_loop (fun fu i (s : Mm) => DX6_read_10 post fu (a + 1) (lN w) (nI c) d (nI i) s) (fun i s => Un (P3 a) M s ∧ RV a s (ex_ (isN A w c d) i) (nb_ A w c d i) (lmq_ A w c d i) (mmq_ A w c d i)) (A.2.2 0) 0 M5 (by omega) ⟨u5, r5⟩ (fun fu s hs => ?_) (fun fu i s hi hs hk => ?_)
  · have sW := DW_P3 hW hs.1
    have sD := DE_P3 hD hz hs.1
    show BX6_read_10 (DX6_read_10 post fu) post (a + 1) (lN w) (nI c) d (nI (A.2.2 0)) s
    unfold BX6_read_10
    rw [DW_R sW (i := 1) (f := 4) (j := 3) (by decide)]
    exact ⟨DW_T sW (by decide), pk_le (A.2.2 0) (A.2.2 0) (fun _ => h s hs.1 hs.2) (fun c => by omega) sD.2.1 rfl (by omega) (by omega)⟩
  · have sW := DW_P3 hW hs.1
    have sD := DE_P3 hD hz hs.1
    have sz := sW.2.2.2.2
    have sT : ddT s (a + 1) = 7 := DW_T sW (by decide)
    show BX6_read_10 (DX6_read_10 post fu) post (a + 1) (lN w) (nI c) d (nI i) s
    unfold BX6_read_10
    rw [nI_1]
    have no : isN A w c d i = false → isG A w c d i = false → DX6_read_10 post fu (a + 1) (lN w) (nI c) d (nI (i + 1)) s := fun z1 z2 => hk s ⟨hs.1, by
      unfold ex_ nb_ lmq_ mmq_
      rw [z1, z2, Bool.or_false]
      exact hs.2⟩
    refine ⟨sT, pk_le (A.2.2 0) i (fun c => by omega) (fun _ => se_entryI sW sD hi fun q hq => co_some q ⟨hq.T, se_inF hq (bz (fun z => no (by unfold isN; rw [z]; rfl) (by unfold isG; rw [z]; rfl)) (fun z => ⟨hq.T, se_fits hq.2.2.2.1 hw hc (bz (fun z1 => no ?_ ?_) (fun z1 => ⟨sT, a + 3, DW_R sW (by decide), DW_T sW (by decide), ?_⟩))⟩))⟩ rfl) sD.2.1 rfl (by omega) (by omega)⟩
    · unfold isN nmB; rw [z1, Bool.and_false, Bool.and_false]
    · unfold isG goB
      unfold ftB at z1
      rw [Bool.and_eq_false_iff] at z1
      rcases z1 with z1 | z1
      · rw [decide_eq_false (by have := of_decide_eq_false z1; omega), Bool.false_and, Bool.and_false]
      · rw [z1, Bool.and_false, Bool.and_false]
    · have z1' := z1
      unfold ftB at z1
      rw [Bool.and_eq_true, decide_eq_true_eq] at z1
      have eN : isN A w c d i = decide (A.1 4 i ≤ c) := by unfold isN nmB; rw [z, z1', Bool.and_true, Bool.true_and]
      have eG : isG A w c d i = decide (c < A.1 5 i) := by unfold isG goB; rw [z, z1.2, Bool.and_true, Bool.true_and]
      refine se_radd (DW_T sW (by decide)) sz hq.2.1 hq.2.2.1 hq.2.2.2.1 hs.2 z1.1 (lm_lt (fun e he => hGW e (by omega))) (mm_lt (fun e he => hGW e (by omega))) (fun M1 u1 r1 => hk M1 ⟨hs.1.tt u1, ?_⟩)
      unfold ex_ nb_ lmq_ mmq_
      rw [eN, eG]
      simp only [decide_eq_true_eq]
      exact r1
/-! the model's reading -/
def HD (m : Nat) (M : Mm) (w c : Nat) : Prop := ddI M m 32 = nI c ∧ ∀ i, i < c → ddI M (m + 28) i = nI (dg_ w c i)
section MRD
variable {m : Nat} {M : Mm} {A : Ab} {w c : Nat} {d : Int32} {post : Int32 → Mm → Prop}
theorem sp_isBegun {e : Nat} (hM : MW m M) (hR : MR m M A.1 e) (he : e < 130) (hH : HD m M w c) (hc : c ≤ 16) (h : post (b2_ (bgB A.1 e w c)) M) : PX11_isBegun m (nI e) M post := by
  obtain ⟨a1, a2, a3⟩ := hM.f31
  have hG := hR.2.2.2.2.2.2
  refine pk_loop (fun fu i (_ : Unit) => DX11_isBegun_2 post fu m (nI e) (nI i) M) (fun i _ => ∀ k, k < i → (mayN A.1 e k).testBit (dg_ w c k) = true) c 0 () (by omega) (fun k hk => by omega) (fun fu _ hs => ?_) (fun fu i _ hi hs hk => ?_)
  · show BX11_isBegun_2 (DX11_isBegun_2 post fu) post m (nI e) (nI c) M
    refine ⟨hM.1, pk_le c c (fun _ => ?_) (fun z => by omega) hH.1 rfl (by omega) (by omega)⟩
    have e1 : bgB A.1 e w c = true := all_lt.mpr hs
    rw [e1] at h
    exact h
  · show BX11_isBegun_2 (DX11_isBegun_2 post fu) post m (nI e) (nI i) M
    unfold BX11_isBegun_2
    rw [nI_1, nI_cl (by omega)]
    refine ⟨hM.1, pk_le c i (fun z => by omega) (fun _ => sp_may hM hR he (by omega) ⟨hM.1, m + 28, a1, a2, by rw [a3]; exact nI_in2 (by omega) (by decide), ?_⟩) hH.1 rfl (by omega) (by omega)⟩
    have hml := mayN_lt hG i
    have hd := dg_lt w c i
    rw [hH.2 i hi, sh_bit (by omega) (by omega)]
    refine bn (fun z => hk () (fun k hk2 => ?_)) (fun z => ?_)
    · rcases Nat.lt_or_ge k i with q | q
      · exact hs k q
      · rw [show k = i by omega]; exact z
    · have e1 : bgB A.1 e w c = false := all_no (i := i) hi z
      rw [e1] at h
      exact h
theorem sp_isNumber {e : Nat} (hM : MW m M) (hR : MR m M A.1 e) (he : e < 130) (hH : HD m M w c) (hc : c ≤ 16) (h : post (b2_ (nmB A.1 w c e)) M) : PX11_isNumber m (nI e) M post := by
  obtain ⟨a1, a2, a3⟩ := hM.f6
  obtain ⟨b1, b2, b3⟩ := hM.f7
  have hG := hR.2.2.2.2.2.2
  have g4 := hG.2.2.2.2.2.1
  have g5 := hG.2.2.2.2.2.2.1
  have hin : vp_in (nI e) 130 := nI_in2 he (by decide)
  unfold PX11_isNumber
  rw [nI_cl (by omega), hH.1]
  refine ⟨hM.1, m + 5, a1, a2, by rw [a3]; exact hin, m + 6, b1, b2, by rw [b3]; exact hin, ?_⟩
  rw [hR.2.2.2.1, hR.2.2.2.2.1]
  refine sp_in ?_
  rw [wd_T, wd_T, wd_T, nI_T (by omega), nI_T (by omega), nI_T (by omega)]
  refine bz (fun z => ?_) (fun z => ⟨hM.1, sp_isBegun hM hR he hH hc (bz (fun z1 => ?_) (fun z1 => ?_))⟩)
  · have z := wi_f.mp z
    have e1 : nmB A.1 w c e = false := by
      unfold nmB ftB
      by_cases q : A.1 4 e ≤ c
      · rw [decide_eq_true q, decide_eq_false (by omega : ¬ c ≤ A.1 5 e)]; rfl
      · rw [decide_eq_false q]; rfl
    rw [e1] at h; exact h
  · have e1 : nmB A.1 w c e = false := by unfold nmB ftB; rw [z1, Bool.and_false, Bool.and_false]
    rw [e1] at h; exact h
  · have z := wi_t.mp z
    have e1 : nmB A.1 w c e = true := by unfold nmB ftB; rw [z1, decide_eq_true (by omega), decide_eq_true (by omega)]; rfl
    rw [e1] at h; exact h
theorem sp_goesOn {e : Nat} (hM : MW m M) (hR : MR m M A.1 e) (he : e < 130) (hH : HD m M w c) (hc : c ≤ 16) (h : post (b2_ (goB A.1 w c e)) M) : PX11_goesOn m (nI e) M post := by
  obtain ⟨b1, b2, b3⟩ := hM.f7
  have hG := hR.2.2.2.2.2.2
  have g5 := hG.2.2.2.2.2.2.1
  have hin : vp_in (nI e) 130 := nI_in2 he (by decide)
  unfold PX11_goesOn
  rw [nI_cl (by omega)]
  refine ⟨hM.1, m + 6, b1, b2, by rw [b3]; exact hin, ?_⟩
  rw [hR.2.2.2.2.1, hH.1]
  refine pk_le (A.1 5 e) c (fun z => ?_) (fun z => sp_isBegun hM hR he hH hc (bz (fun z1 => ?_) (fun z1 => ?_))) rfl rfl (by omega) (by omega)
  · have e1 : goB A.1 w c e = false := by unfold goB; rw [decide_eq_false (by omega)]; rfl
    rw [e1] at h; exact h
  · have e1 : goB A.1 w c e = false := by unfold goB; rw [z1, Bool.and_false]
    rw [e1] at h; exact h
  · have e1 : goB A.1 w c e = true := by unfold goB; rw [z1, decide_eq_true z]; rfl
    rw [e1] at h; exact h
def ans_ (A : Ab) (w c : Nat) (d : Int32) : Nat := if ex_ (isN A w c d) (A.2.2 0) then (if ex_ (isG A w c d) (A.2.2 0) then 2 else 1) else (if ex_ (isG A w c d) (A.2.2 0) then 0 else 3)
theorem sp_answer (hM : MW m M) (hE : ME m M A) (hH : HD m M w c) (hc : c ≤ 16) (h : post (nI (ans_ A w c d)) M) : PX11_answer m d M post := by
  have h120 := hE.1
  refine pk_loop (fun fu i (s : Bool × Bool) => DX11_answer_7 post fu m d (b2_ s.1) (b2_ s.2) (nI i) M) (fun i s => s.1 = ex_ (isN A w c d) i ∧ s.2 = ex_ (isG A w c d) i) (A.2.2 0) 0 (false, false) (by omega) ⟨rfl, rfl⟩ (fun fu s hs => ?_) (fun fu i s hi hs hk => ?_)
  · show BX11_answer_7 (DX11_answer_7 post fu) post m d (b2_ s.1) (b2_ s.2) (nI (A.2.2 0)) M
    refine ⟨hM.1, pk_le (A.2.2 0) (A.2.2 0) (fun _ => ?_) (fun z => by omega) hE.2.1 rfl (by omega) (by omega)⟩
    unfold ans_ at h
    rw [← hs.1, ← hs.2] at h
    refine bz (fun z => bz (fun z1 => ?_) (fun z1 => ?_)) (fun z => bz (fun z1 => ?_) (fun z1 => ?_))
    · rw [z, z1] at h; exact h
    · rw [z, z1] at h; exact h
    · rw [z, z1] at h; exact h
    · rw [z, z1] at h; exact h
  · show BX11_answer_7 (DX11_answer_7 post fu) post m d (b2_ s.1) (b2_ s.2) (nI i) M
    unfold BX11_answer_7
    have hR := (hE.2.2 i hi).1
    have key : inF A i d = true → ∀ b, b = (s.1 || isN A w c d i) → BX11_answer_47 (DX11_answer_7 post fu) post m d (b2_ s.2) (nI i) (b2_ b) M := fun zf b hb => by
      unfold BX11_answer_47
      rw [nI_1]
      refine bn (fun z => ?_) (fun z => ⟨hM.1, sp_goesOn hM hR (by omega) hH hc (bz (fun z1 => ?_) (fun z1 => ?_))⟩)
      · exact hk (b, true) ⟨by rw [hb, hs.1]; rfl, by show true = (_ || _); rw [← hs.2, z]; rfl⟩
      · exact hk (b, false) ⟨by rw [hb, hs.1]; rfl, by show false = (_ || _); rw [← hs.2, z]; unfold isG; rw [z1, Bool.and_false]; rfl⟩
      · exact hk (b, true) ⟨by rw [hb, hs.1]; rfl, by show true = (_ || _); rw [← hs.2, z]; unfold isG; rw [z1, zf]; rfl⟩
    refine ⟨hM.1, pk_le (A.2.2 0) i (fun z => by omega) (fun _ => sp_inF hM hE hi (bn (fun z => bn (fun z1 => ?_) (fun z1 => ⟨hM.1, sp_isNumber hM hR (by omega) hH hc (bz (fun z2 => ?_) (fun z2 => ?_))⟩)) (fun z => ?_))) hE.2.1 rfl (by omega) (by omega)⟩
    · exact key z true (by rw [z1]; rfl)
    · exact key z false (by rw [z1]; unfold isN; rw [z2, Bool.and_false]; rfl)
    · exact key z true (by rw [z1]; unfold isN; rw [z2, z]; rfl)
    · rw [nI_1]
      exact hk s ⟨by show _ = (_ || _); rw [hs.1]; unfold isN; rw [z, Bool.false_and, Bool.or_false], by show _ = (_ || _); rw [hs.2]; unfold isG; rw [z, Bool.false_and, Bool.or_false]⟩
theorem sp_behind (hM : MW m M) (hE : ME m M A) (hH : HD m M w c) (hc : c ≤ 16) (h : post (nI (nb_ A w c d (A.2.2 0))) M) : PX11_behind m d M post := by
  have h120 := hE.1
  refine pk_loop (fun fu i (s : Int32) => DX11_behind_4 post fu m d s (nI i) M) (fun i s => s = nI (nb_ A w c d i)) (A.2.2 0) 0 0 (by omega) rfl (fun fu s hs => ?_) (fun fu i s hi hs hk => ?_)
  · show BX11_behind_4 (DX11_behind_4 post fu) post m d s (nI (A.2.2 0)) M
    exact ⟨hM.1, pk_le (A.2.2 0) (A.2.2 0) (fun _ => by rw [hs]; exact h) (fun z => by omega) hE.2.1 rfl (by omega) (by omega)⟩
  · show BX11_behind_4 (DX11_behind_4 post fu) post m d s (nI i) M
    unfold BX11_behind_4
    rw [nI_1]
    have hR := (hE.2.2 i hi).1
    have no : isG A w c d i = false → DX11_behind_4 post fu m d s (nI (i + 1)) M := fun z => hk s (by rw [hs, nb_s, z]; rfl)
    refine ⟨hM.1, pk_le (A.2.2 0) i (fun z => by omega) (fun _ => sp_inF hM hE hi (bz (fun z => no (by unfold isG; rw [z]; rfl)) (fun z => ⟨hM.1, sp_goesOn hM hR (by omega) hH hc (bz (fun z1 => no (by unfold isG; rw [z1, Bool.and_false])) (fun z1 => ⟨hM.1, ?_⟩))⟩))) hE.2.1 rfl (by omega) (by omega)⟩
    rw [hH.1]
    refine sp_may hM hR (by omega) (by omega) (fun v ev => hk v ?_)
    have zG : isG A w c d i = true := by unfold isG; rw [z, z1]; rfl
    rw [ev, hs, fa_or, nb_s, if_pos zG]
theorem sp_toCome {b : Bool} (hM : MW m M) (hE : ME m M A) (hH : HD m M w c) (hc : c ≤ 16) (h : post (pM (if b then lmq_ A w c d (A.2.2 0) else mmq_ A w c d (A.2.2 0))) M) : PX11_toCome m d (b2_ b) M post := by
  have h120 := hE.1
  have hGW := GW_M hE
  obtain ⟨a1, a2, a3⟩ := hM.f6
  obtain ⟨b1, b2, b3⟩ := hM.f7
  refine pk_loop (fun fu i (s : Int32) => DX11_toCome_5 post fu m d (b2_ b) s (nI i) M) (fun i s => s = pM (if b then lmq_ A w c d i else mmq_ A w c d i)) (A.2.2 0) 0 (-1) (by omega) (by cases b <;> rfl) (fun fu s hs => ?_) (fun fu i s hi hs hk => ?_)
  · show BX11_toCome_5 (DX11_toCome_5 post fu) post m d (b2_ b) s (nI (A.2.2 0)) M
    exact ⟨hM.1, pk_le (A.2.2 0) (A.2.2 0) (fun _ => by rw [hs]; exact h) (fun z => by omega) hE.2.1 rfl (by omega) (by omega)⟩
  · show BX11_toCome_5 (DX11_toCome_5 post fu) post m d (b2_ b) s (nI i) M
    unfold BX11_toCome_5
    rw [nI_1, nI_cl (by omega)]
    have hR := (hE.2.2 i hi).1
    have hG := hGW i hi
    have g4 := hG.2.2.2.2.2.1
    have g5 := hG.2.2.2.2.2.2.1
    have hin : vp_in (nI i) 130 := nI_in2 (by omega) (by decide)
    have no : isG A w c d i = false → DX11_toCome_5 post fu m d (b2_ b) s (nI (i + 1)) M := fun z => hk s (by
      rw [hs, lmq_s, mmq_s, z]; rfl)
    refine ⟨hM.1, pk_le (A.2.2 0) i (fun z => by omega) (fun _ => sp_inF hM hE hi (bz (fun z => no (by unfold isG; rw [z]; rfl)) (fun z => ⟨hM.1, sp_goesOn hM hR (by omega) hH hc (bn (fun z1 => ⟨hM.1, m + 5, a1, a2, by rw [a3]; exact hin, ?_⟩) (fun z1 => no (by unfold isG; rw [z1, Bool.and_false])))⟩))) hE.2.1 rfl (by omega) (by omega)⟩
    have zG : isG A w c d i = true := by unfold isG; rw [z, z1]; rfl
    have zc : c < A.1 5 i := by unfold goB at z1; rw [Bool.and_eq_true, decide_eq_true_eq] at z1; exact z1.1
    have l1 : lmq_ A w c d (i + 1) = mnO (lmq_ A w c d i) (lw_ A.1 c i) := by rw [lmq_s, if_pos zG]
    have l2 : mmq_ A w c d (i + 1) = mxO (mmq_ A w c d i) (A.1 5 i - c) := by rw [mmq_s, if_pos zG]
    have hlw : lw_ A.1 c i ≤ 15 := by unfold lw_; split <;> omega
    have ll := lm_lt (A := A) (w := w) (c := c) (d := d) (n := i) (fun e he => hGW e (by omega))
    have lm := mm_lt (A := A) (w := w) (c := c) (d := d) (n := i) (fun e he => hGW e (by omega))
    have key : BX11_toCome_66 (DX11_toCome_5 post fu) post m d (b2_ b) s (nI i) (nI (lw_ A.1 c i)) M := by
      unfold BX11_toCome_66
      rw [nI_1, nI_cl (by omega)]
      refine ⟨hM.1, m + 6, b1, b2, by rw [b3]; exact hin, fun v ev => ?_⟩
      rw [hR.2.2.2.2.1, hH.1, pk_sub (by omega)] at ev
      rw [ev, hs]
      refine bz (fun zb => ?_) (fun zb => ?_)
      · subst zb
        rw [if_neg (by decide)]
        cases ho : mmq_ A w c d i with
        | none =>
          refine ⟨fun y => ?_, fun y => hk _ ?_⟩
          · exfalso
            rw [xi_le, nI_T (by omega)] at y
            have y : ((A.1 5 i - c : Nat) : Int) ≤ -1 := y
            omega
          · rw [if_neg (by decide), l2, ho]; rfl
        | some x =>
          have := lm x ho
          refine pk_le (A.1 5 i - c) x (fun y => hk _ ?_) (fun y => hk _ ?_) rfl rfl (by omega) (by omega)
          · rw [if_neg (by decide), l2, ho]; unfold mxO; dsimp only; rw [if_neg (by omega)]
          · rw [if_neg (by decide), l2, ho]; unfold mxO; dsimp only; rw [if_pos y]; rfl
      · subst zb
        rw [if_pos rfl]
        cases ho : lmq_ A w c d i with
        | none => exact ⟨fun _ => hk _ (by rw [if_pos rfl, l1, ho]; rfl), fun y => absurd rfl y⟩
        | some x =>
          have := ll x ho
          refine ⟨fun y => absurd y (nI_m1 (by omega)), fun _ => ?_⟩
          refine pk_le x (lw_ A.1 c i) (fun y => hk _ ?_) (fun y => hk _ ?_) rfl rfl (by omega) (by omega)
          · rw [if_pos rfl, l1, ho]; unfold mnO; dsimp only; rw [if_neg (by omega)]
          · rw [if_pos rfl, l1, ho]; unfold mnO; dsimp only; rw [if_pos y]; rfl
    rw [hR.2.2.2.1, hH.1]
    refine pk_le (A.1 4 i) c (fun y => ?_) (fun y => ⟨by rw [a3]; exact hin, ?_⟩) rfl rfl (by omega) (by omega)
    · rw [show lw_ A.1 c i = 1 by unfold lw_; rw [if_neg (by omega)]] at key
      exact key
    · rw [show lw_ A.1 c i = A.1 4 i - c by unfold lw_; rw [if_pos y]] at key
      rw [pk_sub (by omega)]
      exact key
end MRD
