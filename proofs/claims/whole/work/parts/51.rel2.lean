/-! the weeks that turn, with options -/
def ntO (A : Ab) (x : Int32) (w : Nat) : Nat → Nat
  | 0 => ntN A x w (A.2.2 0)
  | o + 1 => so_ (ntO A x w o) (wbN (A.1 6 (121 + o))) w
theorem no_s {A : Ab} {x : Int32} {w o : Nat} : ntO A x w (o + 1) = so_ (ntO A x w o) (wbN (A.1 6 (121 + o))) w := rfl
theorem no_mono {A : Ab} {x : Int32} {w o : Nat} : ∀ {n : Nat}, o ≤ n → ntO A x w n ≤ ntO A x w o
  | 0, h => by rw [show o = 0 by omega]; exact Nat.le_refl _
  | n + 1, h => by
    rcases Nat.lt_or_ge o (n + 1) with q | q
    · have h1 : ntO A x w (n + 1) ≤ ntO A x w n := so_le
      exact Nat.le_trans h1 (no_mono (o := o) (n := n) (by omega))
    · rw [show o = n + 1 by omega]; exact Nat.le_refl _
theorem no_lt {A : Ab} {x : Int32} {w : Nat} (hw : w < 2001) : ∀ n, w < ntO A x w n
  | 0 => nt_lt hw _
  | n + 1 => by rw [no_s]; exact so_lt (no_lt hw n)
theorem no_le {A : Ab} {x : Int32} {w n : Nat} : ntO A x w n ≤ ntN A x w (A.2.2 0) := no_mono (o := 0) (by omega)
theorem no_first {A : Ab} {x : Int32} {w n o : Nat} (ho : o < n) (h : w < wbN (A.1 6 (121 + o))) : ntO A x w n ≤ wbN (A.1 6 (121 + o)) := by
  refine Nat.le_trans (no_mono (o := o + 1) (by omega)) ?_
  rw [no_s]
  exact so_t h
theorem oS_const {A : Ab} {x : Int32} {s w w' : Nat} (h1 : w ≤ w') (h2 : w' < ntO A x w (A.2.2 3)) : oS_ A s w' = oS_ A s w := by
  refine sm_cg (fun o ho => ?_)
  have e : (A.1 6 (121 + o) ≤ 7 * w') ↔ (A.1 6 (121 + o) ≤ 7 * w) := by
    constructor
    · intro h
      rcases Nat.lt_or_ge w (wbN (A.1 6 (121 + o))) with q | q
      · have := no_first (x := x) ho q
        unfold wbN at this q
        omega
      · unfold wbN at q; omega
    · intro h; omega
  by_cases hc : s.testBit o = true ∧ A.1 6 (121 + o) ≤ 7 * w
  · rw [if_pos hc, if_pos ⟨hc.1, e.mpr hc.2⟩]
  · rw [if_neg hc, if_neg (fun z => hc ⟨z.1, e.mp z.2⟩)]
/-! how many turns are to come -/
def tf1 (A : Ab) (x : Int32) (w e : Nat) : Bool := blk_ A x e && decide (w < wbN (A.1 6 e))
def tf2 (A : Ab) (x : Int32) (w e : Nat) : Bool := blk_ A x e && (!decide (A.2.1 1 e = -1) && decide (w < wbN (ed_ A e)))
def tf3 (A : Ab) (w o : Nat) : Bool := decide (w < wbN (A.1 6 (121 + o)))
def tc_ (A : Ab) (x : Int32) (w : Nat) : Nat := ct_ (tf1 A x w) (A.2.2 0) + ct_ (tf2 A x w) (A.2.2 0) + ct_ (tf3 A w) (A.2.2 3)
theorem ct_sub {f g : Nat → Bool} : ∀ {n : Nat}, (∀ i, i < n → f i = true → g i = true) → ct_ f n ≤ ct_ g n
  | 0, _ => Nat.le_refl _
  | n + 1, h => by
    have ih := ct_sub (f := f) (g := g) (n := n) (fun i hi => h i (by omega))
    cases hf : f n with
    | false =>
      rw [ct_f hf]
      exact Nat.le_trans ih (ct_mono (by omega))
    | true => rw [ct_t hf, ct_t (h n (by omega) hf)]; omega
theorem ct_str {f g : Nat → Bool} {k : Nat} : ∀ {n : Nat}, (∀ i, i < n → f i = true → g i = true) → k < n → f k = false → g k = true → ct_ f n + 1 ≤ ct_ g n
  | 0, _, h, _, _ => by omega
  | n + 1, h, hk, h1, h2 => by
    rcases Nat.lt_or_ge k n with q | q
    · have ih := ct_str (f := f) (g := g) (n := n) (fun i hi => h i (by omega)) q h1 h2
      cases hf : f n with
      | false => rw [ct_f hf]; exact Nat.le_trans ih (ct_mono (by omega))
      | true => rw [ct_t hf, ct_t (h n (by omega) hf)]; omega
    · have e : k = n := by omega
      subst e
      rw [ct_f h1, ct_t h2]
      have := ct_sub (f := f) (g := g) (n := k) (fun i hi => h i (by omega))
      omega
theorem tc_le {A : Ab} {x : Int32} {w : Nat} (h1 : A.2.2 0 ≤ 120) (h2 : A.2.2 3 ≤ 8) : tc_ A x w ≤ 248 := by
  unfold tc_
  have a1 := ct_le (f := tf1 A x w) (A.2.2 0)
  have a2 := ct_le (f := tf2 A x w) (A.2.2 0)
  have a3 := ct_le (f := tf3 A w) (A.2.2 3)
  omega
def trn (A : Ab) (x : Int32) (n n3 t : Nat) : Prop := (∃ e, e < n ∧ blk_ A x e = true ∧ wbN (A.1 6 e) = t) ∨ (∃ e, e < n ∧ blk_ A x e = true ∧ ¬ A.2.1 1 e = -1 ∧ wbN (ed_ A e) = t) ∨ ∃ o, o < n3 ∧ wbN (A.1 6 (121 + o)) = t
theorem so_or (nx t w : Nat) : so_ nx t w = nx ∨ so_ nx t w = t := by unfold so_; split <;> simp
theorem nt_trn {A : Ab} {x : Int32} {w : Nat} : ∀ n, ntN A x w n < 2001 → trn A x n 0 (ntN A x w n)
  | 0, h => absurd h (by show ¬ (2001 < 2001); omega)
  | n + 1, h => by
    have up : ∀ t, trn A x n 0 t → trn A x (n + 1) 0 t := fun t z => by
      rcases z with ⟨e, z1, z2⟩ | ⟨e, z1, z2⟩ | ⟨o, z1, -⟩
      · exact Or.inl ⟨e, by omega, z2⟩
      · exact Or.inr (Or.inl ⟨e, by omega, z2⟩)
      · omega
    have ih := nt_trn (A := A) (x := x) (w := w) n
    rw [nt_s] at h ⊢
    split
    · next hb =>
      rw [if_pos hb] at h
      split
      · next he =>
        rw [if_pos he] at h
        rcases so_or (ntN A x w n) (wbN (A.1 6 n)) w with z | z
        · rw [z] at h ⊢; exact up _ (ih h)
        · rw [z]; exact Or.inl ⟨n, by omega, hb, rfl⟩
      · next he =>
        rw [if_neg he] at h
        rcases so_or (so_ (ntN A x w n) (wbN (A.1 6 n)) w) (wbN (ed_ A n)) w with z | z
        · rw [z] at h ⊢
          rcases so_or (ntN A x w n) (wbN (A.1 6 n)) w with z | z
          · rw [z] at h ⊢; exact up _ (ih h)
          · rw [z]; exact Or.inl ⟨n, by omega, hb, rfl⟩
        · rw [z]; exact Or.inr (Or.inl ⟨n, by omega, hb, he, rfl⟩)
    · next hb =>
      rw [if_neg hb] at h
      exact up _ (ih h)
theorem no_trn {A : Ab} {x : Int32} {w : Nat} : ∀ n, ntO A x w n < 2001 → trn A x (A.2.2 0) n (ntO A x w n)
  | 0, h => nt_trn _ h
  | n + 1, h => by
    have ih := no_trn (A := A) (x := x) (w := w) n
    rw [no_s] at h ⊢
    rcases so_or (ntO A x w n) (wbN (A.1 6 (121 + n))) w with z | z
    · rw [z] at h ⊢
      rcases ih h with y | y | ⟨o, y1, y2⟩
      · exact Or.inl y
      · exact Or.inr (Or.inl y)
      · exact Or.inr (Or.inr ⟨o, by omega, y2⟩)
    · rw [z]; exact Or.inr (Or.inr ⟨n, by omega, rfl⟩)
theorem tc_step {A : Ab} {x : Int32} {w t : Nat} (hw : w < t) (h : trn A x (A.2.2 0) (A.2.2 3) t) : tc_ A x t + 1 ≤ tc_ A x w := by
  have s1 : ∀ i, i < A.2.2 0 → tf1 A x t i = true → tf1 A x w i = true := fun i _ q => by
    unfold tf1 at q ⊢
    rw [Bool.and_eq_true, decide_eq_true_eq] at q ⊢
    exact ⟨q.1, by omega⟩
  have s2 : ∀ i, i < A.2.2 0 → tf2 A x t i = true → tf2 A x w i = true := fun i _ q => by
    unfold tf2 at q ⊢
    rw [Bool.and_eq_true, Bool.and_eq_true, decide_eq_true_eq] at q ⊢
    exact ⟨q.1, q.2.1, by omega⟩
  have s3 : ∀ i, i < A.2.2 3 → tf3 A t i = true → tf3 A w i = true := fun i _ q => by
    unfold tf3 at q ⊢
    rw [decide_eq_true_eq] at q ⊢
    omega
  have a1 := ct_sub s1
  have a2 := ct_sub s2
  have a3 := ct_sub s3
  unfold tc_
  rcases h with ⟨e, h1, h2, h3⟩ | ⟨e, h1, h2, h3, h4⟩ | ⟨o, h1, h2⟩
  · have := ct_str s1 h1 (by unfold tf1; rw [decide_eq_false (by omega), Bool.and_false]) (by unfold tf1; rw [h2, decide_eq_true (by omega)]; rfl)
    omega
  · have := ct_str s2 h1 (by unfold tf2; rw [decide_eq_false (by omega : ¬ t < wbN (ed_ A e)), Bool.and_false, Bool.and_false]) (by unfold tf2; rw [h2, decide_eq_false h3, decide_eq_true (by omega : w < wbN (ed_ A e))]; rfl)
    omega
  · have := ct_str s3 h1 (by unfold tf3; rw [decide_eq_false (by omega)]) (by unfold tf3; rw [decide_eq_true (by omega)])
    omega
section RL
variable {a : Nat} {M : Mm} {A : Ab}
theorem se_nextTurnO {x : Int32} {w : Nat} {post : Int32 → Mm → Prop} (hD : DS a M A) (hA : WA A) (hw : w < 2001) (h : post (nI (ntO A x w (A.2.2 3))) M) : PX9_nextTurnWithOptions (a + 11) x (nI w) M post := by
  have hDO := hD.2.2.2.2.2.2
  have h8 := hDO.1
  have t10 : ddT M (a + 11) = 10 := DW_T hD.1 (by decide)
  have n1 := nt_2001 (A := A) (x := x) (w := w) (n := A.2.2 0)
  refine ⟨t10, a + 1, DW_R hD.1 (by decide), DW_T hD.1 (by decide), se_nextTurn hD.1 hD.2.2.2.2.1 hA hw ?_⟩
  refine pk_loop (fun fu i (s : Int32) => DX9_nextTurnWithOptions_13 post fu (a + 11) (nI w) s (nI i) M) (fun i s => s = nI (ntO A x w i)) (A.2.2 3) 0 (nI (ntN A x w (A.2.2 0))) (by omega) rfl (fun fu s hs => ?_) (fun fu i s hi hs hk => ?_)
  · show BX9_nextTurnWithOptions_13 (DX9_nextTurnWithOptions_13 post fu) post (a + 11) (nI w) s (nI (A.2.2 3)) M
    exact ⟨t10, pk_le (A.2.2 3) (A.2.2 3) (fun _ => by rw [hs]; exact h) (fun c => by omega) hDO.2.1 rfl (by omega) (by omega)⟩
  · show BX9_nextTurnWithOptions_13 (DX9_nextTurnWithOptions_13 post fu) post (a + 11) (nI w) s (nI i) M
    unfold BX9_nextTurnWithOptions_13
    rw [nI_1]
    have n2 := no_le (A := A) (x := x) (w := w) (n := i)
    refine ⟨t10, pk_le (A.2.2 3) i (fun c => by omega) (fun _ => se_optionI hD.1 hDO hi (fun q r hq ho => co_some q ⟨ho.2.1, r, ho.2.2.1, ho.2.2.2.2.2.2.1.1, ?_⟩ rfl)) hDO.2.1 rfl (by omega) (by omega)⟩
    have hO := ho.2.2.2.2.2.2.1
    have g6 := hO.2.2.2.2.2.2.2.2.1.2.2.2.2.2.2.2.1
    rw [hO.2.2.2.2.2.2.2.1]
    unfold PX10_weekBehind
    have wb1 : wbN (A.1 6 (121 + i)) ≤ 20006 := by unfold wbN; omega
    rw [wb_nI (by omega), hs]
    exact se_sooner (by omega) (by omega) (by omega) (hk _ (by rw [no_s]))
def PL3 (a b k : Nat) : Prop := b = a + 30 ∨ b = a + 31 ∨ (b = a + 11 ∧ k = 6)
theorem DS_L3 {M' : Mm} (h : DS a M A) (u : Un (PL3 a) M M') : DS a M' A := DS_scr h u (fun b k z => by unfold PL3 at z; unfold Scr; omega)
theorem se_noteLacks {j s0 last : Nat} {post : Mm → Prop} (hD : DS a M A) (hA : WA A) (hj : j < 16) (hs0 : s0 ≤ 2000) (hl : last ≤ 2000)
    (h : ∀ M1 k W L, Un (PL3 a) M M1 → LK a M1 k W L → (∀ s, (∀ i, i < k → L i ≤ oS_ A s (W i)) ↔ ∀ w, s0 ≤ w → w ≤ last → as_ A j w ≤ rmW A (nI j) w + oS_ A s w) → post M1) : PX9_noteLacks (a + 11) (some (a + 13 + j)) (nI s0) (nI last) M post := by
  have h120 := hD.2.2.2.2.1.1
  have h8 := hD.2.2.2.2.2.2.1
  have hz := hD.1.2.2.2.2
  have hGW := GW_E hD.2.2.2.2.1
  have lp : ∀ (fu w : Nat) (S : Mm) (k : Nat) (W L : Nat → Nat), 2001 - w < fu → s0 ≤ w → w ≤ 2001 → Un (PL3 a) M S → LK a S k W L → (w ≤ last → k + tc_ A (nI j) w ≤ 248) → (∀ s, (∀ i, i < k → L i ≤ oS_ A s (W i)) ↔ ∀ w', s0 ≤ w' → w' < w → w' ≤ last → as_ A j w' ≤ rmW A (nI j) w' + oS_ A s w') → DX9_noteLacks_8 post fu (a + 11) (some (a + 13 + j)) (nI last) (nI w) S := by
    intro fu
    induction fu with
    | zero => intro w S k W L h1; omega
    | succ fu ih =>
      intro w S k W L h1 h2 h3 u hL hT hc
      have sD := DS_L3 hD u
      have sz := sD.1.2.2.2.2
      have t10 : ddT S (a + 11) = 10 := DW_T sD.1 (by decide)
      have t2 : ddT S (a + 13 + j) = 2 := by
        have := DW_T sD.1 (dwT13 j hj)
        rw [show a + (13 + j) = a + 13 + j by omega] at this
        exact this
      have ea : ddI S (a + 13 + j) 0 = nI j := sD.1.2.2.2.1 j hj
      show BX9_noteLacks_8 (DX9_noteLacks_8 post fu) post (a + 11) (some (a + 13 + j)) (nI last) (nI w) S
      unfold BX9_noteLacks_8
      refine pk_lt last w (fun y => h S k W L u hL (fun s => ?_)) (fun y => ⟨a + 13 + j, rfl, t2, t10, ?_⟩) rfl rfl (by omega) (by omega)
      · rw [hc s]
        exact ⟨fun z w' g1 g2 => z w' g1 (by omega) g2, fun z w' g1 _ g2 => z w' g1 g2⟩
      · rw [ea]
        obtain ⟨nx, enx⟩ : ∃ nx, nx = ntO A (nI j) w (A.2.2 3) := ⟨_, rfl⟩
        have n1 := no_lt (A := A) (x := nI j) (w := w) (by omega) (A.2.2 3)
        have n2 := no_le (A := A) (x := nI j) (w := w) (n := A.2.2 3)
        have n3 := nt_2001 (A := A) (x := nI j) (w := w) (n := A.2.2 0)
        refine se_nextTurnO sD hA (by omega) ?_
        rw [← enx] at n1 n2 ⊢
        rw [show nI nx - 1 = nI (nx - 1) from pk_sub (b := 1) (by omega)]
        have hRl := rmW_lt (A := A) (x := nI j) (w := w) h120 hGW
        obtain ⟨l1, l2, l3⟩ := id hL
        -- the stretch
        have str : ∀ ew, w ≤ ew → ew ≤ last → ew < nx → (∀ w', w ≤ w' → w' ≤ last → w' < nx → w' ≤ ew) → ∀ s, as_ A j ew ≤ rmW A (nI j) w + oS_ A s w ↔ ∀ w', w ≤ w' → w' < nx → w' ≤ last → as_ A j w' ≤ rmW A (nI j) w' + oS_ A s w' := fun ew e1 e2 e3 e4 s => by
          have cst : ∀ w', w ≤ w' → w' < nx → rmW A (nI j) w' = rmW A (nI j) w ∧ oS_ A s w' = oS_ A s w := fun w' g1 g2 => ⟨rm_const hA hGW g1 (by omega), oS_const (x := nI j) g1 (by rw [← enx]; exact g2)⟩
          constructor
          · intro z w' g1 g2 g3
            rw [(cst w' g1 g2).1, (cst w' g1 g2).2]
            exact Nat.le_trans (as_mono (e4 w' g1 g3 g2)) z
          · intro z
            have := z ew e1 e3 e2
            rw [(cst ew e1 e3).1, (cst ew e1 e3).2] at this
            exact this
        have cut : ∀ s, ((∀ i, i < k → L i ≤ oS_ A s (W i)) ∧ ∀ w', w ≤ w' → w' < nx → w' ≤ last → as_ A j w' ≤ rmW A (nI j) w' + oS_ A s w') ↔ ∀ w', s0 ≤ w' → w' < nx → w' ≤ last → as_ A j w' ≤ rmW A (nI j) w' + oS_ A s w' := fun s => by
          rw [hc s]
          constructor
          · intro z w' g1 g2 g3
            rcases Nat.lt_or_ge w' w with q | q
            · exact z.1 w' g1 q g3
            · exact z.2 w' q g2 g3
          · intro z
            exact ⟨fun w' g1 g2 g3 => z w' g1 (by omega) g3, fun w' g1 g2 g3 => z w' (by omega) g2 g3⟩
        have tstep : nx ≤ last → tc_ A (nI j) nx + 1 ≤ tc_ A (nI j) w := fun q => tc_step n1 (by rw [enx]; exact no_trn _ (by rw [← enx]; omega))
        have key : ∀ ew, w ≤ ew → ew ≤ last → ew < nx → (∀ w', w ≤ w' → w' ≤ last → w' < nx → w' ≤ ew) → ddT S (a + 13 + j) = 2 ∧ (PX1_askedIn (a + 13 + j) (nI ew) S (fun r13 M14 => ddT M14 (a + 11) = 10 ∧ (ddT M14 (a + 13 + j) = 2 ∧ (∃ aq17 : Nat, (ddR M14 (a + 11) 0) = some aq17 ∧ (ddT M14 aq17 = 7 ∧ (PX6_roomOf aq17 (ddI M14 (a + 13 + j) 0) (7 * nI w) M14 (fun r20 M21 => ∀ v22 : Int64, v22 = (r13 - r20) → (((lg_cmp v22 0) ≤ 0 → (PJ9_max_7cf53 (nI w + 1) (nI nx) M21 (fun r24 M25 => DX9_noteLacks_8 post fu (a + 11) (some (a + 13 + j)) (nI last) r24 M25))) ∧ (¬ (lg_cmp v22 0) ≤ 0 → (ddT M21 (a + 11) = 10 ∧ (∃ aq27 : Nat, (ddR M21 (a + 11) 5) = some aq27 ∧ (ddT M21 aq27 = 21 ∧ (((Int32.ofNat (ddN M21 aq27)) ≤ (ddI M21 (a + 11) 6) → (PJ9_max_7cf53 (nI w + 1) (nI nx) M21 (fun r31 M32 => DX9_noteLacks_8 post fu (a + 11) (some (a + 13 + j)) (nI last) r31 M32))) ∧ (¬ (Int32.ofNat (ddN M21 aq27)) ≤ (ddI M21 (a + 11) 6) → (∃ aq33 : Nat, (ddR M21 (a + 11) 4) = some aq33 ∧ (ddT M21 aq33 = 20 ∧ (((Int32.ofNat (ddN M21 aq33)) ≤ (ddI M21 (a + 11) 6) → (PJ9_max_7cf53 (nI w + 1) (nI nx) M21 (fun r37 M38 => DX9_noteLacks_8 post fu (a + 11) (some (a + 13 + j)) (nI last) r37 M38))) ∧ (¬ (Int32.ofNat (ddN M21 aq33)) ≤ (ddI M21 (a + 11) 6) → (vp_in (ddI M21 (a + 11) 6) (ddN M21 aq33) ∧ (∀ M40 : Mm, M40 = suI M21 aq33 (Int32.toNatClampNeg (ddI M21 (a + 11) 6)) (nI w) → (∃ aq41 : Nat, (ddR M40 (a + 11) 5) = some aq41 ∧ (ddT M40 aq41 = 21 ∧ (vp_in (ddI M40 (a + 11) 6) (ddN M40 aq41) ∧ (∀ M45 : Mm, M45 = suL M40 aq41 (Int32.toNatClampNeg (ddI M40 (a + 11) 6)) v22 → (∀ M46 : Mm, M46 = suI M45 (a + 11) 6 ((ddI M45 (a + 11) 6) + 1) → (PJ9_max_7cf53 (nI w + 1) (nI nx) M46 (fun r47 M48 => DX9_noteLacks_8 post fu (a + 11) (some (a + 13 + j)) (nI last) r47 M48))))))))))))))))))))))))))) := fun ew e1 e2 e3 e4 => by
          have hal := as_lt (w := ew) hA hj (by omega)
          have mx : ∀ S', DX9_noteLacks_8 post fu (a + 11) (some (a + 13 + j)) (nI last) (nI nx) S' → PJ9_max_7cf53 (nI w + 1) (nI nx) S' (fun r M' => DX9_noteLacks_8 post fu (a + 11) (some (a + 13 + j)) (nI last) r M') := fun S' z => by
            unfold PJ9_max_7cf53
            rw [nI_1, nI_ltI (by omega) (by omega)]
            refine ⟨fun _ => z, fun q => ?_⟩
            rw [show w + 1 = nx by omega]; exact z
          refine ⟨t2, se_askedIn sD.1 sD.2.2.1 hA hj (by omega) ⟨t10, t2, a + 1, DW_R sD.1 (by decide), DW_T sD.1 (by decide), ?_⟩⟩
          rw [ea, show (7 : Int32) * nI w = nI (7 * w) by rw [show (7 : Int32) = nI 7 from rfl, pk_mul]]
          refine se_roomOf sD.1 sD.2.2.2.2.1 (fun v22 e22 => ?_)
          have e22 : v22 = lN (as_ A j ew) - lN (rmW A (nI j) w) := e22
          have v22T : v22.toInt = (as_ A j ew : Int) - (rmW A (nI j) w : Int) := by
            rw [e22, xl_sub (by rw [pk_lT (by omega), pk_lT (by omega)]; omega) (by rw [pk_lT (by omega), pk_lT (by omega)]; omega), pk_lT (by omega), pk_lT (by omega)]
          rw [xl_le, v22T]
          refine ⟨fun z => mx S (ih nx S k W L (by omega) (by omega) (by omega) u hL (fun q => by have := tstep q; have := hT (by omega); omega) (fun s => ?_)), fun z => ⟨t10, a + 31, DW_R sD.1 (by decide), DW_T sD.1 (by decide), ?_⟩⟩
          · have z : (as_ A j ew : Int) - (rmW A (nI j) w : Int) ≤ 0 := z
            rw [← cut s]
            exact ⟨fun q => ⟨q, (str ew e1 e2 e3 e4 s).mp (by omega)⟩, fun q => q.1⟩
          · have z : ¬ (as_ A j ew : Int) - (rmW A (nI j) w : Int) ≤ 0 := z
            have hk248 := hT (by omega)
            have N30 : ddN S (a + 30) = 249 := DW_N sD.1 (by decide)
            have N31 : ddN S (a + 31) = 249 := DW_N sD.1 (by decide)
            rw [l1]
            refine pk_le 249 k (fun q => by omega) (fun _ => ⟨a + 30, DW_R sD.1 (by decide), DW_T sD.1 (by decide), pk_le 249 k (fun q => by omega) (fun _ => ⟨by rw [N30]; exact nI_in2 (by omega) (by decide), fun M40 E40 => ?_⟩) (by rw [N30]; rfl) rfl (by omega) (by omega)⟩) (by rw [N31]; rfl) rfl (by omega) (by omega)
            rw [nI_cl (by omega)] at E40
            have k40 : ddI M40 (a + 11) 6 = nI k := by rw [E40, gI_I, if_neg (by omega)]; exact l1
            rw [k40, nI_cl (by omega)]
            refine ⟨a + 31, by rw [E40]; exact DW_R sD.1 (by decide), by rw [E40]; exact DW_T sD.1 (by decide), by rw [E40]; show vp_in _ (ddN S _); rw [N31]; exact nI_in2 (by omega) (by decide), fun M45 E45 M46 E46 => ?_⟩
            have k45 : ddI M45 (a + 11) 6 = nI k := by rw [E45]; exact k40
            rw [k45, nI_1] at E46
            have u46 : Un (PL3 a) S M46 := by
              rw [E46, E45, E40]
              exact ((Un.sI.tr Un.sL).tr Un.sI).wk (fun b i _ q => by unfold PL3; omega)
            have ev22 : v22 = lN (as_ A j ew - rmW A (nI j) w) := by rw [e22, lN_sub (by omega)]
            refine mx M46 (ih nx M46 (k + 1) (fun i => if i = k then w else W i) (fun i => if i = k then as_ A j ew - rmW A (nI j) w else L i) (by omega) (by omega) (by omega) (u.tt u46) ⟨by rw [E46, gI_I, if_pos ⟨rfl, rfl⟩], by omega, fun i hi => ?_⟩ (fun q => by have := tstep q; omega) (fun s => ?_))
            · have x1 : ¬ (a + 30 = a + 11) := by omega
              have x2 : ¬ (a + 31 = a + 11) := by omega
              dsimp only
              by_cases hik : i = k
              · rw [if_pos hik, if_pos hik]
                refine ⟨?_, ?_, by omega, by omega⟩
                · rw [E46, gI_I, if_neg (by omega), E45]
                  show ddI M40 _ _ = _
                  rw [E40, gI_I, if_pos ⟨rfl, hik⟩]
                · rw [E46]
                  show ddL M45 _ _ = _
                  rw [E45, gL_L, if_pos ⟨rfl, hik⟩, ev22]
              · rw [if_neg hik, if_neg hik]
                obtain ⟨y1, y2, y3, y4⟩ := l3 i (by omega)
                refine ⟨?_, ?_, y3, y4⟩
                · rw [E46, gI_I, if_neg (by omega), E45]
                  show ddI M40 _ _ = _
                  rw [E40, gI_I, if_neg (fun q => hik q.2)]; exact y1
                · rw [E46]
                  show ddL M45 _ _ = _
                  rw [E45, gL_L, if_neg (fun q => hik q.2), E40]; exact y2
            · rw [← cut s, ← str ew e1 e2 e3 e4 s]
              constructor
              · intro q
                refine ⟨fun i hi => ?_, ?_⟩
                · have := q i (by omega)
                  rw [if_neg (by omega), if_neg (by omega)] at this
                  exact this
                · have := q k (by omega)
                  rw [if_pos rfl, if_pos rfl] at this
                  omega
              · intro q i hi
                by_cases hik : i = k
                · rw [if_pos hik, if_pos hik]
                  have := q.2
                  omega
                · rw [if_neg hik, if_neg hik]
                  exact q.1 i (by omega)
        unfold PJ9_min_7cf53
        rw [nI_ltI (by omega) (by omega)]
        exact ⟨fun q => key (nx - 1) (by omega) (by omega) (by omega) (fun w' _ _ g => by omega), fun q => key last (by omega) (by omega) (by omega) (fun w' _ g _ => g)⟩
  refine ⟨DW_T hD.1 (by decide), fun M2 E2 => ⟨2002, ?_⟩⟩
  have u2 : Un (PL3 a) M M2 := by rw [E2]; exact Un.sI.wk (fun b i _ q => Or.inr (Or.inr q))
  exact lp 2002 s0 M2 0 (fun _ => 0) (fun _ => 0) (by omega) (by omega) (by omega) u2 ⟨by rw [E2, gI_I, if_pos ⟨rfl, rfl⟩]; rfl, by omega, fun i hi => by omega⟩ (fun _ => by have := tc_le (A := A) (x := nI j) (w := s0) h120 h8; omega) (fun s => ⟨fun _ w' g1 g2 => by omega, fun _ i hi => by omega⟩)
end RL
