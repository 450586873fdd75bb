/-! pairs, pair -/
theorem ct_mono {f : Nat → Bool} {n : Nat} : ∀ {k : Nat}, n ≤ k → ct_ f n ≤ ct_ f k := by
  intro k h
  obtain ⟨d, rfl⟩ : ∃ d, k = n + d := ⟨k - n, by omega⟩
  rw [ct_add]
  omega
theorem ct_0 {f : Nat → Bool} : ∀ {n : Nat}, (∀ i, i < n → f i = false) → ct_ f n = 0
  | 0, _ => rfl
  | n + 1, h => by rw [ct_f (h n (by omega))]; exact ct_0 (fun i hi => h i (by omega))
theorem ct_far {f : Nat → Bool} {n k : Nat} (h : ∀ i, n ≤ i → i < n + k → f i = false) : ct_ f (n + k) = ct_ f n := by
  rw [ct_add, ct_0 (fun i hi => h (n + i) (by omega) (by omega)), Nat.add_zero]
def pf_ (A : Ab) (d : Int32) (e j : Nat) : Bool := decide (e < j) && (inF A j d && clB A.1 e j)
def pn_ (A : Ab) (d : Int32) (e : Nat) : Nat := ct_ (pf_ A d e) (A.2.2 0)
def pcn_ (A : Ab) (d : Int32) (e : Nat) : Nat := if inF A e d then pn_ A d e else 0
def an_pairs (A : Ab) (d : Int32) : Int32 := if wi_ d.toInt 0 20000 then nI (sm_ (pcn_ A d) (A.2.2 0)) else -2
def Pf (a : Nat) (b k : Nat) : Prop := b = a + 1 ∧ (k = 2 ∨ k = 3)
theorem rnP : ∀ q ∈ dw_R, ¬ (q.1 = 1 ∧ (q.2.1 = 2 ∨ q.2.1 = 3)) := by decide
theorem DW_Pf {a : Nat} {M M' : Mm} (h : DW a M) (u : Un (Pf a) M M') : DW a M' := by
  refine DW_keep h u (fun q hq z => ?_) (fun j hj z => by unfold Pf at z; omega)
  unfold Pf at z
  have := rnP q hq
  omega
theorem DE_Pf {a : Nat} {M M' : Mm} {A : Ab} (h : DE a M A) (hz : a + 65 ≤ ddZ M) (u : Un (Pf a) M M') : DE a M' A :=
  DE_keep h hz u (fun z => by unfold Pf at z; omega) (fun e z => by unfold Pf at z; omega) (fun q k hq _ z => by unfold Pf at z; have := hq.1; omega)
theorem Un.tt {P : Nat → Nat → Prop} {M M' M'' : Mm} (h : Un P M M') (h2 : Un P M' M'') : Un P M M'' := (h.tr h2).wk (fun _ _ _ q => q.elim id id)
theorem se_noteInForce {a : Nat} {M : Mm} {A : Ab} {d : Int32} {post : Mm → Prop} (hW : DW a M) (hD : DE a M A) (h : ∀ M1, Un (Pf a) M M1 → (∀ j, j < 128 → ck_ (ddL M1 (a + 1) 2) (ddL M1 (a + 1) 3) j = (decide (j < A.2.2 0) && inF A j d)) → post M1) : PX6_noteInForce (a + 1) d M post := by
  have h1 := hD.1
  have hz := hW.2.2.2.2
  refine ⟨DW_T hW (by decide), fun M2 E2 M3 E3 => ?_⟩
  have u3 : Un (Pf a) M M3 := by
    rw [E3, E2]
    exact (Un.sL.tr Un.sL).wk (fun b k _ z => by unfold Pf; omega)
  have c3 : ∀ j, ck_ (ddL M3 (a + 1) 2) (ddL M3 (a + 1) 3) j = false := fun j => by
    rw [E3, E2, gL_L, if_neg (by omega), gL_L, if_pos ⟨rfl, rfl⟩, gL_L, if_pos ⟨rfl, rfl⟩]
    exact ck_0 j
  refine pk_loop (fun fu i (s : Mm) => DX6_noteInForce_12 post fu (a + 1) d (nI i) s) (fun i s => Un (Pf a) M s ∧ ∀ j, j < 128 → ck_ (ddL s (a + 1) 2) (ddL s (a + 1) 3) j = (decide (j < i) && inF A j d)) (A.2.2 0) 0 M3 (by omega) ⟨u3, fun j _ => by rw [c3 j, decide_eq_false (by omega)]; rfl⟩ (fun fu s hs => ?_) (fun fu i s hi hs hk => ?_)
  · have sW := DW_Pf hW hs.1
    have sD := DE_Pf hD hz hs.1
    show BX6_noteInForce_12 (DX6_noteInForce_12 post fu) post (a + 1) d (nI (A.2.2 0)) s
    exact ⟨DW_T sW (by decide), pk_le (A.2.2 0) (A.2.2 0) (fun _ => h s hs.1 hs.2) (fun c => by omega) sD.2.1 rfl (by omega) (by omega)⟩
  · have sW := DW_Pf hW hs.1
    have sD := DE_Pf hD hz hs.1
    have sT : ddT s (a + 1) = 7 := DW_T sW (by decide)
    show BX6_noteInForce_12 (DX6_noteInForce_12 post fu) post (a + 1) d (nI i) s
    unfold BX6_noteInForce_12
    rw [nI_1]
    refine ⟨sT, pk_le (A.2.2 0) i (fun c => by omega) (fun _ => se_entryI sW sD hi fun q hq => co_some q ⟨hq.T, se_inF hq (bz (fun c => hk s ⟨hs.1, fun j hj => ?_⟩) (fun c => pk_le 64 i (fun c1 => ⟨sT, fun M4 E4 => hk M4 ⟨?_, fun j hj => ?_⟩⟩) (fun c1 => ⟨sT, fun M4 E4 => hk M4 ⟨?_, fun j hj => ?_⟩⟩) rfl rfl (by omega) (by omega)))⟩ rfl) sD.2.1 rfl (by omega) (by omega)⟩
    · rw [hs.2 j hj]
      by_cases hji : j = i
      · rw [hji, c, Bool.and_false, Bool.and_false]
      · by_cases hl : j < i
        · rw [decide_eq_true hl, decide_eq_true (by omega : j < i + 1)]
        · rw [decide_eq_false hl, decide_eq_false (by omega : ¬ j < i + 1)]
    · rw [E4]
      exact hs.1.tt (Un.sL.wk (fun b k _ z => by unfold Pf; omega))
    · rw [E4, gL_L, gL_L, if_neg (by omega), if_pos ⟨rfl, rfl⟩, ck_hi c1 (by omega) hj, hs.2 j hj]
      by_cases hji : j = i
      · rw [hji, c, decide_eq_true rfl, decide_eq_true (by omega : i < i + 1), Bool.or_true]; rfl
      · rw [decide_eq_false hji, Bool.or_false]
        by_cases hl : j < i
        · rw [decide_eq_true hl, decide_eq_true (by omega : j < i + 1)]
        · rw [decide_eq_false hl, decide_eq_false (by omega : ¬ j < i + 1)]
    · rw [E4]
      exact hs.1.tt (Un.sL.wk (fun b k _ z => by unfold Pf; omega))
    · rw [E4, gL_L, gL_L, if_pos ⟨rfl, rfl⟩, if_neg (by omega), ck_lo c1, hs.2 j hj]
      by_cases hji : j = i
      · rw [hji, c, decide_eq_true rfl, decide_eq_true (by omega : i < i + 1), Bool.or_true]; rfl
      · rw [decide_eq_false hji, Bool.or_false]
        by_cases hl : j < i
        · rw [decide_eq_true hl, decide_eq_true (by omega : j < i + 1)]
        · rw [decide_eq_false hl, decide_eq_false (by omega : ¬ j < i + 1)]
theorem se_pairsOf {a : Nat} {M : Mm} {A : Ab} {d : Int32} {e q : Nat} {post : Int32 → Mm → Prop} (hW : DW a M) (h120 : A.2.2 0 ≤ 120) (hq : EH a M A e q) (hc : ∀ j, j < 128 → ck_ (ddL M (a + 1) 2) (ddL M (a + 1) 3) j = (decide (j < A.2.2 0) && inF A j d)) (h : post (nI (pn_ A d e)) M) : PX6_pairsOf (a + 1) (some q) M post := by
  have t7 : ddT M (a + 1) = 7 := DW_T hW (by decide)
  refine ⟨q, rfl, hq.T, t7, sj_bitCountL ⟨hq.T, t7, sj_bitCountL ?_⟩⟩
  obtain ⟨-, -, -, -, -, -, -, -, hx⟩ := hq.2.2.2.2
  rw [nI_add]
  have e1 : ct_ (fun j => ck_ (ddL M q 16) (ddL M q 17) j && ck_ (ddL M (a + 1) 2) (ddL M (a + 1) 3) j) (64 + 64) = ct_ (lb_ (ddL M q 16 &&& ddL M (a + 1) 2)) 64 + ct_ (lb_ (ddL M q 17 &&& ddL M (a + 1) 3)) 64 := by
    rw [ct_add]
    congr 1
    · exact ct_cg (fun i hi => by rw [lb_and]; unfold ck_; rw [if_pos hi, if_pos hi])
    · exact ct_cg (fun i hi => by rw [lb_and]; unfold ck_; rw [if_neg (by omega), if_neg (by omega), show 64 + i - 64 = i by omega])
  have e2 : pn_ A d e = ct_ (fun j => ck_ (ddL M q 16) (ddL M q 17) j && ck_ (ddL M (a + 1) 2) (ddL M (a + 1) 3) j) (64 + 64) := by
    have e3 : 64 + 64 = A.2.2 0 + (128 - A.2.2 0) := by omega
    rw [e3, ct_far (fun i h1 h2 => by rw [hc i (by omega), decide_eq_false (by omega), Bool.false_and, Bool.and_false])]
    refine ct_cg (fun i hi => ?_)
    rw [hx i (by omega), hc i (by omega), decide_eq_true hi]
    unfold pf_
    cases decide (e < i) <;> cases inF A i d <;> cases clB A.1 e i <;> rfl
  rw [← e1, ← e2]
  exact h
theorem dn_pairs {a : Nat} {M : Mm} {A : Ab} {d : Int32} {post : Int32 → Mm → Prop} (hS : SS a M A) (h : ∀ M1, DS a M1 A → MS (a + 32) M1 A → post (an_pairs A d) M1) : PX10_pairs a d M post := by
  obtain ⟨hD, hM, hA⟩ := hS
  have hz := hD.1.2.2.2.2
  have hDE := hD.2.2.2.2.1
  have h120 := hDE.1
  have hT0 : ddT M a = 11 := DW_T hD.1 (i := 0) (by decide)
  have hT1 : ddT M (a + 1) = 7 := DW_T hD.1 (by decide)
  unfold an_pairs at h
  refine se_isDay (bz (fun c => ?_) (fun c => ⟨hT0, a + 1, DW_R hD.1 (i := 0) (by decide), hT1, hT1, se_noteInForce hD.1 hDE (fun M1 u hc => ?_)⟩))
  · rw [c] at h
    exact h M hD hM
  · rw [c, if_pos rfl] at h
    have sW := DW_Pf hD.1 u
    have sD := DE_Pf hDE hz u
    have sT : ddT M1 (a + 1) = 7 := DW_T sW (by decide)
    have fin := h M1 (DS_scr hD u (fun b k z => by unfold Pf at z; unfold Scr; omega)) (MS_keep hM hz u (fun b k z => by unfold Pf at z; omega))
    refine pk_loop (fun fu i (s : Int32) => DX6_pairsOn_9 post fu (a + 1) d s (nI i) M1) (fun i s => s = nI (sm_ (pcn_ A d) i)) (A.2.2 0) 0 0 (by omega) rfl (fun fu s hs => ?_) (fun fu i s hi hs hk => ?_)
    · show BX6_pairsOn_9 (DX6_pairsOn_9 post fu) post (a + 1) d s (nI (A.2.2 0)) M1
      exact ⟨sT, pk_le (A.2.2 0) (A.2.2 0) (fun _ => by rw [hs]; exact fin) (fun c => by omega) sD.2.1 rfl (by omega) (by omega)⟩
    · show BX6_pairsOn_9 (DX6_pairsOn_9 post fu) post (a + 1) d s (nI i) M1
      unfold BX6_pairsOn_9
      rw [nI_1]
      refine ⟨sT, pk_le (A.2.2 0) i (fun c => by omega) (fun _ => se_entryI sW sD hi fun q hq => co_some q ⟨hq.T, se_inF hq (bz (fun c => hk _ ?_) (fun c => ⟨sT, se_pairsOf sW h120 hq hc (fun v ev => hk _ ?_)⟩))⟩ rfl) sD.2.1 rfl (by omega) (by omega)⟩
      · rw [hs, sm_s]; unfold pcn_; rw [c]; rfl
      · rw [ev, hs, sm_s, nI_add]; unfold pcn_; rw [c]; rfl
theorem mn_pairs {m : Nat} {M : Mm} {A : Ab} {d : Int32} {post : Int32 → Mm → Prop} (hM : MS m M A) (h : post (an_pairs A d) M) : PX11_pairs m d M post := by
  have d1 := hM.1
  have d5 := hM.2.2.2.2.1
  have h120 := d5.1
  unfold an_pairs at h
  refine sp_isDay (bn (fun c => ?_) (fun c => ?_))
  · rw [c, if_pos rfl] at h
    refine pk_loop (fun fu i (s : Int32) => DX11_pairs_14 post fu m d s (nI i) M) (fun i s => s = nI (sm_ (pcn_ A d) i)) (A.2.2 0) 0 0 (by omega) rfl (fun fu s hs => ?_) (fun fu i s hi hs hk => ?_)
    · show BX11_pairs_14 (DX11_pairs_14 post fu) post m d s (nI (A.2.2 0)) M
      exact ⟨d1.1, pk_le (A.2.2 0) (A.2.2 0) (fun _ => by rw [hs]; exact h) (fun c => by omega) d5.2.1 rfl (by omega) (by omega)⟩
    · show BX11_pairs_14 (DX11_pairs_14 post fu) post m d s (nI i) M
      unfold BX11_pairs_14
      rw [nI_1]
      refine ⟨d1.1, pk_le (A.2.2 0) i (fun c => by omega) (fun _ v ev => ?_) d5.2.1 rfl (by omega) (by omega)⟩
      rw [ev]
      refine pk_loop (fun f2 j (t : Int32) => DX11_pairs_27 (DX11_pairs_14 post fu) post f2 m d t (nI i) (nI j) M) (fun j t => i < j ∧ t = nI (sm_ (pcn_ A d) i + ct_ (fun k => inF A i d && pf_ A d i k) j)) (A.2.2 0) (i + 1) s (by omega) ⟨by omega, ?_⟩ (fun f2 t ht => ?_) (fun f2 j t hj ht hk2 => ?_)
      · rw [hs, ct_0 (fun k hk => by unfold pf_; rw [decide_eq_false (by omega), Bool.false_and, Bool.and_false])]; rfl
      · show BX11_pairs_27 (DX11_pairs_14 post fu) (DX11_pairs_27 (DX11_pairs_14 post fu) post f2) post m d t (nI i) (nI (A.2.2 0)) M
        unfold BX11_pairs_27
        rw [nI_1]
        refine ⟨d1.1, pk_le (A.2.2 0) (A.2.2 0) (fun _ => hk t ?_) (fun c => by omega) d5.2.1 rfl (by omega) (by omega)⟩
        rw [ht.2, sm_s]
        congr 2
        unfold pcn_ pn_
        cases hf : inF A i d with
        | true => rw [if_pos rfl]; exact ct_cg (fun k _ => by rw [Bool.true_and])
        | false => rw [if_neg (by decide)]; exact ct_0 (fun k _ => by rw [Bool.false_and])
      · show BX11_pairs_27 (DX11_pairs_14 post fu) (DX11_pairs_27 (DX11_pairs_14 post fu) post f2) post m d t (nI i) (nI j) M
        unfold BX11_pairs_27
        rw [nI_1 j]
        have hij := ht.1
        refine ⟨d1.1, pk_le (A.2.2 0) j (fun c => by omega) (fun _ => sp_inF d1 d5 hi (bz (fun c1 w ew => hk2 w ⟨by omega, ?_⟩) (fun c1 => ⟨d1.1, sp_inF d1 d5 hj (bz (fun c2 w ew => hk2 w ⟨by omega, ?_⟩) (fun c2 => ⟨d1.1, sp_isPair d1 (d5.2.2 i hi).1 (d5.2.2 j hj).1 (by omega) (by omega) (bz (fun c3 w ew => hk2 w ⟨by omega, ?_⟩) (fun c3 w ew => hk2 w ⟨by omega, ?_⟩))⟩))⟩))) d5.2.1 rfl (by omega) (by omega)⟩
        · rw [ew, ht.2, ct_f (by rw [c1, Bool.false_and])]; exact Int32.add_zero _
        · rw [ew, ht.2, ct_f (by unfold pf_; rw [c2, Bool.false_and, Bool.and_false, Bool.and_false])]; exact Int32.add_zero _
        · rw [ew, ht.2, ct_f (by unfold pf_; rw [c3, Bool.and_false, Bool.and_false, Bool.and_false])]; exact Int32.add_zero _
        · rw [ew, ht.2, nI_1, ct_t (by unfold pf_; rw [c1, c2, c3, decide_eq_true hij]; rfl)]; rfl
  · rw [c] at h
    exact h
/-! pair -/
def pp_ (A : Ab) (d : Int32) (e k : Nat) : Int32 := ff_ (fun j => pf_ A d e j && decide (ct_ (pf_ A d e) j = k)) (A.2.2 0)
def pe_ (A : Ab) (d : Int32) (i : Nat) : Int32 := ff_ (fun e => decide (i < sm_ (pcn_ A d) (e + 1))) (A.2.2 0)
def pa_ (A : Ab) (d : Int32) (i : Nat) (x : Int32) : Int32 := if pe_ A d i = -1 then -1 else if x = 0 then pe_ A d i else pp_ A d (pe_ A d i).toInt.toNat (i - sm_ (pcn_ A d) (pe_ A d i).toInt.toNat)
def ok_pair (d i x : Int32) : Bool := wi_ d.toInt 0 20000 && (!decide (i < 0) && wi_ x.toInt 0 1)
def an_pair (A : Ab) (d i x : Int32) : Int32 := if ok_pair d i x then pa_ A d i.toInt.toNat x else -1
theorem sm_mono {f : Nat → Nat} {n : Nat} : ∀ {k : Nat}, n ≤ k → sm_ f n ≤ sm_ f k
  | 0, h => by rw [show n = 0 by omega]; exact Nat.le_refl _
  | k + 1, h => by
    rcases Nat.lt_or_ge n (k + 1) with q | q
    · have := sm_mono (f := f) (n := n) (k := k) (by omega)
      rw [sm_s]; omega
    · rw [show n = k + 1 by omega]; exact Nat.le_refl _
theorem pe_at {A : Ab} {d : Int32} {i e : Nat} (h120 : A.2.2 0 ≤ 120) (he : e < A.2.2 0) (h1 : sm_ (pcn_ A d) e ≤ i) (h2 : i < sm_ (pcn_ A d) (e + 1)) : pe_ A d i = nI e := by
  refine ff_some (by omega) he (decide_eq_true h2) (fun j hj => decide_eq_false (fun z => ?_))
  have := sm_mono (f := pcn_ A d) (n := j + 1) (k := e) (by omega)
  omega
theorem pe_no {A : Ab} {d : Int32} {i : Nat} (h1 : sm_ (pcn_ A d) (A.2.2 0) ≤ i) : pe_ A d i = -1 := by
  refine ff_none (fun j hj => decide_eq_false (fun z => ?_))
  have := sm_mono (f := pcn_ A d) (n := j + 1) (k := A.2.2 0) (by omega)
  omega
theorem pp_at {A : Ab} {d : Int32} {e k j : Nat} (h120 : A.2.2 0 ≤ 120) (hj : j < A.2.2 0) (h1 : pf_ A d e j = true) (h2 : ct_ (pf_ A d e) j = k) : pp_ A d e k = nI j := by
  refine ff_some (by omega) hj (by rw [h1, decide_eq_true h2]; rfl) (fun i hi => ?_)
  cases hf : pf_ A d e i with
  | false => rfl
  | true =>
    have h3 := ct_t hf
    have h4 := ct_mono (f := pf_ A d e) (n := i + 1) (k := j) (by omega)
    rw [decide_eq_false (by omega)]; rfl
theorem pa_at {A : Ab} {d : Int32} {i e : Nat} {x : Int32} (h120 : A.2.2 0 ≤ 120) (he : e < A.2.2 0) (h1 : sm_ (pcn_ A d) e ≤ i) (h2 : i < sm_ (pcn_ A d) (e + 1)) : pa_ A d i x = if x = 0 then nI e else pp_ A d e (i - sm_ (pcn_ A d) e) := by
  unfold pa_
  rw [pe_at h120 he h1 h2, if_neg (nI_m1 (by omega)), nI_T (by omega)]
  rfl
theorem lb_sh : ∀ j, j < 128 → (((Int32.toInt64 (nI j &&& 63)) &&& 63).toBitVec.smod 64).toNat = j % 64 := by decide +kernel
theorem lg0 (x : Int64) : lg_cmp x 0 = 0 ↔ x = 0 := lg_cmp_eq x 0
theorem lb_one (v : Int64) {s : Int64} {k : Nat} (hk : k < 64) (hs : (s.toBitVec.smod 64).toNat = k) : ((v >>> s) &&& 1) = if lb_ v k then 1 else 0 := by
  apply Int64.toBitVec_inj.mp
  apply BitVec.eq_of_getLsbD_eq
  intro i hi
  rw [Int64.toBitVec_and, BitVec.getLsbD_and, Int64.toBitVec_shiftRight]
  have e1 : (v.toBitVec.sshiftRight' (s.toBitVec.smod 64)).getLsbD 0 = lb_ v k := by
    show (v.toBitVec.sshiftRight (s.toBitVec.smod 64).toNat).getLsbD 0 = _
    rw [hs, BitVec.getLsbD_sshiftRight]
    unfold lb_
    simp [hk]
  have e2 : ∀ i, (1 : Int64).toBitVec.getLsbD i = decide (i = 0) := fun i => by
    show (1#64).getLsbD i = _
    simp
  rw [e2]
  by_cases h0 : i = 0
  · subst h0
    rw [e1]
    cases lb_ v k with
    | true => rw [if_pos rfl, e2]; rfl
    | false => rw [if_neg (by decide)]; rfl
  · rw [decide_eq_false h0, Bool.and_false]
    split
    · rw [e2, decide_eq_false h0]
    · show false = (0#64).getLsbD i
      simp
theorem se_hasClash {M : Mm} {q j : Nat} {post : Int32 → Mm → Prop} (hT : ddT M q = 3) (hj : j < 120) (h : post (b2_ (ck_ (ddL M q 16) (ddL M q 17) j)) M) : PX2_hasClash q (nI j) M post := by
  have key : ∀ v : Int64, lb_ v (j % 64) = ck_ (ddL M q 16) (ddL M q 17) j → BX2_hasClash_17 post (nI j) v M := fun v hv => by
    unfold BX2_hasClash_17
    rw [lb_one v (by omega) (lb_sh j (by omega)), hv, lg0]
    cases hc : ck_ (ddL M q 16) (ddL M q 17) j with
    | false => rw [hc] at h; exact ⟨fun _ => h, fun z => absurd rfl z⟩
    | true => rw [hc] at h; exact ⟨fun z => absurd z (by decide), fun _ => h⟩
  refine pk_le 64 j (fun c => ⟨hT, key _ ?_⟩) (fun c => ⟨hT, key _ ?_⟩) rfl rfl (by omega) (by omega)
  · unfold ck_; rw [if_neg (by omega), show j % 64 = j - 64 by omega]
  · unfold ck_; rw [if_pos c, show j % 64 = j by omega]
theorem se_partnerOf {a : Nat} {M : Mm} {A : Ab} {d : Int32} {e q k : Nat} {post : Int32 → Mm → Prop} (hW : DW a M) (hD : DE a M A) (he : e < A.2.2 0) (hq : EH a M A e q) (hk : k < 2 ^ 30) (h : post (pp_ A d e k) M) : PX6_partnerOf (a + 1) (some q) (nI k) d M post := by
  have h120 := hD.1
  have t7 : ddT M (a + 1) = 7 := DW_T hW (by decide)
  refine ⟨q, rfl, hq.T, fun v ev => ?_⟩
  rw [hq.2.2.2.2.2.1, nI_1] at ev
  rw [ev]
  obtain ⟨-, -, -, -, -, -, -, -, hx⟩ := id hq.2.2.2.2
  refine pk_loop (fun fu i (s : Int32) => DX6_partnerOf_11 post fu (a + 1) (some q) d s (nI i) M) (fun i s => e < i ∧ ct_ (pf_ A d e) i ≤ k ∧ s = nI (k - ct_ (pf_ A d e) i)) (A.2.2 0) (e + 1) (nI k) (by omega) ?_ (fun fu s hs => ?_) (fun fu i s hi hs hk2 => ?_)
  · have : ct_ (pf_ A d e) (e + 1) = 0 := ct_0 (fun i hi => by unfold pf_; rw [decide_eq_false (by omega)]; rfl)
    exact ⟨by omega, by omega, by rw [this]; rfl⟩
  · show BX6_partnerOf_11 (DX6_partnerOf_11 post fu) post (a + 1) (some q) d s (nI (A.2.2 0)) M
    refine ⟨t7, pk_le (A.2.2 0) (A.2.2 0) (fun _ => ?_) (fun c => by omega) hD.2.1 rfl (by omega) (by omega)⟩
    have : pp_ A d e k = -1 := ff_none (fun j hj => by
      cases hf : pf_ A d e j with
      | false => rfl
      | true =>
        have h3 := ct_t hf
        have h4 := ct_mono (f := pf_ A d e) (n := j + 1) (k := A.2.2 0) (by omega)
        have := hs.2.1
        rw [decide_eq_false (by omega)]; rfl)
    rw [this] at h
    exact h
  · show BX6_partnerOf_11 (DX6_partnerOf_11 post fu) post (a + 1) (some q) d s (nI i) M
    unfold BX6_partnerOf_11
    rw [nI_1]
    obtain ⟨s1, s2, s3⟩ := hs
    have no : pf_ A d e i = false → DX6_partnerOf_11 post fu (a + 1) (some q) d s (nI (i + 1)) M := fun z => hk2 s ⟨by omega, by rw [ct_f z]; exact s2, by rw [ct_f z]; exact s3⟩
    refine ⟨t7, pk_le (A.2.2 0) i (fun c => by omega) (fun _ => se_entryI hW hD hi fun r hr => co_some r ⟨q, rfl, hq.T, se_hasClash hq.T (by omega) ?_⟩ rfl) hD.2.1 rfl (by omega) (by omega)⟩
    rw [hx i (by omega), decide_eq_true s1, decide_eq_true hi, Bool.true_and, Bool.true_and]
    refine bz (fun c => no (by unfold pf_; rw [c, Bool.and_false, Bool.and_false])) (fun c => ⟨hr.T, se_inF hr (bz (fun c1 => no (by unfold pf_; rw [c1, Bool.false_and, Bool.and_false])) (fun c1 => ?_))⟩)
    have hf : pf_ A d e i = true := by unfold pf_; rw [c, c1, decide_eq_true s1]; rfl
    rw [s3, nI_ne0' (by omega)]
    refine ⟨fun z => hk2 _ ⟨by omega, by rw [ct_t hf]; omega, ?_⟩, fun z => ?_⟩
    · obtain ⟨w, hw⟩ : ∃ w, k - ct_ (pf_ A d e) i = w + 1 := ⟨k - ct_ (pf_ A d e) i - 1, by omega⟩
      rw [hw, pk_m1, ct_t hf]
      congr 1
      omega
    · rw [pp_at h120 hi hf (by omega)] at h
      exact h
theorem dn_pair {a : Nat} {M : Mm} {A : Ab} {d i x : Int32} {post : Int32 → Mm → Prop} (hS : SS a M A) (h : ∀ M1, DS a M1 A → MS (a + 32) M1 A → post (an_pair A d i x) M1) : PX10_pair a d i x M post := by
  obtain ⟨hD, hM, hA⟩ := hS
  have hz := hD.1.2.2.2.2
  have hDE := hD.2.2.2.2.1
  have h120 := hDE.1
  have hT0 : ddT M a = 11 := DW_T hD.1 (i := 0) (by decide)
  have hT1 : ddT M (a + 1) = 7 := DW_T hD.1 (by decide)
  have no : ok_pair d i x = false → post (-1) M := fun c => by
    unfold an_pair at h
    rw [c] at h
    exact h M hD hM
  refine se_isDay (bz (fun c => no (by unfold ok_pair; rw [c]; rfl)) (fun c => ⟨fun c1 => no (by unfold ok_pair; rw [decide_eq_true c1, Bool.not_true, Bool.false_and, Bool.and_false]), fun c1 => se_within (bn (fun c2 => ⟨hT0, a + 1, DW_R hD.1 (i := 0) (by decide), hT1, hT1, se_noteInForce hD.1 hDE (fun M1 u hc => ?_)⟩) (fun c2 => no (by unfold ok_pair; rw [show wi_ x.toInt 0 1 = false from c2, Bool.and_false, Bool.and_false])))⟩))
  have ok : ok_pair d i x = true := by unfold ok_pair; rw [c, decide_eq_false c1, show wi_ x.toInt 0 1 = true from c2]; rfl
  have sW := DW_Pf hD.1 u
  have sD := DE_Pf hDE hz u
  have sT : ddT M1 (a + 1) = 7 := DW_T sW (by decide)
  have fin := h M1 (DS_scr hD u (fun b k z => by unfold Pf at z; unfold Scr; omega)) (MS_keep hM hz u (fun b k z => by unfold Pf at z; omega))
  unfold an_pair at fin
  rw [if_pos ok] at fin
  obtain ⟨n, hn, en⟩ := nI_of c1
  have ei : i.toInt.toNat = n := by rw [en, nI_T hn]; omega
  rw [ei] at fin
  rw [en]
  have hpn : ∀ e, pn_ A d e ≤ 120 := fun e => Nat.le_trans (ct_le _) h120
  refine pk_loop (fun fu e (s : Int32) => DX6_pairOn_11 post fu (a + 1) d x s (nI e) M1) (fun e s => sm_ (pcn_ A d) e ≤ n ∧ s = nI (n - sm_ (pcn_ A d) e)) (A.2.2 0) 0 (nI n) (by omega) ⟨Nat.zero_le _, rfl⟩ (fun fu s hs => ?_) (fun fu e s he hs hk => ?_)
  · show BX6_pairOn_11 (DX6_pairOn_11 post fu) post (a + 1) d x s (nI (A.2.2 0)) M1
    refine ⟨sT, pk_le (A.2.2 0) (A.2.2 0) (fun _ => ?_) (fun c => by omega) sD.2.1 rfl (by omega) (by omega)⟩
    unfold pa_ at fin
    rw [pe_no hs.1, if_pos rfl] at fin
    exact fin
  · show BX6_pairOn_11 (DX6_pairOn_11 post fu) post (a + 1) d x s (nI e) M1
    unfold BX6_pairOn_11
    rw [nI_1]
    obtain ⟨s1, s2⟩ := hs
    refine ⟨sT, pk_le (A.2.2 0) e (fun c => by omega) (fun _ => se_entryI sW sD he fun q hq => co_some q ⟨hq.T, se_inF hq (bz (fun c3 => hk _ ?_) (fun c3 => ⟨sT, se_pairsOf sW h120 hq hc ?_⟩))⟩ rfl) sD.2.1 rfl (by omega) (by omega)⟩
    · rw [sm_s]; unfold pcn_; rw [c3]
      exact ⟨s1, s2⟩
    · have epc : pcn_ A d e = pn_ A d e := by unfold pcn_; rw [c3]; rfl
      have hp := hpn e
      rw [s2]
      refine pk_le (pn_ A d e) (n - sm_ (pcn_ A d) e) (fun c4 v ev => hk v ⟨by rw [sm_s, epc]; omega, ?_⟩) (fun c4 => ?_) rfl rfl (by omega) (by omega)
      · rw [ev, pk_sub c4, sm_s, epc]
        congr 1
        omega
      · rw [pa_at h120 he s1 (by rw [sm_s, epc]; omega)] at fin
        refine ⟨fun c5 => ⟨sT, se_partnerOf sW sD he hq (by omega) ?_⟩, fun c5 => ?_⟩
        · rw [if_neg c5] at fin
          exact fin
        · rw [if_pos c5] at fin
          exact fin
theorem mn_pair {m : Nat} {M : Mm} {A : Ab} {d i x : Int32} {post : Int32 → Mm → Prop} (hM : MS m M A) (h : post (an_pair A d i x) M) : PX11_pair m d i x M post := by
  have d1 := hM.1
  have d5 := hM.2.2.2.2.1
  have h120 := d5.1
  have no : ok_pair d i x = false → post (-1) M := fun c => by
    unfold an_pair at h
    rw [c] at h
    exact h
  refine sp_isDay (bz (fun c => no (by unfold ok_pair; rw [c]; rfl)) (fun c => ⟨fun c1 => no (by unfold ok_pair; rw [decide_eq_true c1, Bool.not_true, Bool.false_and, Bool.and_false]), fun c1 => sp_in (bn (fun c2 => ?_) (fun c2 => no (by rw [wd_T] at c2; unfold ok_pair; rw [show wi_ x.toInt 0 1 = false from c2, Bool.and_false, Bool.and_false])))⟩))
  rw [wd_T] at c2
  have ok : ok_pair d i x = true := by unfold ok_pair; rw [c, decide_eq_false c1, show wi_ x.toInt 0 1 = true from c2]; rfl
  unfold an_pair at h
  rw [if_pos ok] at h
  obtain ⟨n, hn, en⟩ := nI_of c1
  have ei : i.toInt.toNat = n := by rw [en, nI_T hn]; omega
  rw [ei] at h
  rw [en]
  refine pk_loop (fun fu e (s : Int32) => DX11_pair_29 post fu m d x s (nI e) M) (fun e s => sm_ (pcn_ A d) e ≤ n ∧ s = nI (n - sm_ (pcn_ A d) e)) (A.2.2 0) 0 (nI n) (by omega) ⟨Nat.zero_le _, rfl⟩ (fun fu s hs => ?_) (fun fu e s he hs hk => ?_)
  · show BX11_pair_29 (DX11_pair_29 post fu) post m d x s (nI (A.2.2 0)) M
    refine ⟨d1.1, pk_le (A.2.2 0) (A.2.2 0) (fun _ => ?_) (fun c => by omega) d5.2.1 rfl (by omega) (by omega)⟩
    unfold pa_ at h
    rw [pe_no hs.1, if_pos rfl] at h
    exact h
  · show BX11_pair_29 (DX11_pair_29 post fu) post m d x s (nI e) M
    unfold BX11_pair_29
    rw [nI_1]
    obtain ⟨s1, s2⟩ := hs
    refine ⟨d1.1, pk_le (A.2.2 0) e (fun c => by omega) (fun _ => sp_inF d1 d5 he (bn (fun c3 v ev => ?_) (fun c3 => hk _ ?_))) d5.2.1 rfl (by omega) (by omega)⟩
    · rw [ev]
      have epc : pcn_ A d e = pn_ A d e := by unfold pcn_; rw [c3]; rfl
      refine pk_loop (fun f2 j (t : Int32) => DX11_pair_57 (DX11_pair_29 post fu) post f2 m d x t (nI e) (nI j) M) (fun j t => e < j ∧ sm_ (pcn_ A d) e + ct_ (pf_ A d e) j ≤ n ∧ t = nI (n - (sm_ (pcn_ A d) e + ct_ (pf_ A d e) j))) (A.2.2 0) (e + 1) s (by omega) ?_ (fun f2 t ht => ?_) (fun f2 j t hj ht hk2 => ?_)
      · have : ct_ (pf_ A d e) (e + 1) = 0 := ct_0 (fun i hi => by unfold pf_; rw [decide_eq_false (by omega)]; rfl)
        exact ⟨by omega, by omega, by rw [this]; exact s2⟩
      · show BX11_pair_57 (DX11_pair_29 post fu) (DX11_pair_57 (DX11_pair_29 post fu) post f2) post m d x t (nI e) (nI (A.2.2 0)) M
        unfold BX11_pair_57
        rw [nI_1 e]
        refine ⟨d1.1, pk_le (A.2.2 0) (A.2.2 0) (fun _ => hk t ?_) (fun c => by omega) d5.2.1 rfl (by omega) (by omega)⟩
        rw [sm_s, epc]
        exact ⟨ht.2.1, ht.2.2⟩
      · show BX11_pair_57 (DX11_pair_29 post fu) (DX11_pair_57 (DX11_pair_29 post fu) post f2) post m d x t (nI e) (nI j) M
        unfold BX11_pair_57
        rw [nI_1 j]
        obtain ⟨t1, t2, t3⟩ := ht
        have non : pf_ A d e j = false → DX11_pair_57 (DX11_pair_29 post fu) post f2 m d x t (nI e) (nI (j + 1)) M := fun z => hk2 t ⟨by omega, by rw [ct_f z]; exact t2, by rw [ct_f z]; exact t3⟩
        refine ⟨d1.1, pk_le (A.2.2 0) j (fun c => by omega) (fun _ => sp_inF d1 d5 hj (bz (fun c4 => non (by unfold pf_; rw [c4, Bool.false_and, Bool.and_false])) (fun c4 => ⟨d1.1, sp_isPair d1 (d5.2.2 e he).1 (d5.2.2 j hj).1 (by omega) (by omega) (bn (fun c5 => ?_) (fun c5 => non (by unfold pf_; rw [c5, Bool.and_false, Bool.and_false])))⟩))) d5.2.1 rfl (by omega) (by omega)⟩
        have hf : pf_ A d e j = true := by unfold pf_; rw [c4, c5, decide_eq_true t1]; rfl
        rw [t3, nI_ne0' (by omega)]
        refine ⟨fun z => hk2 _ ⟨by omega, by rw [ct_t hf]; omega, ?_⟩, fun z => ?_⟩
        · obtain ⟨w, hw⟩ : ∃ w, n - (sm_ (pcn_ A d) e + ct_ (pf_ A d e) j) = w + 1 := ⟨n - (sm_ (pcn_ A d) e + ct_ (pf_ A d e) j) - 1, by omega⟩
          rw [hw, pk_m1, ct_t hf]
          congr 1
          omega
        · have h3 := ct_t hf
          have h4 := ct_mono (f := pf_ A d e) (n := j + 1) (k := A.2.2 0) (by omega)
          have h5 : pn_ A d e = ct_ (pf_ A d e) (A.2.2 0) := rfl
          rw [pa_at h120 he s1 (by rw [sm_s, epc]; omega)] at h
          refine ⟨fun c6 => ?_, fun c6 => ?_⟩
          · rw [if_neg c6, pp_at h120 hj hf (by omega)] at h
            exact h
          · rw [if_pos c6] at h
            exact h
    · rw [sm_s]; unfold pcn_; rw [c3]
      exact ⟨s1, s2⟩
