/-! lines by number -/
def isL (A : Ab) (x : Int32) : Bool := wi_ x.toInt 0 ((A.2.2 1 : Int) - 1)
theorem isL_t {A : Ab} {x : Int32} (h : isL A x = true) : x.toInt.toNat < A.2.2 1 ∧ x = nI x.toInt.toNat := by
  have := wi_t.mp h
  exact ⟨by omega, (nI_toNat (by omega)).symm⟩
theorem isL_nI {A : Ab} {e : Nat} (he : e < A.2.2 1) (h2 : e < 2 ^ 31) : isL A (nI e) = true := wi_t.mpr (by rw [nI_T h2]; omega)
def LH (a : Nat) (M : Mm) (A : Ab) (l q : Nat) : Prop := ddR M (a + 5) l = some q ∧ LO a M q A l
theorem se_lineI {a : Nat} {M : Mm} {A : Ab} {i : Nat} {post : Option Nat → Mm → Prop} (hW : DW a M) (hD : DL a M A) (hi : i < A.2.2 1) (h : ∀ q, LH a M A i q → post (some q) M) : PX4_lineWith (a + 4) (nI i) M post := by
  have h1 := hD.1
  obtain ⟨q, hq⟩ := hD.2.2.2.2.1 i hi
  refine pk_lt i 0 (fun c => by omega) (fun _ => ⟨DW_T hW (by decide), ?_⟩) rfl rfl (by omega) (by omega)
  refine pk_le (A.2.2 1) i (fun c => by omega) (fun _ => ⟨a + 5, DW_R hW (by decide), DW_T hW (by decide), ?_⟩) hD.2.1 rfl (by omega) (by omega)
  rw [DW_N hW (i := 5) (n := 300) (by decide)]
  refine pk_le 300 i (fun c => by omega) (fun _ => ⟨nI_in2 (by omega) (by decide), ?_⟩) rfl rfl (by omega) (by omega)
  rw [nI_cl (by omega), hq.1]
  exact h q hq
theorem se_lineWith {a : Nat} {M : Mm} {A : Ab} {x : Int32} {post : Option Nat → Mm → Prop} (hW : DW a M) (hD : DL a M A) (h1 : isL A x = false → post none M) (h2 : ∀ l q, isL A x = true → l = x.toInt.toNat → l < A.2.2 1 → x = nI l → LH a M A l q → post (some q) M) : PX4_lineWith (a + 4) x M post := by
  have h0 := hD.1
  rcases pk_ix x (n := A.2.2 1) (by omega) with c | c | ⟨j, hj, e⟩
  · have : isL A x = false := wi_f.mpr (by have := (xi_lt x 0).mp c; have : x.toInt < 0 := this; omega)
    exact ⟨fun _ => h1 this, fun z => absurd c z⟩
  · have : isL A x = false := wi_f.mpr (by have := (xi_le _ _).mp c; rw [nI_T (by omega)] at this; omega)
    exact ⟨fun _ => h1 this, fun _ => ⟨DW_T hW (by decide), fun _ => h1 this, fun z => absurd (by rw [hD.2.1]; exact c) z⟩⟩
  · subst e
    exact se_lineI hW hD hj fun q hq => h2 j q (isL_nI hj (by omega)) (toNat_nI (by omega)).symm hj rfl hq
theorem sp_isLine {m : Nat} {M : Mm} {A : Ab} {x : Int32} {post : Int32 → Mm → Prop} (hM : MW m M) (hL : ML m M A) (h : post (b2_ (isL A x)) M) : PX11_isLine m x M post := by
  refine ⟨hM.1, sp_in ⟨b2_01 _, ?_⟩⟩
  have h0 := hL.1
  rw [wd_T, wd_T, hL.2.1]
  have e : (nI (A.2.2 1) - 1).toInt = (A.2.2 1 : Int) - 1 := pk_sub_toInt (b := 1) (by omega) (by decide)
  rw [e]
  exact h
/-! the line that is on a block with these figures -/
def lo_ (A : Ab) (e w : Nat) (d : Int32) : Int32 := ff_ (fun l => decide (A.1 11 l = w) && decide (bo_ A l d = some e)) (A.2.2 1)
theorem pO_eq {a : Nat} {M : Mm} {A : Ab} {e q : Nat} {o : Option Nat} (hD : DE a M A) (hq : EH a M A e q) (he : e < A.2.2 0) (ho : ∀ b, o = some b → b < A.2.2 0) : pO a M o = some q ↔ o = some e := by
  cases o with
  | none => exact ⟨fun z => (by cases z), fun z => (by cases z)⟩
  | some b =>
    have hb := ho b rfl
    have h120 := hD.1
    obtain ⟨q', hq'⟩ := hD.at hb
    rw [pO_s, hq'.1]
    constructor
    · intro z
      cases z
      rw [EH.one hq' hq (by omega) (by omega)]
    · intro z
      cases z
      exact hq'.1.symm.trans hq.1
theorem pM_eq {n e : Nat} {o : Option Nat} (hn : n ≤ 120) (he : e < n) (ho : ∀ b, o = some b → b < n) : pM o = nI e ↔ o = some e := by
  cases o with
  | none => exact ⟨fun z => absurd z.symm (nI_m1 (by omega)), fun z => (by cases z)⟩
  | some b =>
    have hb := ho b rfl
    show nI b = nI e ↔ _
    rw [nI_eq (by omega) (by omega)]
    exact ⟨fun z => by rw [z], fun z => by cases z; rfl⟩
theorem lgN {x w : Nat} (hx : x < 2 ^ 31) (hw : w < 2 ^ 63) : lg_cmp (Int32.toInt64 (nI x)) (lN w) = 0 ↔ x = w := by
  rw [xl_eq, i2l_nI hx, pk_lT (by omega), pk_lT hw]
  omega
theorem lgM {x w : Nat} (hx : x < 2 ^ 63) (hw : w < 2 ^ 63) : lg_cmp (lN x) (lN w) = 0 ↔ x = w := by
  rw [xl_eq, pk_lT hx, pk_lT hw]
  omega
theorem se_findOn {a : Nat} {M : Mm} {A : Ab} {e q w : Nat} {d : Int32} {post : Int32 → Mm → Prop} (hW : DW a M) (hD : DE a M A) (hL : DL a M A) (hA : WA A) (he : e < A.2.2 0) (hq : EH a M A e q) (hw : w < 2 ^ 63) (h : post (lo_ A e w d) M) : PX4_findOn (a + 4) (some q) (lN w) d M post := by
  have h1 := hL.1
  have h120 := hD.1
  have t5 : ddT M (a + 4) = 5 := DW_T hW (by decide)
  refine pk_loop (fun fu i (_ : Unit) => DX4_findOn_3 post fu (a + 4) (some q) (lN w) d (nI i) M) (fun i _ => ∀ j, j < i → (decide (A.1 11 j = w) && decide (bo_ A j d = some e)) = false) (A.2.2 1) 0 () (by omega) (fun j hj => by omega) (fun fu s hs => ?_) (fun fu i s hi hs hk => ?_)
  · show BX4_findOn_3 (DX4_findOn_3 post fu) post (a + 4) (some q) (lN w) d (nI (A.2.2 1)) M
    refine ⟨t5, pk_le (A.2.2 1) (A.2.2 1) (fun _ => ?_) (fun c => by omega) hL.2.1 rfl (by omega) (by omega)⟩
    unfold lo_ at h
    rw [ff_none hs] at h
    exact h
  · show BX4_findOn_3 (DX4_findOn_3 post fu) post (a + 4) (some q) (lN w) d (nI i) M
    unfold BX4_findOn_3
    rw [nI_1]
    have no : (decide (A.1 11 i = w) && decide (bo_ A i d = some e)) = false → DX4_findOn_3 post fu (a + 4) (some q) (lN w) d (nI (i + 1)) M := fun z => hk () (fun j hj => by
      rcases Nat.lt_or_ge j i with y | y
      · exact hs j y
      · rw [show j = i by omega]; exact z)
    refine ⟨t5, pk_le (A.2.2 1) i (fun c => by omega) (fun _ => se_lineI hW hL hi fun r hr => co_some r ⟨hr.2.2.1, ?_⟩ rfl) hL.2.1 rfl (by omega) (by omega)⟩
    have wl := (hA.2.2.2.2.1 i hi).2.2.1
    rw [hr.2.2.2.2.1, lgN wl hw]
    refine ⟨fun c => no (by rw [decide_eq_false c]; rfl), fun c => se_blockOn hD hA hi hr.2 ?_⟩
    rw [pO_eq hD hq he (fun b hb => (bo_ok hA h120 hi hb).1)]
    refine ⟨fun z => no (by rw [decide_eq_false z, Bool.and_false]), fun z => ?_⟩
    unfold lo_ at h
    rw [ff_some (by omega) hi (by rw [decide_eq_true c, decide_eq_true z]; rfl) hs] at h
    exact h
theorem sp_lineOn {m : Nat} {M : Mm} {A : Ab} {e w : Nat} {d : Int32} {post : Int32 → Mm → Prop} (hM : MW m M) (hE : ME m M A) (hL : ML m M A) (hA : WA A) (he : e < A.2.2 0) (hw : w < 2 ^ 63) (h : post (lo_ A e w d) M) : PX11_lineOn m (nI e) (lN w) d M post := by
  have h1 := hL.1
  have h120 := hE.1
  obtain ⟨b1, b2, b3⟩ := hM.f18
  refine pk_loop (fun fu i (_ : Unit) => DX11_lineOn_3 post fu m (nI e) (lN w) d (nI i) M) (fun i _ => ∀ j, j < i → (decide (A.1 11 j = w) && decide (bo_ A j d = some e)) = false) (A.2.2 1) 0 () (by omega) (fun j hj => by omega) (fun fu s hs => ?_) (fun fu i s hi hs hk => ?_)
  · show BX11_lineOn_3 (DX11_lineOn_3 post fu) post m (nI e) (lN w) d (nI (A.2.2 1)) M
    refine ⟨hM.1, pk_le (A.2.2 1) (A.2.2 1) (fun _ => ?_) (fun c => by omega) hL.2.1 rfl (by omega) (by omega)⟩
    unfold lo_ at h
    rw [ff_none hs] at h
    exact h
  · show BX11_lineOn_3 (DX11_lineOn_3 post fu) post m (nI e) (lN w) d (nI i) M
    unfold BX11_lineOn_3
    rw [nI_1, nI_cl (by omega)]
    have no : (decide (A.1 11 i = w) && decide (bo_ A i d = some e)) = false → DX11_lineOn_3 post fu m (nI e) (lN w) d (nI (i + 1)) M := fun z => hk () (fun j hj => by
      rcases Nat.lt_or_ge j i with y | y
      · exact hs j y
      · rw [show j = i by omega]; exact z)
    have wl := (hA.2.2.2.2.1 i hi).2.2.1
    refine ⟨hM.1, pk_le (A.2.2 1) i (fun c => by omega) (fun _ => ⟨m + 16, b1, b2, by rw [b3]; exact nI_in2 (by omega) (by decide), ?_⟩) hL.2.1 rfl (by omega) (by omega)⟩
    rw [(hL.2.2.2.2.1 i hi).2.1, lgM (by omega) hw]
    refine ⟨fun c => no (by rw [decide_eq_false c]; rfl), fun c => sp_blockOf hM hE hL hA hi ?_⟩
    rw [pM_eq h120 he (fun b hb => (bo_ok hA h120 hi hb).1)]
    refine ⟨fun z => no (by rw [decide_eq_false z, Bool.and_false]), fun z => ?_⟩
    unfold lo_ at h
    rw [ff_some (by omega) hi (by rw [decide_eq_true c, decide_eq_true z]; rfl) hs] at h
    exact h
/-! count -/
theorem se_numberedOn {a : Nat} {M : Mm} {A : Ab} {d : Int32} {post : Int32 → Mm → Prop} (hW : DW a M) (hD : DE a M A) (hL : DL a M A) (hA : WA A) (h : post (nI (ct_ (fun l => (bo_ A l d).isSome) (A.2.2 1))) M) : PX4_numberedOn (a + 4) d M post := by
  have h1 := hL.1
  have h120 := hD.1
  have t5 : ddT M (a + 4) = 5 := DW_T hW (by decide)
  refine pk_loop (fun fu i (s : Int32) => DX4_numberedOn_4 post fu (a + 4) d s (nI i) M) (fun i s => s = nI (ct_ (fun l => (bo_ A l d).isSome) i)) (A.2.2 1) 0 0 (by omega) rfl (fun fu s hs => ?_) (fun fu i s hi hs hk => ?_)
  · show BX4_numberedOn_4 (DX4_numberedOn_4 post fu) post (a + 4) d s (nI (A.2.2 1)) M
    refine ⟨t5, pk_le (A.2.2 1) (A.2.2 1) (fun _ => by rw [hs]; exact h) (fun c => by omega) hL.2.1 rfl (by omega) (by omega)⟩
  · show BX4_numberedOn_4 (DX4_numberedOn_4 post fu) post (a + 4) d s (nI i) M
    unfold BX4_numberedOn_4
    rw [nI_1]
    refine ⟨t5, pk_le (A.2.2 1) i (fun c => by omega) (fun _ => se_lineI hW hL hi fun r hr => co_some r ⟨hr.2.2.1, se_blockOn hD hA hi hr.2 ?_⟩ rfl) hL.2.1 rfl (by omega) (by omega)⟩
    cases hb : bo_ A i d with
    | none =>
      refine ⟨fun _ => hk _ ?_, fun _ z => by cases z⟩
      rw [hs, ct_f (by rw [hb]; rfl)]
    | some b =>
      obtain ⟨q, hq⟩ := hD.at (bo_ok hA h120 hi hb).1
      rw [pO_s, hq.1]
      refine ⟨fun z => (by cases z), fun _ _ => hk _ ?_⟩
      rw [hs, ct_t (by rw [hb]; rfl), nI_1]
theorem sp_count5 {m : Nat} {M : Mm} {A : Ab} {post : Int32 → Mm → Prop} (hM : MW m M) (hE : ME m M A) (hL : ML m M A) (hK : MK m M A) (hA : WA A) (h : post (nI (ct_ (fun l => (bo_ A l (nI (A.2.2 4))).isSome) (A.2.2 1))) M) : ∃ fu, DX11_count_100 post fu m 0 0 M := by
  have h1 := hL.1
  have h120 := hE.1
  refine pk_loop (fun fu i (s : Int32) => DX11_count_100 post fu m s (nI i) M) (fun i s => s = nI (ct_ (fun l => (bo_ A l (nI (A.2.2 4))).isSome) i)) (A.2.2 1) 0 0 (by omega) rfl (fun fu s hs => ?_) (fun fu i s hi hs hk => ?_)
  · show BX11_count_100 (DX11_count_100 post fu) post m s (nI (A.2.2 1)) M
    refine ⟨hM.1, pk_le (A.2.2 1) (A.2.2 1) (fun _ => by rw [hs]; exact h) (fun c => by omega) hL.2.1 rfl (by omega) (by omega)⟩
  · show BX11_count_100 (DX11_count_100 post fu) post m s (nI i) M
    unfold BX11_count_100
    rw [nI_1, show ddI M m 0 = nI (A.2.2 4) from hK]
    refine ⟨hM.1, pk_le (A.2.2 1) i (fun c => by omega) (fun _ => sp_blockOf hM hE hL hA hi ?_) hL.2.1 rfl (by omega) (by omega)⟩
    cases hb : bo_ A i (nI (A.2.2 4)) with
    | none =>
      refine ⟨fun _ v e => hk _ ?_, fun z => absurd rfl z⟩
      rw [e, hs, ct_f (by rw [hb]; rfl)]
      exact Int32.add_zero _
    | some b =>
      refine ⟨fun z => absurd z (nI_m1 (by have := (bo_ok hA h120 hi hb).1; omega)), fun _ v e => hk _ ?_⟩
      rw [e, hs, ct_t (by rw [hb]; rfl), nI_1]
def an_count (A : Ab) (w : Int32) : Int32 := if w.toInt = 0 then nI (A.2.2 0) else if w.toInt = 1 then nI (A.2.2 1) else if w.toInt = 2 then nI (A.2.2 3) else if w.toInt = 3 then nI (A.2.2 4) else if w.toInt = 4 then nI (ct_ (fun e => inF A e (nI (A.2.2 4))) (A.2.2 0)) else if w.toInt = 5 then nI (ct_ (fun l => (bo_ A l (nI (A.2.2 4))).isSome) (A.2.2 1)) else -1
theorem dn_count {a : Nat} {M : Mm} {A : Ab} {w : Int32} {post : Int32 → Mm → Prop} (hS : SS a M A) (h : post (an_count A w) M) : PX10_count a w M post := by
  obtain ⟨hD, hM, hW⟩ := hS
  have hT0 : ddT M a = 11 := DW_T hD.1 (i := 0) (by decide)
  have hDE := hD.2.2.2.2.1
  have hDL := hD.2.2.2.2.2.1
  have hDO := hD.2.2.2.2.2.2
  have hk : ddI M a 4 = nI (A.2.2 4) := hD.2.1
  unfold PX10_count
  rw [hk]
  unfold an_count at h
  refine ⟨fun d => ⟨hT0, a + 1, DW_R hD.1 (i := 0) (by decide), DW_T hD.1 (by decide), ?_⟩, fun d => ⟨hT0, a + 4, DW_R hD.1 (i := 0) (by decide), DW_T hD.1 (by decide), ?_⟩, fun d => ⟨hT0, a + 11, DW_R hD.1 (i := 0) (by decide), DW_T hD.1 (by decide), ?_⟩, fun d => ⟨hT0, ?_⟩, fun d => ⟨hT0, a + 1, DW_R hD.1 (i := 0) (by decide), DW_T hD.1 (by decide), se_inForceOn hD.1 hDE ?_⟩, fun d => ⟨hT0, a + 4, DW_R hD.1 (i := 0) (by decide), DW_T hD.1 (by decide), se_numberedOn hD.1 hDE hDL hW ?_⟩, fun d => ?_⟩
  · rw [d] at h; rw [hDE.2.1]; exact h
  · rw [d] at h; rw [hDL.2.1]; exact h
  · rw [d] at h; rw [hDO.2.1]; exact h
  · rw [d] at h; exact h
  · rw [d] at h; exact h
  · rw [d] at h; exact h
  · rw [if_neg (by omega), if_neg (by omega), if_neg (by omega), if_neg (by omega), if_neg (by omega), if_neg (by omega)] at h
    exact h
theorem mn_count {m : Nat} {M : Mm} {A : Ab} {w : Int32} {post : Int32 → Mm → Prop} (hM : MS m M A) (hW : WA A) (h : post (an_count A w) M) : PX11_count m w M post := by
  obtain ⟨d1, d2, d3, d4, d5, d6, d7⟩ := hM
  unfold an_count at h
  refine ⟨fun d => ⟨d1.1, ?_⟩, fun d => ⟨d1.1, ?_⟩, fun d => ⟨d1.1, ?_⟩, fun d => ⟨d1.1, ?_⟩, fun d => sp_count4 d1 d5 d2 ?_, fun d => sp_count5 d1 d5 d6 d2 hW ?_, fun d => ?_⟩
  · rw [d] at h; rw [d5.2.1]; exact h
  · rw [d] at h; rw [d6.2.1]; exact h
  · rw [d] at h; rw [d7.2.1]; exact h
  · rw [d] at h; rw [show ddI M m 0 = nI (A.2.2 4) from d2]; exact h
  · rw [d] at h; exact h
  · rw [d] at h; exact h
  · rw [if_neg (by omega), if_neg (by omega), if_neg (by omega), if_neg (by omega), if_neg (by omega), if_neg (by omega)] at h
    exact h
/-! numberOf -/
def an_num (A : Ab) (x d : Int32) : Int64 := if isL A x && wi_ d.toInt 0 20000 then (match bo_ A x.toInt.toNat d with | none => -1 | some b => lN (A.1 1 b * 10 ^ lc_ A x.toInt.toNat + (A.1 11 x.toInt.toNat - 10 ^ lc_ A x.toInt.toNat))) else -1
theorem dn_num {a : Nat} {M : Mm} {A : Ab} {x d : Int32} {post : Int64 → Mm → Prop} (hS : SS a M A) (h : post (an_num A x d) M) : PX10_numberOf a x d M post := by
  obtain ⟨hD, hM, hW⟩ := hS
  have hT0 : ddT M a = 11 := DW_T hD.1 (i := 0) (by decide)
  have hDE := hD.2.2.2.2.1
  have hDL := hD.2.2.2.2.2.1
  unfold an_num at h
  refine ⟨hT0, a + 4, DW_R hD.1 (i := 0) (by decide), DW_T hD.1 (by decide), se_lineWith hD.1 hDL (fun c => co_none ?_ rfl) (fun l q c c1 c2 c3 hq => co_some q (se_isDay (bn (fun z => ⟨hq.2.2.1, se_blockOn hDE hW c2 hq.2 ?_⟩) (fun z => ?_))) rfl)⟩
  · rw [c] at h; exact h
  · rw [c, z, ← c1] at h
    rw [if_pos (by rfl)] at h
    cases hb : bo_ A l d with
    | none => rw [hb] at h; exact ⟨fun _ => h, fun _ z => by cases z⟩
    | some b =>
      rw [hb] at h
      have hF := bo_ok hW hDE.1 c2 hb
      obtain ⟨r, hr⟩ := hDE.at hF.1
      rw [pO_s, hr.1]
      refine co_some r ⟨hq.2.2.1, hr.T, hr.T, hr.T, ?_⟩ rfl
      obtain ⟨hT, e0, e2, e3, e4, e5, e6, e7, hG, -⟩ := hr.2.2.2.1
      have g4 := hG.2.2.2.2.2.1
      have g5 := hG.2.2.2.2.2.2.1
      have g2 := GW_kl hG hF.2.1
      have hw := hG.w
      rw [e5, e3, pk_sub (by omega), hF.2.2.2.2]
      have hc : lc_ A l < 17 := by rw [← hF.2.2.2.2]; omega
      have wl := hW.2.2.2.2.1 l c2
      have hF4 : 10 ^ lc_ A l ≤ A.1 11 l := (isF_nat.mp wl.2.2.2.1).1
      refine sp_tens hc ⟨hT, ?_⟩
      rw [e2, hq.2.2.2.2.1, i2l_nI (by omega), i2l_nI wl.2.2.1, lN_mul, lN_sub hF4, lN_add]
      exact h
  · rw [z, Bool.and_false] at h; exact h
theorem sp_joined {p w c : Nat} {M : Mm} {post : Int64 → Mm → Prop} (hw : w < 2 ^ 63) (hF : isF w c) (hc : c < 19) (h : post (lN (p * 10 ^ c + (w - 10 ^ c))) M) : PX11_joined (lN p) (lN w) M post := by
  have hN := isF_nat.mp hF
  have eT : (lN w).toInt = (w : Int) := pk_lT hw
  refine sp_figI ?_
  rw [eT, npI_t hF hc]
  refine pk_loop (fun fu i (s : Int64) => DX11_joined_12 post fu (lN w) s (nI c) (nI i) M) (fun i s => s = lN (p * 10 ^ i + (w / 10 ^ (c - i) - 10 ^ i))) c 0 (lN p) (by omega) ?_ (fun fu s hs => ?_) (fun fu i s hi hs hk => ?_)
  · have := isF_div (j := c) hN (by omega)
    rw [Nat.sub_self] at this
    simp at this
    have e : w / 10 ^ c = 1 := by omega
    simp [e]
  · show BX11_joined_12 (DX11_joined_12 post fu) post (lN w) s (nI c) (nI c) M
    refine pk_le c c (fun _ => ?_) (fun c => by omega) rfl rfl (by omega) (by omega)
    rw [hs, Nat.sub_self, Nat.pow_zero, Nat.div_one]
    exact h
  · show BX11_joined_12 (DX11_joined_12 post fu) post (lN w) s (nI c) (nI i) M
    unfold BX11_joined_12
    rw [nI_1]
    refine pk_le c i (fun c => by omega) (fun _ => sp_figureAt hw hF (by omega) hi (fun v e => hk v ?_)) rfl rfl (by omega) (by omega)
    have e1 : c - i = (c - 1 - i) + 1 := by omega
    have hd := isF_div (j := c - i) hN (by omega)
    rw [show c - (c - i) = i by omega] at hd
    have e2 : w / 10 ^ (c - i) = w / 10 ^ (c - 1 - i) / 10 := by rw [e1, Nat.pow_succ, Nat.div_div_eq_div_mul]
    rw [e, hs, i2l_nI (by omega), show (10 : Int64) = lN 10 from rfl, lN_mul, lN_add, show c - (i + 1) = c - 1 - i by omega, Nat.pow_succ]
    congr 1
    rw [e2] at hd ⊢
    have e3 : 10 * (w / 10 ^ (c - 1 - i) / 10) + w / 10 ^ (c - 1 - i) % 10 = w / 10 ^ (c - 1 - i) := by omega
    have e4 : p * (10 ^ i * 10) = 10 * (p * 10 ^ i) := by rw [Nat.mul_comm (10 ^ i) 10, Nat.mul_left_comm]
    rw [e4]
    omega
theorem mn_num {m : Nat} {M : Mm} {A : Ab} {x d : Int32} {post : Int64 → Mm → Prop} (hM : MS m M A) (hW : WA A) (h : post (an_num A x d) M) : PX11_numberOf m x d M post := by
  obtain ⟨d1, d2, d3, d4, d5, d6, d7⟩ := hM
  unfold an_num at h
  have h3 := d6.1
  refine ⟨d1.1, sp_isLine d1 d6 (bz (fun c => ?_) (fun c => sp_isDay (bn (fun z => ⟨d1.1, ?_⟩) (fun z => ?_))))⟩
  · rw [c] at h; exact h
  · obtain ⟨c1, c2⟩ := isL_t c
    rw [c, z, if_pos (by rfl)] at h
    obtain ⟨l, el⟩ : ∃ l, l = x.toInt.toNat := ⟨_, rfl⟩
    rw [← el] at c1 c2 h
    rw [c2, nI_cl (by omega)]
    refine sp_blockOf d1 d5 d6 hW c1 ?_
    obtain ⟨a1, a2, a3⟩ := d1.f4
    obtain ⟨b1, b2, b3⟩ := d1.f18
    cases hb : bo_ A l d with
    | none => rw [hb] at h; exact ⟨fun z => absurd rfl z, fun _ => h⟩
    | some b =>
      rw [hb] at h
      have hF := bo_ok hW d5.1 c1 hb
      have hb2 := hF.1
      have h120 := d5.1
      obtain ⟨⟨r0, r1, r3, r4, r5, r6, hG⟩, -⟩ := d5.2.2 _ hb2
      have hw := hG.w
      have g4 := hG.2.2.2.2.2.1
      have g5 := hG.2.2.2.2.2.2.1
      have wl := hW.2.2.2.2.1 l c1
      refine ⟨fun _ => ⟨d1.1, m + 3, a1, a2, by rw [a3]; exact nI_in2 (by omega) (by decide), m + 16, b1, b2, by rw [b3]; exact nI_in2 (by omega) (by decide), ?_⟩, fun z => absurd z (nI_m1 (by omega))⟩
      show PX11_joined (Int32.toInt64 (ddI M (m + 3) (Int32.toNatClampNeg (nI b)))) _ M _
      rw [nI_cl (by omega), r1, (d6.2.2.2.2.1 l c1).2.1, i2l_nI (by omega)]
      exact sp_joined (by have := wl.2.2.1; omega) wl.2.2.2.1 (by
        have := hF.2.2.2.2
        unfold lc_ at this
        omega) h
  · rw [z, Bool.and_false] at h; exact h
/-! lineAt -/
def an_lineAt (A : Ab) (x d w : Int32) : Int32 := if isL A x && wi_ d.toInt 0 20000 then (match bo_ A x.toInt.toNat d with | none => -1 | some b => if w.toInt = 0 then nI b else if w.toInt = 1 then cr_ A x.toInt.toNat d (A.2.2 2) else if w.toInt = 2 then A.2.1 0 b else -1) else -1
theorem dn_lineAt {a : Nat} {M : Mm} {A : Ab} {x d w : Int32} {post : Int32 → Mm → Prop} (hS : SS a M A) (h : post (an_lineAt A x d w) M) : PX10_lineAt a x d w M post := by
  obtain ⟨hD, hM, hW⟩ := hS
  have hT0 : ddT M a = 11 := DW_T hD.1 (i := 0) (by decide)
  have hDE := hD.2.2.2.2.1
  have hDL := hD.2.2.2.2.2.1
  unfold an_lineAt at h
  refine ⟨hT0, a + 4, DW_R hD.1 (i := 0) (by decide), DW_T hD.1 (by decide), se_lineWith hD.1 hDL (fun c => co_none ?_ rfl) (fun l q c c1 c2 c3 hq => co_some q (se_isDay (bn (fun z => ⟨hq.2.2.1, se_blockOn hDE hW c2 hq.2 ?_⟩) (fun z => ?_))) rfl)⟩
  · rw [c] at h; exact h
  · rw [c, z, ← c1] at h
    rw [if_pos (by rfl)] at h
    cases hb : bo_ A l d with
    | none => rw [hb] at h; exact ⟨fun _ => h, fun _ z => by cases z⟩
    | some b =>
      rw [hb] at h
      have hF := bo_ok hW hDE.1 c2 hb
      obtain ⟨r, hr⟩ := hDE.at hF.1
      rw [pO_s, hr.1]
      refine co_some r ⟨fun e => ⟨hr.T, ?_⟩, fun e => ⟨hq.2.2.1, se_carrier hq.2 hDL.2.2.1 ?_⟩, fun e => ⟨hr.T, ?_⟩, fun e => ?_⟩ rfl
      · rw [e] at h; rw [hr.2.2.2.2.2.1]; exact h
      · rw [e] at h; exact h
      · rw [e] at h; rw [hr.2.2.2.2.1]; exact h
      · have h : post (if w.toInt = 0 then nI b else if w.toInt = 1 then cr_ A l d (A.2.2 2) else if w.toInt = 2 then A.2.1 0 b else -1) M := h
        rw [if_neg (by omega), if_neg (by omega), if_neg (by omega)] at h; exact h
  · rw [z, Bool.and_false] at h; exact h
theorem mn_lineAt {m : Nat} {M : Mm} {A : Ab} {x d w : Int32} {post : Int32 → Mm → Prop} (hM : MS m M A) (hW : WA A) (h : post (an_lineAt A x d w) M) : PX11_lineAt m x d w M post := by
  obtain ⟨d1, d2, d3, d4, d5, d6, d7⟩ := hM
  unfold an_lineAt at h
  have h3 := d6.1
  refine ⟨d1.1, sp_isLine d1 d6 (bz (fun c => ?_) (fun c => sp_isDay (bn (fun z => ⟨d1.1, ?_⟩) (fun z => ?_))))⟩
  · rw [c] at h; exact h
  · obtain ⟨c1, c2⟩ := isL_t c
    rw [c, z, if_pos (by rfl)] at h
    obtain ⟨l, el⟩ : ∃ l, l = x.toInt.toNat := ⟨_, rfl⟩
    rw [← el] at c1 c2 h
    rw [c2]
    refine sp_blockOf d1 d5 d6 hW c1 ?_
    obtain ⟨a1, a2, a3⟩ := d1.f3
    cases hb : bo_ A l d with
    | none => rw [hb] at h; exact ⟨fun z => absurd rfl z, fun _ => h⟩
    | some b =>
      rw [hb] at h
      have h : post (if w.toInt = 0 then nI b else if w.toInt = 1 then cr_ A l d (A.2.2 2) else if w.toInt = 2 then A.2.1 0 b else -1) M := h
      have hF := bo_ok hW d5.1 c1 hb
      have hb2 := hF.1
      have h120 := d5.1
      obtain ⟨-, ⟨s0, -⟩⟩ := d5.2.2 _ hb2
      have w0 : w = 0 ↔ w.toInt = 0 := xi_eq w 0
      have w1 : w = 1 ↔ w.toInt = 1 := xi_eq w 1
      have w2 : w = 2 ↔ w.toInt = 2 := xi_eq w 2
      refine ⟨fun _ => ?_, fun z => absurd z (nI_m1 (by omega))⟩
      rw [w0, w1, w2]
      refine ⟨fun e0 => ⟨fun e1 => ⟨fun e2 => ?_, fun e2 => ⟨d1.1, m + 2, a1, a2, by rw [a3]; exact nI_in2 (by omega) (by decide), ?_⟩⟩, fun e1 => ⟨d1.1, sp_carrier d1 d6 hW c1 ?_⟩⟩, fun e0 => ?_⟩
      · rw [if_neg e0, if_neg e1, if_neg e2] at h; exact h
      · rw [if_neg e0, if_neg e1, if_pos e2] at h
        show post (ddI M (m + 2) (Int32.toNatClampNeg (nI b))) M
        rw [nI_cl (by omega), s0]; exact h
      · rw [if_neg e0, if_pos e1] at h; exact h
      · rw [if_pos e0] at h; exact h
  · rw [z, Bool.and_false] at h; exact h
