/-! to what figures lead -/
def rkN (k : Nat) : Nat := if k = 1 then 0 else if k = 0 then 1 else if k = 3 then 2 else 3
theorem rkN_lt (k : Nat) : rkN k ≤ 3 := by
  unfold rkN
  split
  · omega
  · split
    · omega
    · split <;> omega
def bst_ (A : Ab) (o : Option Nat) (n : Nat) : Option Nat := match o with | none => some n | some b => if rkN (A.1 0 n) < rkN (A.1 0 b) then some n else some b
def ld_ (A : Ab) (w c : Nat) (d : Int32) : Nat → Option Nat
  | 0 => none
  | n + 1 => if isN A w c d n then bst_ A (ld_ A w c d n) n else ld_ A w c d n
theorem ld_s {A : Ab} {w c : Nat} {d : Int32} {n : Nat} : ld_ A w c d (n + 1) = if isN A w c d n then bst_ A (ld_ A w c d n) n else ld_ A w c d n := rfl
theorem ld_ok {A : Ab} {w c : Nat} {d : Int32} : ∀ {n b : Nat}, ld_ A w c d n = some b → b < n ∧ isN A w c d b = true
  | 0, b, h => by cases h
  | n + 1, b, h => by
    rw [ld_s] at h
    have ih : ∀ b, ld_ A w c d n = some b → b < n ∧ isN A w c d b = true := fun b hb => ld_ok hb
    split at h
    · next hn =>
      unfold bst_ at h
      cases ho : ld_ A w c d n with
      | none => rw [ho] at h; cases h; exact ⟨by omega, hn⟩
      | some y =>
        rw [ho] at h
        dsimp only at h
        have := ih y ho
        split at h
        · cases h; exact ⟨by omega, hn⟩
        · cases h; exact ⟨by omega, this.2⟩
    · have := ih b h
      exact ⟨by omega, this.2⟩
theorem se_hasNumber {M : Mm} {q : Nat} {G : Nat → Nat → Nat} {j w c : Nat} {post : Int32 → Mm → Prop} (hE : EO M q G j) (hw : 10 ^ c ≤ w ∧ w < 2 * 10 ^ c) (hc : c ≤ 16) (h : post (b2_ (nmB G w c j)) M) : PX2_hasNumber q (lN w) (nI c) M post := by
  have hG := hE.2.2.2.2.2.2.2.2.1
  have g4 := hG.2.2.2.2.2.1
  have g5 := hG.2.2.2.2.2.2.1
  unfold PX2_hasNumber
  rw [hE.2.2.2.2.2.1]
  refine ⟨hE.1, pk_lt c (G 4 j) (fun z => ?_) (fun z => se_fits hE hw hc (bz (fun z1 => ?_) (fun z1 => ?_))) rfl rfl (by omega) (by omega)⟩
  · have e1 : nmB G w c j = false := by unfold nmB; rw [decide_eq_false (by omega)]; rfl
    rw [e1] at h; exact h
  · have e1 : nmB G w c j = false := by unfold nmB; rw [z1, Bool.and_false]
    rw [e1] at h; exact h
  · have e1 : nmB G w c j = true := by unfold nmB; rw [z1, decide_eq_true z]; rfl
    rw [e1] at h; exact h
theorem se_rankOf {k : Nat} {M : Mm} {post : Int32 → Mm → Prop} (hk : k ≤ 3) (h : post (nI (rkN k)) M) : PX6_rankOf (nI k) M post := by
  unfold PX6_rankOf
  rw [nI_T (by omega)]
  rcases (by omega : k = 0 ∨ k = 1 ∨ k = 2 ∨ k = 3) with e | e | e | e
  · subst e; exact ⟨fun _ => h, fun z => by omega, fun z => by omega, fun z => by omega, fun z => by omega⟩
  · subst e; exact ⟨fun z => by omega, fun _ => h, fun z => by omega, fun z => by omega, fun z => by omega⟩
  · subst e; exact ⟨fun z => by omega, fun z => by omega, fun _ => h, fun z => by omega, fun z => by omega⟩
  · subst e; exact ⟨fun z => by omega, fun z => by omega, fun z => by omega, fun _ => h, fun z => by omega⟩
theorem sp_rank {m : Nat} {M : Mm} {G : Nat → Nat → Nat} {e : Nat} {post : Int32 → Mm → Prop} (hM : MW m M) (hR : MR m M G e) (he : e < 130) (h : post (nI (rkN (G 0 e))) M) : PX11_rank m (nI e) M post := by
  obtain ⟨a1, a2, a3⟩ := hM.f2
  have hin : vp_in (nI e) (ddN M (m + 1)) := by rw [a3]; exact nI_in2 he (by decide)
  have hk := hR.2.2.2.2.2.2.1
  unfold PX11_rank
  rw [nI_cl (by omega)]
  refine ⟨hM.1, m + 1, a1, a2, hin, ?_⟩
  rw [hR.1, show (1 : Int32) = nI 1 from rfl, nI_eq (by omega) (by omega), nI_ne0' (by omega), show (3 : Int32) = nI 3 from rfl, nI_eq (by omega) (by omega)]
  unfold rkN at h
  refine ⟨fun z => ⟨hin, fun z1 => ⟨hin, fun z2 => ?_, fun z2 => ?_⟩, fun z1 => ?_⟩, fun z => ?_⟩
  · rw [if_neg z, if_neg z1, if_neg z2] at h; exact h
  · rw [if_neg z, if_neg z1, if_pos z2] at h; exact h
  · rw [if_neg z, if_pos z1] at h; exact h
  · rw [if_pos z] at h; exact h
theorem se_leadOf {a : Nat} {M : Mm} {A : Ab} {w c : Nat} {d : Int32} {post : Option Nat → Mm → Prop} (hW : DW a M) (hD : DE a M A) (hw : 10 ^ c ≤ w ∧ w < 2 * 10 ^ c) (hc : c ≤ 16) (h : post (pO a M (ld_ A w c d (A.2.2 0))) M) : PX6_leadOf (a + 1) (lN w) (nI c) d M post := by
  have h120 := hD.1
  have t7 : ddT M (a + 1) = 7 := DW_T hW (by decide)
  refine pk_loop (fun fu i (s : Option Nat) => DX6_leadOf_6 post fu (a + 1) (lN w) (nI c) d s (nI i) M) (fun i s => s = pO a M (ld_ A w c d i)) (A.2.2 0) 0 none (by omega) rfl (fun fu s hs => ?_) (fun fu i s hi hs hk => ?_)
  · show BX6_leadOf_6 (DX6_leadOf_6 post fu) post (a + 1) (lN w) (nI c) d s (nI (A.2.2 0)) M
    exact ⟨t7, pk_le (A.2.2 0) (A.2.2 0) (fun _ => by rw [hs]; exact h) (fun z => by omega) hD.2.1 rfl (by omega) (by omega)⟩
  · show BX6_leadOf_6 (DX6_leadOf_6 post fu) post (a + 1) (lN w) (nI c) d s (nI i) M
    unfold BX6_leadOf_6
    rw [nI_1]
    have no : isN A w c d i = false → DX6_leadOf_6 post fu (a + 1) (lN w) (nI c) d s (nI (i + 1)) M := fun z => hk s (by rw [hs, ld_s, z]; rfl)
    refine ⟨t7, pk_le (A.2.2 0) i (fun z => by omega) (fun _ => se_entryI hW hD hi fun q hq => co_some q ⟨hq.T, se_inF hq (bz (fun z => no (by unfold isN; rw [z]; rfl)) (fun z => ⟨hq.T, se_hasNumber hq.2.2.2.1 hw hc (bz (fun z1 => no (by unfold isN; rw [z1, Bool.and_false])) (fun z1 => ?_))⟩))⟩ rfl) hD.2.1 rfl (by omega) (by omega)⟩
    have zN : isN A w c d i = true := by unfold isN; rw [z, z1]; rfl
    have step : ∀ o, s = pO a M o → ld_ A w c d i = o → ∀ s', s' = pO a M (bst_ A o i) → DX6_leadOf_6 post fu (a + 1) (lN w) (nI c) d s' (nI (i + 1)) M := fun o _ ho s' hs' => hk s' (by rw [ld_s, if_pos zN, ho]; exact hs')
    cases ho : ld_ A w c d i with
    | none =>
      rw [ho] at hs
      exact co_none (step none hs ho (some q) (by show some q = ddR M (a + 2) i; exact hq.1.symm)) hs
    | some b =>
      rw [ho] at hs
      obtain ⟨hb, -⟩ := ld_ok ho
      obtain ⟨q', hq'⟩ := hD.at (show b < A.2.2 0 by omega)
      have e' : s = some q' := by rw [hs, pO_s]; exact hq'.1
      refine co_some q' ⟨hq.T, ?_⟩ e'
      have hO := hq.2.2.2.1
      have hO' := hq'.2.2.2.1
      have r1 := rkN_lt (A.1 0 i)
      have r2 := rkN_lt (A.1 0 b)
      rw [hO.2.1]
      refine se_rankOf hO.2.2.2.2.2.2.2.2.1.1 ⟨hO'.1, ?_⟩
      rw [hO'.2.1]
      refine se_rankOf hO'.2.2.2.2.2.2.2.2.1.1 (pk_le (rkN (A.1 0 b)) (rkN (A.1 0 i)) (fun y => step (some b) hs ho s ?_) (fun y => step (some b) hs ho (some q) ?_) rfl rfl (by omega) (by omega))
      · unfold bst_; dsimp only; rw [if_neg (by omega)]; exact hs
      · unfold bst_; dsimp only; rw [if_pos y]; show some q = ddR M (a + 2) i; exact hq.1.symm
theorem sp_leadsTo {m : Nat} {M : Mm} {A : Ab} {w c : Nat} {d : Int32} {post : Int32 → Mm → Prop} (hM : MW m M) (hE : ME m M A) (hH : HD m M w c) (hc : c ≤ 16) (h : post (pM (ld_ A w c d (A.2.2 0))) M) : PX11_leadsTo m d M post := by
  have h120 := hE.1
  refine pk_loop (fun fu i (s : Int32) => DX11_leadsTo_4 post fu m d s (nI i) M) (fun i s => s = pM (ld_ A w c d i)) (A.2.2 0) 0 (-1) (by omega) rfl (fun fu s hs => ?_) (fun fu i s hi hs hk => ?_)
  · show BX11_leadsTo_4 (DX11_leadsTo_4 post fu) post m d s (nI (A.2.2 0)) M
    exact ⟨hM.1, pk_le (A.2.2 0) (A.2.2 0) (fun _ => by rw [hs]; exact h) (fun z => by omega) hE.2.1 rfl (by omega) (by omega)⟩
  · show BX11_leadsTo_4 (DX11_leadsTo_4 post fu) post m d s (nI i) M
    unfold BX11_leadsTo_4
    rw [nI_1]
    have hR := (hE.2.2 i hi).1
    have no : isN A w c d i = false → DX11_leadsTo_4 post fu m d s (nI (i + 1)) M := fun z => hk s (by rw [hs, ld_s, z]; rfl)
    refine ⟨hM.1, pk_le (A.2.2 0) i (fun z => by omega) (fun _ => sp_inF hM hE hi (bz (fun z => no (by unfold isN; rw [z]; rfl)) (fun z => ⟨hM.1, sp_isNumber hM hR (by omega) hH hc (bn (fun z1 => ?_) (fun z1 => no (by unfold isN; rw [z1, Bool.and_false])))⟩))) hE.2.1 rfl (by omega) (by omega)⟩
    have zN : isN A w c d i = true := by unfold isN; rw [z, z1]; rfl
    cases ho : ld_ A w c d i with
    | none =>
      rw [ho] at hs
      rw [hs]
      exact ⟨fun _ => hk (nI i) (by rw [ld_s, if_pos zN, ho]; rfl), fun y => absurd rfl y⟩
    | some b =>
      rw [ho] at hs
      obtain ⟨hb, -⟩ := ld_ok ho
      have hR' := (hE.2.2 b (by omega)).1
      have r1 := rkN_lt (A.1 0 i)
      have r2 := rkN_lt (A.1 0 b)
      rw [hs, pM_s]
      refine ⟨fun y => absurd y (nI_m1 (by omega)), fun _ => ⟨hM.1, sp_rank hM hR (by omega) ⟨hM.1, sp_rank hM hR' (by omega) (pk_le (rkN (A.1 0 b)) (rkN (A.1 0 i)) (fun y => hk _ ?_) (fun y => hk _ ?_) rfl rfl (by omega) (by omega))⟩⟩⟩
      · rw [ld_s, if_pos zN, ho]; unfold bst_; dsimp only; rw [if_neg (by omega)]; rfl
      · rw [ld_s, if_pos zN, ho]; unfold bst_; dsimp only; rw [if_pos y]; rfl
/-! the figures behind a prefix -/
def bh_ (w k : Nat) : Nat := 10 ^ k + w % 10 ^ k
theorem bh_F (w k : Nat) : 10 ^ k ≤ bh_ w k ∧ bh_ w k < 2 * 10 ^ k := by
  unfold bh_
  have h3 : 0 < 10 ^ k := Nat.pow_pos (by decide)
  have := Nat.mod_lt w h3
  omega
theorem bh_s (w k : Nat) : bh_ w (k + 1) = 10 * bh_ (w / 10) k + w % 10 := by
  unfold bh_
  rw [Nat.pow_succ', Nat.mod_mul]
  omega
theorem bh_dg {w c p : Nat} (hp : p < c) : dg_ (bh_ w (c - p)) (c - p) 0 = dg_ w c p := by
  unfold dg_ bh_
  obtain ⟨k, hk⟩ : ∃ k, c - p = k + 1 := ⟨c - p - 1, by omega⟩
  rw [hk, show c - 1 - p = k by omega, show k + 1 - 1 - 0 = k by omega]
  have h3 : 0 < 10 ^ k := Nat.pow_pos (by decide)
  rw [Nat.pow_succ, Nat.mod_mul]
  have e : 10 ^ k * 10 + (w % 10 ^ k + 10 ^ k * (w / 10 ^ k % 10)) = w % 10 ^ k + 10 ^ k * (10 + w / 10 ^ k % 10) := by rw [Nat.mul_add]; omega
  rw [e, Nat.add_mul_div_left _ _ h3, Nat.div_eq_of_lt (Nat.mod_lt w h3)]
  omega
def lof_ (A : Ab) (o : Option Nat) (w c : Nat) (d : Int32) : Int32 := match o with
  | none => -1
  | some e => if A.1 0 e = 1 ∨ A.1 0 e = 2 then -1 else
    match (if A.1 0 e = 0 then some e else fo_ A (dg_ w c (A.1 2 e)) d 120 (A.2.1 0 e).toInt.toNat) with
    | none => -1
    | some b => lo_ A b (bh_ w (c - A.1 2 e)) d
theorem inF_le {A : Ab} {e : Nat} {d : Int32} (h6 : A.1 6 e ≤ 20000) (h : inF A e d = true) : (A.1 6 e : Int) ≤ d.toInt ∧ (A.2.1 1 e = -1 ∨ d < A.2.1 1 e) := by
  unfold inF inB at h
  rw [Bool.and_eq_true, Bool.or_eq_true] at h
  have y := h.1
  simp only [Bool.not_eq_true', decide_eq_false_iff_not] at y
  rw [xi_lt, nI_T (by omega)] at y
  refine ⟨by omega, ?_⟩
  rcases h.2 with z | z
  · exact Or.inl (of_decide_eq_true z)
  · exact Or.inr (of_decide_eq_true z)
theorem fo_in {A : Ab} {e f k : Nat} {d : Int32} (h6 : A.1 6 e ≤ 20000) (h : inF A e d = true) : fo_ A f d (k + 1) e = some e := by
  unfold fo_
  rcases (inF_le h6 h).2 with z | z
  · rw [if_pos z]
  · split
    · rfl
    · first
      | rfl
      | rw [if_pos z]
theorem num_F {A : Ab} {w c e : Nat} {d : Int32} (hG : GW A.1 e) (hk : A.1 0 e = 0 ∨ A.1 0 e = 3) (h : isN A w c d e = true) : c = A.1 4 e ∧ A.1 2 e < c ∧ (A.1 3 e).testBit (dg_ w c (A.1 2 e)) = true ∧ inF A e d = true := by
  unfold isN nmB ftB at h
  simp only [Bool.and_eq_true, decide_eq_true_eq] at h
  obtain ⟨h1, h2, h3, h4⟩ := h
  obtain ⟨g1, g2, g3, g4⟩ := hG.2.2.2.2.2.2.2.2.2.1 hk
  have hb := all_lt.mp h4 (A.1 2 e) (by omega)
  unfold mayN at hb
  rw [if_neg (by omega), if_pos ⟨rfl, by omega⟩] at hb
  exact ⟨by omega, by omega, hb, h1⟩
theorem se_findBy {a : Nat} {M : Mm} {A : Ab} {e q w c : Nat} {d : Int32} {post : Int32 → Mm → Prop} (hW : DW a M) (hD : DE a M A) (hL : DL a M A) (hA : WA A) (he : e < A.2.2 0) (hq : EH a M A e q) (hw : 10 ^ c ≤ w ∧ w < 2 * 10 ^ c) (hc : c ≤ 16) (hN : isN A w c d e = true) (h : post (lof_ A (some e) w c d) M) : PX4_findBy (a + 4) (some q) (lN w) (nI c) d M post := by
  have h120 := hD.1
  have hO := hq.2.2.2.1
  have hG := hO.2.2.2.2.2.2.2.2.1
  have hk3 := hG.1
  have h6 := hG.2.2.2.2.2.2.2.1
  have hw63 : w < 2 ^ 63 := by
    have : 10 ^ c ≤ 10 ^ 16 := Nat.pow_le_pow_right (by decide) hc
    have : (2 : Nat) * 10 ^ 16 < 2 ^ 63 := by decide
    omega
  have main : (A.1 0 e = 0 ∨ A.1 0 e = 3) → ∀ b qb, ddR M (a + 2) b = some qb → Fk A (dg_ w c (A.1 2 e)) d (c - A.1 2 e) b → (∀ b', fo_ A (dg_ w c (A.1 2 e)) d 120 b = some b' → post (lo_ A b' (bh_ w (c - A.1 2 e)) d) M) → (fo_ A (dg_ w c (A.1 2 e)) d 120 b = none → post (-1) M) → BX4_findBy_15 post (a + 4) (some q) (lN w) (nI c) d (some qb) M := by
    intro hk b qb hb hF h1 h2
    obtain ⟨f1, f2, f3, f4⟩ := num_F hG hk hN
    have hp7 := hG.2.2.2.1
    refine co_some qb ⟨q, rfl, hO.1, ?_⟩ rfl
    rw [hO.2.2.2.1]
    refine sp_figureBit hw63 (by omega) f2 ?_
    have ed : w / 10 ^ (c - 1 - A.1 2 e) % 10 = dg_ w c (A.1 2 e) := rfl
    rw [ed]
    obtain ⟨qb', hqb⟩ := hD.at hF.1
    have tb : ddT M qb = 3 := by
      have := hqb.1
      rw [hb] at this
      cases this
      exact hqb.T
    refine ⟨tb, se_follow hD hA (dg_lt _ _ _) hF hb ?_⟩
    cases ho : fo_ A (dg_ w c (A.1 2 e)) d 120 b with
    | none => exact co_none (h2 ho) rfl
    | some b' =>
      have hF' := fo_ok hA h120 (dg_lt _ _ _) 120 b b' hF ho
      obtain ⟨q', hq'⟩ := hD.at hF'.1
      refine co_some q' ⟨hO.1, ?_⟩ (by rw [pO_s]; exact hq'.1)
      rw [hO.2.2.2.1, pk_sub (by omega)]
      refine sp_lastOf hw63 (by omega) ⟨DW_T hW (by decide), ?_⟩
      have hbl : bh_ w (c - A.1 2 e) < 2 ^ 63 := by
        have h1 := (bh_F w (c - A.1 2 e)).2
        have : 10 ^ (c - A.1 2 e) ≤ 10 ^ 16 := Nat.pow_le_pow_right (by decide) (by omega)
        have : (2 : Nat) * 10 ^ 16 < 2 ^ 63 := by decide
        omega
      rw [pO_s, hq'.1]
      exact se_findOn hW hD hL hA hF'.1 hq' hbl (h1 b' ho)
  refine ⟨q, rfl, hO.1, ?_⟩
  rw [hO.2.1, nI_ne0' (by omega), hq.2.2.2.2.2.2.2.2.2.2.2.1]
  unfold lof_ at h
  dsimp only at h
  refine ⟨fun z => ?_, fun z => ?_⟩
  · by_cases z3 : A.1 0 e = 3
    · rw [if_pos z3]
      rw [if_neg (by omega), if_neg z] at h
      obtain ⟨b, b1, b2, b3, b4, b5, b6⟩ := (hA.2.2.2.1 e he).2.2.2 z3
      obtain ⟨f1, f2, f3, f4⟩ := num_F hG (Or.inr z3) hN
      have hle := (inF_le h6 f4).1
      rw [b1, nI_T (by omega), show ((b : Int)).toNat = b by omega] at h
      obtain ⟨qb, hqb⟩ := hD.at b2
      have ept : pt_ a M (A.2.1 0 e) = some qb := by
        unfold pt_
        rw [b1, if_neg (nI_m1 (by omega)), nI_cl (by omega)]
        exact hqb.1
      rw [ept]
      refine main (Or.inr z3) b qb hqb.1 ⟨b2, b3, by rw [b4]; exact f3, by omega, by omega⟩ (fun b' ho => ?_) (fun ho => ?_)
      · rw [ho] at h; exact h
      · rw [ho] at h; exact h
    · rw [if_neg z3]
      rw [if_pos (by omega)] at h
      exact co_none h rfl
  · rw [if_neg (by omega), if_pos z] at h
    obtain ⟨f1, f2, f3, f4⟩ := num_F hG (Or.inl z) hN
    have hle := (inF_le h6 f4).1
    refine main (Or.inl z) e q hq.1 ⟨he, z, f3, hle, by omega⟩ (fun b' ho => ?_) (fun ho => ?_)
    · rw [fo_in h6 f4] at ho
      cases ho
      exact h
    · rw [fo_in h6 f4] at ho
      cases ho
theorem sp_lineOf {m : Nat} {M : Mm} {A : Ab} {w c : Nat} {d : Int32} {o : Option Nat} {post : Int32 → Mm → Prop} (hM : MW m M) (hE : ME m M A) (hL : ML m M A) (hA : WA A) (hH : HD m M w c) (hc : c ≤ 16) (ho : ∀ e, o = some e → e < A.2.2 0 ∧ isN A w c d e = true) (h : post (lof_ A o w c d) M) : PX11_lineOf m (pM o) d M post := by
  have h120 := hE.1
  cases o with
  | none => exact ⟨fun _ => h, fun z => absurd rfl z⟩
  | some e =>
    obtain ⟨he, hN⟩ := ho e rfl
    obtain ⟨⟨r0, r1, r3, r4, r5, r6, hG⟩, ⟨s0, -⟩⟩ := hE.2.2 e he
    have hk3 := hG.1
    have h6 := hG.2.2.2.2.2.2.2.1
    have hp7 := hG.2.2.2.1
    have gw := hG.w
    obtain ⟨a1, a2, a3⟩ := hM.f2
    obtain ⟨b1, b2, b3⟩ := hM.f4
    obtain ⟨c1, c2, c3⟩ := hM.f31
    obtain ⟨f1, f2, f3⟩ := hM.f3
    have hin : vp_in (nI e) 130 := nI_in2 (by omega) (by decide)
    have hin1 : vp_in (nI e) (ddN M (m + 1)) := by rw [a3]; exact hin
    unfold lof_ at h
    dsimp only at h
    rw [pM_s]
    unfold PX11_lineOf
    refine ⟨fun z => absurd z (nI_m1 (by omega)), fun _ => ⟨hM.1, m + 1, a1, a2, hin1, ?_⟩⟩
    rw [nI_cl (by omega), r0, show (1 : Int32) = nI 1 from rfl, nI_eq (by omega) (by omega), show (2 : Int32) = nI 2 from rfl, nI_eq (by omega) (by omega)]
    refine ⟨fun z => by rw [if_pos (Or.inl z)] at h; exact h, fun z => ⟨hin1, fun z1 => ⟨m + 3, b1, b2, by rw [b3]; exact hin, ?_⟩, fun z1 => by rw [if_pos (Or.inr z1)] at h; exact h⟩⟩
    rw [if_neg (by omega)] at h
    obtain ⟨g1, g2, g3, g4⟩ := num_F hG (by omega) hN
    rw [r1]
    refine sp_lengthOf (by omega) hG.2.1 (by omega) ?_
    have hbl : ∀ v k, k ≤ 16 → bh_ v k < 2 ^ 63 := fun v k hk => by
      have h1 := (bh_F v k).2
      have : 10 ^ k ≤ 10 ^ 16 := Nat.pow_le_pow_right (by decide) hk
      have : (2 : Nat) * 10 ^ 16 < 2 ^ 63 := by decide
      omega
    refine pk_loop (fun fu i (s : Int64) => DX11_lineOf_40 post fu m (nI e) d s (nI i) M) (fun i s => A.1 2 e ≤ i ∧ s = lN (bh_ (w / 10 ^ (c - i)) (i - A.1 2 e))) c (A.1 2 e) 1 (by omega) ⟨by omega, ?_⟩ (fun fu s hs => ?_) (fun fu i s hi hs hk => ?_)
    · rw [Nat.sub_self]
      unfold bh_
      rw [Nat.pow_zero, Nat.mod_one]
      rfl
    · show BX11_lineOf_40 (DX11_lineOf_40 post fu) post m (nI e) d s (nI c) M
      unfold BX11_lineOf_40
      rw [nI_cl (by omega)]
      refine ⟨hM.1, pk_le c c (fun _ => ⟨m + 1, a1, a2, hin1, ?_⟩) (fun z => by omega) hH.1 rfl (by omega) (by omega)⟩
      have es : s = lN (bh_ w (c - A.1 2 e)) := by rw [hs.2, Nat.sub_self, Nat.pow_zero, Nat.div_one]
      rw [r0, nI_ne0' (by omega), es]
      refine ⟨fun z2 => ⟨m + 2, f1, f2, by rw [f3]; exact hin, ?_⟩, fun z2 => ⟨fun _ => ?_, fun y => absurd y (nI_m1 (by omega))⟩⟩
      · rw [if_neg z2] at h
        obtain ⟨b, y1, y2, y3, y4, y5, y6⟩ := (hA.2.2.2.1 e he).2.2.2 (by omega)
        have hle := (inF_le h6 g4).1
        rw [s0, y1]
        rw [y1, nI_T (by omega), show ((b : Int)).toNat = b by omega] at h
        have hF : Fk A (dg_ w c (A.1 2 e)) d (c - A.1 2 e) b := ⟨y2, y3, by rw [y4]; exact g3, by omega, by omega⟩
        have ebd := bh_dg (w := w) g2
        refine sp_follow hM hE hA (hbl w _ (by omega)) (isF_nat.mpr (bh_F w _)) (by omega) (by omega) (by rw [ebd]; exact hF) ?_
        rw [ebd]
        cases hof : fo_ A (dg_ w c (A.1 2 e)) d 120 b with
        | none =>
          rw [hof] at h
          exact ⟨fun y => absurd rfl y, fun _ => h⟩
        | some b' =>
          rw [hof] at h
          have hF' := fo_ok hA h120 (dg_lt _ _ _) 120 b b' hF hof
          have := hF'.1
          rw [pM_s]
          exact ⟨fun _ => ⟨hM.1, sp_lineOn hM hE hL hA hF'.1 (hbl w _ (by omega)) h⟩, fun y => absurd y (nI_m1 (by omega))⟩
      · rw [if_pos z2] at h
        exact sp_lineOn hM hE hL hA he (hbl w _ (by omega)) h
    · show BX11_lineOf_40 (DX11_lineOf_40 post fu) post m (nI e) d s (nI i) M
      unfold BX11_lineOf_40
      rw [nI_1 i, nI_cl (n := i) (by omega)]
      refine ⟨hM.1, pk_le c i (fun z => by omega) (fun _ => ⟨m + 28, c1, c2, by rw [c3]; exact nI_in2 (by omega) (by decide), fun v ev => hk v ⟨by omega, ?_⟩⟩) hH.1 rfl (by omega) (by omega)⟩
      have hd := dg_lt w c i
      rw [ev, hs.2, hH.2 i hi, i2l_nI (by omega), show (10 : Int64) = lN 10 from rfl, lN_mul, lN_add]
      obtain ⟨k, hk2⟩ : ∃ k, i - A.1 2 e = k := ⟨_, rfl⟩
      have e2 : i + 1 - A.1 2 e = k + 1 := by have := hs.1; omega
      rw [e2, hk2, bh_s]
      congr 2
      · congr 2
        rw [Nat.div_div_eq_div_mul, ← Nat.pow_succ]
        congr 2
        omega
      · unfold dg_
        congr 3
        omega
