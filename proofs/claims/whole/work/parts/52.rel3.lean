/-! the cheapest -/
def bup (P : Nat → Bool) (c : Nat → Nat) (o : Option Nat) (s : Nat) : Option Nat := if P s && (match o with | none => true | some b => decide (c s < c b)) then some s else o
def bq_ (P : Nat → Bool) (c : Nat → Nat) : Nat → Option Nat
  | 0 => none
  | s + 1 => if s = 0 then none else bup P c (bq_ P c s) s
theorem bq_s {P : Nat → Bool} {c : Nat → Nat} {s : Nat} (h : 1 ≤ s) : bq_ P c (s + 1) = bup P c (bq_ P c s) s := by
  show (if s = 0 then none else _) = _
  rw [if_neg (by omega)]
theorem bq_1 {P : Nat → Bool} {c : Nat → Nat} : bq_ P c 1 = none := rfl
theorem bup_f {P : Nat → Bool} {c : Nat → Nat} {o : Option Nat} {s : Nat} (h : P s = false) : bup P c o s = o := by unfold bup; rw [h]; rfl
theorem bup_n {P : Nat → Bool} {c : Nat → Nat} {s : Nat} (h : P s = true) : bup P c none s = some s := by unfold bup; rw [h]; rfl
theorem bup_l {P : Nat → Bool} {c : Nat → Nat} {s b : Nat} (h : P s = true) (h2 : c s < c b) : bup P c (some b) s = some s := by
  unfold bup
  exact if_pos (by show (P s && decide (c s < c b)) = true; rw [h, decide_eq_true h2]; rfl)
theorem bup_g {P : Nat → Bool} {c : Nat → Nat} {s b : Nat} (h2 : c b ≤ c s) : bup P c (some b) s = some b := by
  unfold bup
  exact if_neg (by show ¬ (P s && decide (c s < c b)) = true; rw [decide_eq_false (by omega : ¬ c s < c b), Bool.and_false]; decide)
theorem bup_or (P : Nat → Bool) (c : Nat → Nat) (o : Option Nat) (s : Nat) : bup P c o s = some s ∨ bup P c o s = o := by
  unfold bup
  by_cases h : (P s && (match o with | none => true | some b => decide (c s < c b))) = true
  · exact Or.inl (if_pos h)
  · exact Or.inr (if_neg h)
theorem bq_lt {P : Nat → Bool} {c : Nat → Nat} : ∀ {n b : Nat}, bq_ P c n = some b → 1 ≤ b ∧ b < n
  | 0, b, h => by cases h
  | n + 1, b, h => by
    rcases Nat.eq_zero_or_pos n with q | q
    · subst q; rw [bq_1] at h; cases h
    · rw [bq_s q] at h
      have ih : ∀ b, bq_ P c n = some b → 1 ≤ b ∧ b < n := fun b hb => bq_lt hb
      rcases bup_or P c (bq_ P c n) n with z | z
      · rw [z] at h; cases h; omega
      · rw [z] at h; have := ih b h; omega
theorem bq_min {P : Nat → Bool} {c : Nat → Nat} {s : Nat} (hs : 1 ≤ s) (hP : P s = true) : ∀ n, s < n → ∃ b, bq_ P c n = some b ∧ c b ≤ c s
  | 0, h => by omega
  | n + 1, h => by
    rw [bq_s (by omega)]
    rcases Nat.lt_or_ge s n with q | q
    · obtain ⟨b, h1, h2⟩ := bq_min (c := c) hs hP n q
      rw [h1]
      cases hp : P n with
      | false => rw [bup_f hp]; exact ⟨b, rfl, h2⟩
      | true =>
        rcases Nat.lt_or_ge (c n) (c b) with z | z
        · rw [bup_l hp z]; exact ⟨n, rfl, by omega⟩
        · rw [bup_g z]; exact ⟨b, rfl, h2⟩
    · have e : n = s := by omega
      subst e
      cases ho : bq_ P c n with
      | none => rw [bup_n hP]; exact ⟨n, rfl, Nat.le_refl _⟩
      | some b =>
        rcases Nat.lt_or_ge (c n) (c b) with z | z
        · rw [bup_l hP z]; exact ⟨n, rfl, Nat.le_refl _⟩
        · rw [bup_g z]; exact ⟨b, rfl, z⟩
theorem bq_eq {P Q : Nat → Bool} {c : Nat → Nat} {N : Nat} (h1 : ∀ s, s < N → P s = true → Q s = true) (h2 : ∀ s, 1 ≤ s → s < N → Q s = true → P s = false → ∃ s', 1 ≤ s' ∧ s' < s ∧ P s' = true ∧ c s' ≤ c s) : ∀ n, n ≤ N → bq_ P c n = bq_ Q c n
  | 0, _ => rfl
  | n + 1, h => by
    rcases Nat.eq_zero_or_pos n with q | q
    · subst q; rfl
    · have ih := bq_eq h1 h2 n (by omega)
      rw [bq_s q, bq_s q, ← ih]
      cases hp : P n with
      | true =>
        have hq := h1 n (by omega) hp
        unfold bup
        rw [hp, hq]
      | false =>
        cases hq : Q n with
        | false => rw [bup_f hp, bup_f hq]
        | true =>
          obtain ⟨s', t1, t2, t3, t4⟩ := h2 n q (by omega) hq hp
          obtain ⟨b, u1, u2⟩ := bq_min (c := c) t1 t3 n t2
          rw [u1, bup_f hp, bup_g (by omega)]
/-! the desk's relief -/
def cvS (A : Ab) (j : Nat) (s now last : Nat) : Bool := (List.range (last + 1)).all (fun w => !decide (now ≤ w) || decide (as_ A j w ≤ rmW A (nI j) w + oS_ A s w))
theorem cvS_t {A : Ab} {j s now last : Nat} : cvS A j s now last = true ↔ ∀ w, now ≤ w → w ≤ last → as_ A j w ≤ rmW A (nI j) w + oS_ A s w := by
  unfold cvS
  rw [all_lt]
  constructor
  · intro h w h1 h2
    have := h w (by omega)
    rw [decide_eq_true h1] at this
    simpa using this
  · intro h w hw
    by_cases h1 : now ≤ w
    · rw [decide_eq_true (h w h1 (by omega)), Bool.or_true]
    · rw [decide_eq_false h1]; rfl
def pD_ (A : Ab) (j now last s : Nat) : Bool := decide (rsN s (us_ A (nI j) (A.2.2 3)) = 0) && (decide (A.2.2 0 + ct_ (fun f => s.testBit f) 10 ≤ 120) && (cvS A j s now last && npB A s))
def la_ (now w : Nat) : Nat := if now + w - 1 < 2000 then now + w - 1 else 2000
def rl_ (A : Ab) (j w : Nat) : Int32 := if fs_ A j (nI j) (A.2.2 4 / 7) = -1 then -1 else pM (bq_ (pD_ A j (fs_ A j (nI j) (A.2.2 4 / 7)).toInt.toNat (la_ (fs_ A j (nI j) (A.2.2 4 / 7)).toInt.toNat w)) (cs_ A) (2 ^ A.2.2 3))
def an_rel (A : Ab) (x w : Int32) : Int32 := if wi_ x.toInt 0 15 && wi_ w.toInt 1 2000 then rl_ A x.toInt.toNat w.toInt.toNat else -2
theorem p2_8 {n : Nat} (h : n ≤ 8) : 2 ^ n ≤ 256 := Nat.le_trans (Nat.pow_le_pow_right (by decide) h) (by decide)
theorem cs_lt {A : Ab} {s : Nat} (hA : WA A) (h8 : A.2.2 3 ≤ 8) : ∀ i, i ≤ A.2.2 3 → sm_ (fun o => if s.testBit o then A.1 50 o else 0) i ≤ 8000000 := fun i hi => by
  have : sm_ (fun o => if s.testBit o then A.1 50 o else 0) i ≤ i * 1000000 := sm_le (fun o ho => by
    have := (hA.2.2.2.2.2.2.2 o (by omega)).1
    split
    · exact this
    · exact Nat.zero_le _)
  have : i * 1000000 ≤ 8 * 1000000 := Nat.mul_le_mul_right _ (by omega)
  omega
theorem dn_rel {a : Nat} {M : Mm} {A : Ab} {x w : Int32} {post : Int32 → Mm → Prop} (hS : SS a M A) (h : ∀ M1, DS a M1 A → MS (a + 32) M1 A → post (an_rel A x w) M1) : PX10_relief a x w M post := by
  obtain ⟨hD, hM, hA⟩ := id hS
  have hz := hD.1.2.2.2.2
  have w1 := hA.1
  have hT0 : ddT M a = 11 := DW_T hD.1 (i := 0) (by decide)
  have hT10 : ddT M (a + 11) = 10 := DW_T hD.1 (by decide)
  have hk : ddI M a 4 = nI (A.2.2 4) := hD.2.1
  have h120 := hD.2.2.2.2.1.1
  have h8 := hD.2.2.2.2.2.2.1
  have hk0 : ∀ o, o < A.2.2 3 → A.1 0 (121 + o) = 0 := fun o ho => (hM.2.2.2.2.2.2.2.2 o ho).2.2.1
  unfold an_rel at h
  refine ⟨hT0, a + 11, DW_R hD.1 (i := 0) (by decide), hT10, se_demandOf hD.1 (fun c => co_none (by rw [c] at h; exact h M hD hM) rfl) (fun j hj ex => co_some (a + 13 + j) (se_within (bn (fun z => ⟨hT0, a + 11, DW_R hD.1 (i := 0) (by decide), hT10, hT10, ?_⟩) (fun z => ?_))) rfl)⟩
  · have z : wi_ w.toInt 1 2000 = true := z
    have zw := wi_t.mp z
    have hx : x.toInt = j := by rw [ex, nI_T (by omega)]
    rw [show wi_ x.toInt 0 15 = true from wi_t.mpr (by omega), z, show x.toInt.toNat = j by omega] at h
    obtain ⟨wn, ewn⟩ : ∃ wn, wn = w.toInt.toNat := ⟨_, rfl⟩
    have ew : w = nI wn := by rw [ewn]; exact (nI_toNat (by omega)).symm
    rw [← ewn] at h
    rw [show (if (true && true) = true then rl_ A j wn else (-2 : Int32)) = rl_ A j wn from if_pos rfl] at h
    rw [hk, show (7 : Int32) = nI 7 from rfl, pk_div (by omega) (by omega) (by omega)]
    refine se_firstShort hD hA hj (by omega) ?_
    unfold rl_ at h
    rcases fs_cases A j (nI j) (A.2.2 4 / 7) with ⟨e1, -⟩ | ⟨now, n1, n2, e1, n3, n4⟩
    · rw [e1, if_pos rfl] at h
      rw [e1]
      exact ⟨fun q => absurd rfl q, fun _ => h M hD hM⟩
    · rw [e1, if_neg (nI_m1 (by omega)), toNat_nI (by omega)] at h
      rw [e1, ew]
      refine ⟨fun _ => ?_, fun q => absurd q (nI_m1 (by omega))⟩
      rw [nI_add, show nI (now + wn) - 1 = nI (now + wn - 1) from pk_sub (b := 1) (by omega)]
      have hla : la_ now wn ≤ 2000 := by unfold la_; split <;> omega
      have key : ddT M (a + 11) = 10 ∧ (PX9_noteLacks (a + 11) (some (a + 13 + j)) (nI now) (nI (la_ now wn)) M (fun M9 => ∃ aq10 : Nat, some (a + 13 + j) = some aq10 ∧ (ddT M9 aq10 = 2 ∧ (ddT M9 (a + 11) = 10 ∧ (PX9_usableFor (a + 11) (ddI M9 aq10 0) (nI (A.2.2 4)) M9 (fun r14 M15 => ∃ fu : Nat, DX9_cheapestRelief_58 post fu (a + 11) r14 (-1) 0 1 M15)))))) := by
        refine ⟨hT10, se_noteLacks hD hA hj n2 hla (fun M9 k W L u hL hc => ?_)⟩
        have sD := DS_L3 hD u
        have sM : MS (a + 32) M9 A := MS_keep hM hz u (fun b k z => by unfold PL3 at z; omega)
        have t10 : ddT M9 (a + 11) = 10 := DW_T sD.1 (by decide)
        have t2 : ddT M9 (a + 13 + j) = 2 := by
          have := DW_T sD.1 (dwT13 j hj)
          rw [show a + (13 + j) = a + 13 + j by omega] at this
          exact this
        have ea : ddI M9 (a + 13 + j) 0 = nI j := sD.1.2.2.2.1 j hj
        refine ⟨a + 13 + j, rfl, t2, t10, ?_⟩
        rw [ea]
        refine se_usable sD hA ?_
        have fin := h M9 sD sM
        have hp := p2_8 h8
        have s3 : ddI M9 (a + 11) 3 = nI (A.2.2 3) := sD.2.2.2.2.2.2.2.1
        have hcv : ∀ s, cvB A s k W L = cvS A j s now (la_ now wn) := fun s => by
          have e2 : cvB A s k W L = true ↔ cvS A j s now (la_ now wn) = true := by
            rw [cvS_t, ← hc s]
            unfold cvB
            rw [all_lt]
            exact ⟨fun q i hi => of_decide_eq_true (q i hi), fun q i hi => decide_eq_true (q i hi)⟩
          cases h3 : cvB A s k W L with
          | true => exact (e2.mp h3).symm
          | false =>
            cases h4 : cvS A j s now (la_ now wn) with
            | false => rfl
            | true => rw [e2.mpr h4] at h3; cases h3
        refine pk_loop (fun fu i (st : Int32 × Int32) => DX9_cheapestRelief_58 post fu (a + 11) (nI (us_ A (nI j) (A.2.2 3))) st.1 st.2 (nI i) M9) (fun i st => 1 ≤ i ∧ st.1 = pM (bq_ (pD_ A j now (la_ now wn)) (cs_ A) i) ∧ ∀ b, bq_ (pD_ A j now (la_ now wn)) (cs_ A) i = some b → st.2 = nI (cs_ A b)) (2 ^ A.2.2 3) 1 (-1, 0) (Nat.pow_pos (by decide)) ⟨by omega, rfl, fun b hb => by cases hb⟩ (fun fu st hst => ?_) (fun fu i st hi hst hk2 => ?_)
        · show BX9_cheapestRelief_58 (DX9_cheapestRelief_58 post fu) post (a + 11) (nI (us_ A (nI j) (A.2.2 3))) st.1 st.2 (nI (2 ^ A.2.2 3)) M9
          unfold BX9_cheapestRelief_58
          rw [s3, sh1_ _ (by omega)]
          refine ⟨t10, pk_le (2 ^ A.2.2 3) (2 ^ A.2.2 3) (fun _ => ?_) (fun q => by omega) rfl rfl (by omega) (by omega)⟩
          rw [hst.2.1]; exact fin
        · show BX9_cheapestRelief_58 (DX9_cheapestRelief_58 post fu) post (a + 11) (nI (us_ A (nI j) (A.2.2 3))) st.1 st.2 (nI i) M9
          unfold BX9_cheapestRelief_58
          rw [s3, sh1_ _ (by omega), nI_1, rs_int (by omega)]
          obtain ⟨i1, i2, i3⟩ := hst
          have hrl := rs_lt (so := i) (s := us_ A (nI j) (A.2.2 3)) (by omega)
          have no : pD_ A j now (la_ now wn) i = false → DX9_cheapestRelief_58 post fu (a + 11) (nI (us_ A (nI j) (A.2.2 3))) st.1 st.2 (nI (i + 1)) M9 := fun q => hk2 st ⟨by omega, by rw [bq_s i1, bup_f q]; exact i2, by rw [bq_s i1, bup_f q]; exact i3⟩
          have hcl := cs_lt (s := i) hA h8 (A.2.2 3) (Nat.le_refl _)
          have hcl : cs_ A i ≤ 8000000 := hcl
          rw [nI_ne0' (by omega)]
          refine ⟨t10, pk_le (2 ^ A.2.2 3) i (fun q => by omega) (fun _ => ⟨fun q => no (by unfold pD_; rw [decide_eq_false q]; rfl), fun q => se_costOf sD (by omega) ?_⟩) rfl rfl (by omega) (by omega)⟩
          have upd : (bq_ (pD_ A j now (la_ now wn)) (cs_ A) i = none ∨ ∃ b, bq_ (pD_ A j now (la_ now wn)) (cs_ A) i = some b ∧ cs_ A i < cs_ A b) → BX9_cheapestRelief_100 (DX9_cheapestRelief_58 post fu) post (a + 11) (nI (us_ A (nI j) (A.2.2 3))) st.1 st.2 (nI i) (nI (cs_ A i)) M9 := fun hb => by
            unfold BX9_cheapestRelief_100
            rw [nI_1]
            refine ⟨t10, sj_bitCount (by omega) ⟨a + 1, DW_R sD.1 (by decide), DW_T sD.1 (by decide), DW_T sD.1 (by decide), ?_⟩⟩
            have hct : ct_ (fun f => i.testBit f) 10 ≤ 10 := ct_le 10
            rw [show ddI M9 (a + 1) 1 = nI (A.2.2 0) from sD.2.2.2.2.1.2.1, nI_add]
            refine pk_lt 120 (A.2.2 0 + ct_ (fun f => i.testBit f) 10) (fun y => ⟨fun _ => no (by unfold pD_; rw [decide_eq_false (by omega : ¬ A.2.2 0 + ct_ (fun f => i.testBit f) 10 ≤ 120), Bool.false_and, Bool.and_false]), fun y1 => absurd rfl y1⟩) (fun y => ⟨fun y1 => absurd y1 (by decide), fun _ => ⟨t10, se_covers sD (by omega) hk0 hL ?_⟩⟩) rfl rfl (by omega) (by omega)
            rw [hcv i]
            refine bz (fun y1 => no (by unfold pD_; rw [y1, Bool.false_and, Bool.and_false, Bool.and_false])) (fun y1 => ⟨t10, se_withoutPair sD (by omega) (bz (fun y2 => no (by unfold pD_; rw [y2, Bool.and_false, Bool.and_false, Bool.and_false])) (fun y2 => ?_))⟩)
            have hP : pD_ A j now (la_ now wn) i = true := by unfold pD_; rw [decide_eq_true q, decide_eq_true y, y1, y2]; rfl
            have hb2 : bq_ (pD_ A j now (la_ now wn)) (cs_ A) (i + 1) = some i := by
              rw [bq_s i1]
              rcases hb with hb | ⟨b, hb, hb3⟩
              · rw [hb, bup_n hP]
              · rw [hb, bup_l hP hb3]
            exact hk2 (nI i, nI (cs_ A i)) ⟨by omega, by rw [hb2]; rfl, fun b hb3 => by rw [hb2] at hb3; cases hb3; rfl⟩
          cases ho : bq_ (pD_ A j now (la_ now wn)) (cs_ A) i with
          | none =>
            have e3 : st.1 = -1 := by rw [i2, ho]; rfl
            exact ⟨fun _ => upd (Or.inl ho), fun y => absurd e3 y⟩
          | some b =>
            have hbl := bq_lt ho
            have e3 : st.1 = nI b := by rw [i2, ho]; rfl
            have e4 := i3 b ho
            have hcb : cs_ A b ≤ 8000000 := cs_lt (s := b) hA h8 (A.2.2 3) (Nat.le_refl _)
            refine ⟨fun y => absurd (e3.symm.trans y) (nI_m1 (by omega)), fun _ => ?_⟩
            refine pk_le (cs_ A b) (cs_ A i) (fun y => hk2 st ⟨by omega, ?_, ?_⟩) (fun y => upd (Or.inr ⟨b, ho, y⟩)) e4 rfl (by omega) (by omega)
            · rw [bq_s i1, ho, bup_g y]; exact e3
            · rw [bq_s i1, ho, bup_g y]; intro b' hb'; cases hb'; exact e4
      unfold PJ9_min_7cf53
      rw [show (2000 : Int32) = nI 2000 from rfl, nI_ltI (by omega) (by omega)]
      unfold la_ at key
      refine ⟨fun q => ?_, fun q => ?_⟩
      · rw [if_pos q] at key; exact key
      · rw [if_neg q] at key; exact key
  · rw [show wi_ w.toInt 1 2000 = false from z, Bool.and_false] at h
    exact h M hD hM
