/-! the model's hand -/
def MH (m b j : Nat) : Prop := b = m + 28 ∨ (b = m ∧ j = 32)
theorem MS_H {m : Nat} {M M' : Mm} {A : Ab} (h : MS m M A) (hz : m + 33 ≤ ddZ M) (u : Un (MH m) M M') : MS m M' A := MS_scr h hz u (fun b k z => by unfold MH at z; unfold MScr; omega)
theorem sp_takeCall {m : Nat} {M : Mm} {A : Ab} {k : Nat} {post : Mm → Prop} (hM : MS m M A) (hz : m + 33 ≤ ddZ M) (hk : k < 4) (hc : A.1 33 k ≤ 16) (h : ∀ M1, Un (MH m) M M1 → HD m M1 (A.1 34 k) (A.1 33 k) → post M1) : PX11_takeCall m (nI k) M post := by
  obtain ⟨g1, g2, g3, g4, g5, g6⟩ := hM.2.2.2.1 k hk
  obtain ⟨a1, a2, a3⟩ := hM.1.f26
  refine ⟨hM.1.1, m + 23, a1, a2, by rw [a3]; exact nI_in2 hk (by decide), fun M6 E6 => ?_⟩
  rw [nI_cl (by omega), g5] at E6
  have u6 : Un (MH m) M M6 := by rw [E6]; exact Un.sI.wk (fun b j _ z => Or.inr z)
  refine pk_loop (fun fu i (s : Mm) => DX11_takeCall_12 post fu m (nI k) (nI i) s) (fun i s => Un (MH m) M s ∧ ddI s m 32 = nI (A.1 33 k) ∧ ∀ j, j < i → ddI s (m + 28) j = nI (dg_ (A.1 34 k) (A.1 33 k) j)) (A.1 33 k) 0 M6 (by omega) ⟨u6, by rw [E6, gI_I, if_pos ⟨rfl, rfl⟩], fun j hj => by omega⟩ (fun fu s hs => ?_) (fun fu i s hi hs hk2 => ?_)
  · have sM := MS_H hM hz hs.1
    show BX11_takeCall_12 (DX11_takeCall_12 post fu) post m (nI k) (nI (A.1 33 k)) s
    exact ⟨sM.1.1, pk_le (A.1 33 k) (A.1 33 k) (fun _ => h s hs.1 hs.2) (fun z => by omega) hs.2.1 rfl (by omega) (by omega)⟩
  · have sM := MS_H hM hz hs.1
    obtain ⟨b1, b2, b3⟩ := sM.1.f27
    obtain ⟨c1, c2, c3⟩ := sM.1.f31
    show BX11_takeCall_12 (DX11_takeCall_12 post fu) post m (nI k) (nI i) s
    unfold BX11_takeCall_12
    rw [show (16 : Int32) * nI k + nI i = nI (16 * k + i) by rw [show (16 : Int32) = nI 16 from rfl, pk_mul, nI_add], nI_1, nI_cl (n := 16 * k + i) (by omega), nI_cl (n := i) (by omega)]
    refine ⟨sM.1.1, pk_le (A.1 33 k) i (fun z => by omega) (fun _ => ⟨m + 24, b1, b2, by rw [b3]; exact nI_in2 (by omega) (by decide), m + 28, c1, c2, by rw [c3]; exact nI_in2 (by omega) (by decide), fun M17 E17 => hk2 M17 ⟨?_, ?_, fun j hj => ?_⟩⟩) hs.2.1 rfl (by omega) (by omega)⟩
    · rw [E17]; exact hs.1.tt (Un.sI.wk (fun b j _ z => Or.inl z.1))
    · rw [E17, gI_I, if_neg (by omega)]; exact hs.2.1
    · rw [E17, gI_I]
      by_cases hji : j = i
      · rw [if_pos ⟨rfl, hji⟩, hji]
        exact (sM.2.2.2.1 k hk).2.2.2.2.2 i hi
      · rw [if_neg (fun z => hji z.2)]
        exact hs.2.2 j (by omega)
theorem sp_takeNumber {m : Nat} {M : Mm} {A : Ab} {w c : Nat} {post : Mm → Prop} (hM : MS m M A) (hz : m + 33 ≤ ddZ M) (hw : w < 2 ^ 63) (hF : isF w c) (hc : c ≤ 16) (h : ∀ M1, Un (MH m) M M1 → HD m M1 w c → post M1) : PX11_takeNumber m (lN w) M post := by
  have eT : (lN w).toInt = (w : Int) := pk_lT hw
  refine sp_figuresOf (fun q hq hF2 => ?_) (fun hno => ?_)
  · rw [eT] at hF2
    have e := isF_one hF hF2
    subst e
    refine ⟨hM.1.1, fun M6 E6 => ?_⟩
    have u6 : Un (MH m) M M6 := by rw [E6]; exact Un.sI.wk (fun b j _ z => Or.inr z)
    refine pk_loop (fun fu i (s : Mm) => DX11_takeNumber_10 post fu m (lN w) (nI i) s) (fun i s => Un (MH m) M s ∧ ddI s m 32 = nI c ∧ ∀ j, j < i → ddI s (m + 28) j = nI (dg_ w c j)) c 0 M6 (by omega) ⟨u6, by rw [E6, gI_I, if_pos ⟨rfl, rfl⟩], fun j hj => by omega⟩ (fun fu s hs => ?_) (fun fu i s hi hs hk2 => ?_)
    · have sM := MS_H hM hz hs.1
      show BX11_takeNumber_10 (DX11_takeNumber_10 post fu) post m (lN w) (nI c) s
      exact ⟨sM.1.1, pk_le c c (fun _ => h s hs.1 hs.2) (fun z => by omega) hs.2.1 rfl (by omega) (by omega)⟩
    · have sM := MS_H hM hz hs.1
      obtain ⟨c1, c2, c3⟩ := sM.1.f31
      show BX11_takeNumber_10 (DX11_takeNumber_10 post fu) post m (lN w) (nI i) s
      unfold BX11_takeNumber_10
      rw [nI_1, nI_cl (n := i) (by omega)]
      refine ⟨sM.1.1, pk_le c i (fun z => by omega) (fun _ => sp_figureAt hw hF (by omega) hi ⟨m + 28, c1, c2, by rw [c3]; exact nI_in2 (by omega) (by decide), fun M17 E17 => hk2 M17 ⟨?_, ?_, fun j hj => ?_⟩⟩) hs.2.1 rfl (by omega) (by omega)⟩
      · rw [E17]; exact hs.1.tt (Un.sI.wk (fun b j _ z => Or.inl z.1))
      · rw [E17, gI_I, if_neg (by omega)]; exact hs.2.1
      · rw [E17, gI_I]
        by_cases hji : j = i
        · rw [if_pos ⟨rfl, hji⟩, hji]; rfl
        · rw [if_neg (fun z => hji z.2)]
          exact hs.2.2 j (by omega)
  · rw [eT] at hno
    exact absurd hF (hno c)
theorem lof_cases {A : Ab} {o : Option Nat} {w c : Nat} {d : Int32} (h3 : A.2.2 1 ≤ 300) : lof_ A o w c d = -1 ∨ ∃ l, l < A.2.2 1 ∧ lof_ A o w c d = nI l := by
  unfold lof_
  cases o with
  | none => exact Or.inl rfl
  | some e =>
    dsimp only
    split
    · exact Or.inl rfl
    · cases (if A.1 0 e = 0 then some e else fo_ A (dg_ w c (A.1 2 e)) d 120 (A.2.1 0 e).toInt.toNat) with
      | none => exact Or.inl rfl
      | some b =>
        dsimp only
        unfold lo_
        rcases ff_cases (f := fun l => decide (A.1 11 l = bh_ w (c - A.1 2 e)) && decide (bo_ A l d = some b)) (n := A.2.2 1) (by omega) with ⟨z, -⟩ | ⟨k, z1, z2, -⟩
        · exact Or.inl z
        · exact Or.inr ⟨k, z1, z2⟩
/-! leads -/
def an_leads (A : Ab) (v : Int64) (d : Int32) : Int32 := if wi_ (npI v.toInt).toInt 1 15 && wi_ d.toInt 0 20000 then lof_ A (ld_ A v.toInt.toNat (npI v.toInt).toInt.toNat d (A.2.2 0)) v.toInt.toNat (npI v.toInt).toInt.toNat d else -2
theorem dn_leads {a : Nat} {M : Mm} {A : Ab} {v : Int64} {d : Int32} {post : Int32 → Mm → Prop} (hS : SS a M A) (h : post (an_leads A v d) M) : PX10_leads a v d M post := by
  obtain ⟨hD, hM, hA⟩ := hS
  have hT0 : ddT M a = 11 := DW_T hD.1 (i := 0) (by decide)
  have hT1 : ddT M (a + 1) = 7 := DW_T hD.1 (by decide)
  have hT4 : ddT M (a + 4) = 5 := DW_T hD.1 (by decide)
  have hDE := hD.2.2.2.2.1
  have hDL := hD.2.2.2.2.2.1
  unfold an_leads at h
  refine sp_placesOf (fun p hp hF => ?_) (fun hno => ?_)
  · rw [npI_t hF (by omega), nI_T (by omega), show ((p : Int)).toNat = p by omega] at h
    refine se_within ?_
    rw [nI_T (by omega)]
    refine bz (fun z => ?_) (fun z => se_isDay (bn (fun z1 => ⟨hT0, a + 1, DW_R hD.1 (i := 0) (by decide), hT1, ?_⟩) (fun z1 => ?_)))
    · rw [show wi_ (p : Int) 1 15 = false from z] at h; exact h
    · rw [show wi_ (p : Int) 1 15 = true from z, z1] at h
      have h : post (lof_ A (ld_ A v.toInt.toNat p d (A.2.2 0)) v.toInt.toNat p d) M := h
      have h1 : (1 : Int) ≤ 10 ^ p := Int.pow_pos (by decide)
      have h2 := hF.1
      obtain ⟨w, hw, ev, evT⟩ := lN_of (v := v) (by omega)
      have ew : v.toInt.toNat = w := by omega
      rw [ew] at h
      rw [ev]
      have hw2 := isF_nat.mp (by rw [← evT]; exact hF : isF (w : Int) p)
      refine se_leadOf hD.1 hDE hw2 (by omega) ?_
      cases ho : ld_ A w p d (A.2.2 0) with
      | none =>
        rw [ho] at h
        exact co_none h rfl
      | some e =>
        rw [ho] at h
        obtain ⟨he, hN⟩ := ld_ok ho
        obtain ⟨q, hq⟩ := hDE.at he
        rw [pO_s, hq.1]
        exact co_some q ⟨hT0, a + 4, DW_R hD.1 (i := 0) (by decide), hT4, se_findBy hD.1 hDE hDL hA he hq hw2 (by omega) hN h⟩ rfl
    · rw [z1, Bool.and_false] at h; exact h
  · have e : wi_ (npI v.toInt).toInt 1 15 = false := by
      rcases npI_cases v.toInt with ⟨e1, -⟩ | ⟨p, hp, hF, e1⟩
      · rw [e1]; rfl
      · rw [e1, nI_T (by omega)]
        rcases Nat.lt_or_ge p 17 with z | z
        · exact absurd hF (hno p z)
        · exact wi_f.mpr (by omega)
    rw [e] at h
    exact se_within (bz (fun _ => h) (fun z => absurd z (by decide)))
theorem mn_leads {m : Nat} {M : Mm} {A : Ab} {v : Int64} {d : Int32} {post : Int32 → Mm → Prop} (hM : MS m M A) (hA : WA A) (hz : m + 33 ≤ ddZ M) (h : ∀ M1, MS m M1 A → Un (fun b _ => m ≤ b ∧ b < m + 33) M M1 → post (an_leads A v d) M1) : PX11_leads m v d M post := by
  unfold an_leads at h
  refine sp_figI (sp_in ?_)
  rw [wd_T]
  refine bz (fun z => ?_) (fun z => sp_isDay (bn (fun z1 => ⟨hM.1.1, ?_⟩) (fun z1 => ?_)))
  · rw [show wi_ (npI v.toInt).toInt 1 15 = false from z] at h; exact h M hM Un.rf
  · rw [show wi_ (npI v.toInt).toInt 1 15 = true from z, z1] at h
    obtain ⟨p, hp, hF, ep, p1, p2⟩ := npI_in z (by decide)
    have p2 : (p : Int) ≤ 15 := p2
    rw [ep, nI_T (by omega), show ((p : Int)).toNat = p by omega] at h
    have h1 : (1 : Int) ≤ 10 ^ p := Int.pow_pos (by decide)
    have h2 := hF.1
    obtain ⟨w, hw, ev, evT⟩ := lN_of (v := v) (by omega)
    have ew : v.toInt.toNat = w := by omega
    rw [ew] at h
    rw [ev]
    refine sp_takeNumber hM hz hw (by rw [← evT]; exact hF) (by omega) (fun M1 u hH => ?_)
    have sM := MS_H hM hz u
    refine ⟨sM.1.1, sp_leadsTo sM.1 sM.2.2.2.2.1 hH (by omega) ⟨sM.1.1, sp_lineOf sM.1 sM.2.2.2.2.1 sM.2.2.2.2.2.1 hA hH (by omega) (fun e ho => ld_ok ho) ?_⟩⟩
    exact h M1 sM (u.wk (fun b k _ z => by unfold MH at z; omega))
  · rw [z1, Bool.and_false] at h; exact h M hM Un.rf
/-! told -/
def tw_ (A : Ab) (k : Nat) (v : Int) : Int32 :=
  let c := A.1 33 k
  let w := A.1 34 k
  let d := nI (A.1 32 k)
  if v = 0 then nI c else if v = 1 then A.2.1 30 k else if v = 2 then nI (A.1 31 k) else if v = 3 then d else if v = 4 then pM (ld_ A w c d (A.2.2 0)) else if v = 5 then lof_ A (ld_ A w c d (A.2.2 0)) w c d else if v = 6 then (if lof_ A (ld_ A w c d (A.2.2 0)) w c d = -1 then -1 else cr_ A (lof_ A (ld_ A w c d (A.2.2 0)) w c d).toInt.toNat d (A.2.2 2)) else if v = 7 then (match ld_ A w c d (A.2.2 0) with | none => -1 | some e => if A.1 0 e = 1 then A.2.1 0 e else -1) else if v = 8 then (if A.1 31 k = 0 then nI (nb_ A w c d (A.2.2 0)) else 0) else if v = 9 then (if A.1 31 k = 0 then pM (lmq_ A w c d (A.2.2 0)) else -1) else if v = 10 then (if A.1 31 k = 0 then pM (mmq_ A w c d (A.2.2 0)) else -1) else -1
def ok_told (A : Ab) (x : Int32) : Bool := wi_ x.toInt 0 3 && decide (A.1 30 x.toInt.toNat = 1)
def an_told (A : Ab) (x v : Int32) : Int32 := if ok_told A x then tw_ A x.toInt.toNat v.toInt else -1
theorem i_of {v : Int32} {n : Nat} (h : v.toInt = n) : v = nI n := by
  have := xi_rng v
  apply Int32.toInt_inj.mp
  rw [nI_T (by omega), h]
section TL
variable {a : Nat} {M : Mm} {A : Ab} {k : Nat} {post : Int32 → Mm → Prop}
theorem wf_call (hA : WA A) (hk : k < 4) (hb : A.1 30 k = 1) : 10 ^ A.1 33 k ≤ A.1 34 k ∧ A.1 34 k < 2 * 10 ^ A.1 33 k ∧ A.1 33 k ≤ 15 ∧ A.1 31 k ≤ 1 ∧ A.1 32 k ≤ 20000 := by
  obtain ⟨w1, w2, w3, w4, w5, w6, w7⟩ := hA.2.2.1 k hk
  exact ⟨(w5 hb).1, (w5 hb).2, w4, w2, w3⟩
theorem se_lead (hD : DS a M A) (hA : WA A) (hk : k < 4) (hb : A.1 30 k = 1) {n : Nat} (hn : n = 4 ∨ n = 5 ∨ n = 6 ∨ n = 7) (h : post (tw_ A k n) M) : PX10_tellOfLead a (some (a + 7 + k)) (nI n) M post := by
  have hT0 : ddT M a = 11 := DW_T hD.1 (i := 0) (by decide)
  have hT1 : ddT M (a + 1) = 7 := DW_T hD.1 (by decide)
  have hT4 : ddT M (a + 4) = 5 := DW_T hD.1 (by decide)
  have hTc := DW_c hD.1 hk
  have hDE := hD.2.2.2.2.1
  have hDL := hD.2.2.2.2.2.1
  have hR1 : ddR M a 1 = some (a + 4) := DW_R hD.1 (i := 0) (by decide)
  obtain ⟨c0, c1, c2, c3, c4, c5⟩ := hD.2.2.2.1 k hk
  obtain ⟨f1, f2, f3, f4, f5⟩ := wf_call hA hk hb
  have h3 := hDL.1
  have h5 := hDL.2.2.1
  refine ⟨hT0, a + 7 + k, rfl, hTc, a + 1, DW_R hD.1 (i := 0) (by decide), hT1, ?_⟩
  rw [c5, c4, c2]
  refine se_leadOf hD.1 hDE ⟨f1, f2⟩ (by omega) ?_
  unfold tw_ at h
  dsimp only at h
  cases ho : ld_ A (A.1 34 k) (A.1 33 k) (nI (A.1 32 k)) (A.2.2 0) with
  | none =>
    rw [ho] at h
    refine co_none ?_ rfl
    rcases hn with e | e | e | e <;> (subst e; exact h)
  | some e =>
    obtain ⟨he, hN⟩ := ld_ok ho
    obtain ⟨q, hq⟩ := hDE.at he
    have hO := hq.2.2.2.1
    have hk3 := hO.2.2.2.2.2.2.2.2.1.1
    rw [ho] at h
    rw [pO_s, hq.1]
    refine co_some q ?_ rfl
    rw [show (4 : Int32) = nI 4 from rfl, nI_eq (by omega) (by omega), show (7 : Int32) = nI 7 from rfl, nI_eq (by omega) (by omega)]
    refine ⟨fun z => ⟨fun z1 => ⟨hT0, hTc, a + 4, hR1, hT4, ?_⟩, fun z1 => ⟨hO.1, ?_⟩⟩, fun z => ⟨hO.1, ?_⟩⟩
    · rw [c5, c4, c2]
      refine se_findBy hD.1 hDE hDL hA he hq ⟨f1, f2⟩ (by omega) hN ⟨hT0, a + 4, hR1, hT4, ?_⟩
      rw [show (5 : Int32) = nI 5 from rfl, nI_eq (by omega) (by omega)]
      rcases lof_cases (A := A) (o := some e) (w := A.1 34 k) (c := A.1 33 k) (d := nI (A.1 32 k)) h3 with z2 | ⟨l, hl, z2⟩
      · rw [z2] at h ⊢
        have hno : isL A (-1) = false := wi_f.mpr (by intro y; have := y.1; exact absurd this (by decide))
        refine se_lineWith hD.1 hDL (fun _ => ⟨fun z3 => ?_, fun z3 => co_none ?_ rfl⟩) (fun l q c _ _ _ _ => absurd (hno.symm.trans c) (by decide))
        · subst z3; exact h
        · have : n = 6 := by omega
          subst this
          exact h
      · rw [z2] at h ⊢
        refine se_lineI hD.1 hDL hl (fun ql hql => ⟨fun z3 => ?_, fun z3 => co_some ql ⟨hTc, hql.2.2.1, ?_⟩ rfl⟩)
        · subst z3; exact h
        · have : n = 6 := by omega
          subst this
          rw [c2]
          refine se_carrier hql.2 h5 ?_
          have h : post (if nI l = -1 then -1 else cr_ A (nI l).toInt.toNat (nI (A.1 32 k)) (A.2.2 2)) M := h
          rw [if_neg (nI_m1 (by omega)), toNat_nI (by omega)] at h
          exact h
    · subst z1
      have h : post (if A.1 0 e = 1 then A.2.1 0 e else -1) M := h
      rw [hO.2.1, show (1 : Int32) = nI 1 from rfl, nI_eq (by omega) (by omega), hq.2.2.2.2.1]
      refine ⟨fun y => ?_, fun y => ?_⟩
      · rw [if_neg y] at h; exact h
      · rw [if_pos y] at h; exact h
    · subst z
      rw [hq.2.2.2.2.2.1]
      exact h
theorem se_rest (hS : SS a M A) (hk : k < 4) (hb : A.1 30 k = 1) {n : Nat} (hn : n = 8 ∨ n = 9 ∨ n = 10) (h : ∀ M1, DS a M1 A → MS (a + 32) M1 A → post (tw_ A k n) M1) : PX10_tellOfRest a (some (a + 7 + k)) (nI n) M post := by
  obtain ⟨hD, hM, hA⟩ := hS
  have hz := hD.1.2.2.2.2
  have hT0 : ddT M a = 11 := DW_T hD.1 (i := 0) (by decide)
  have hT1 : ddT M (a + 1) = 7 := DW_T hD.1 (by decide)
  have hTc := DW_c hD.1 hk
  have hDE := hD.2.2.2.2.1
  obtain ⟨c0, c1, c2, c3, c4, c5⟩ := hD.2.2.2.1 k hk
  obtain ⟨f1, f2, f3, f4, f5⟩ := wf_call hA hk hb
  refine ⟨a + 7 + k, rfl, hTc, ?_⟩
  rw [c1, nI_1' f4, c5, c4, c2, show (8 : Int32) = nI 8 from rfl, nI_eq (by omega) (by omega), show (9 : Int32) = nI 9 from rfl]
  unfold tw_ at h
  refine ⟨fun z => ⟨hT0, a + 1, DW_R hD.1 (i := 0) (by decide), hT1, se_read hD.1 hDE ⟨f1, f2⟩ (by omega) (fun M1 u hr => ?_)⟩, fun z => ?_⟩
  · obtain ⟨v0, v1, v2, v3⟩ := hr
    have sD := DS_scr hD u (fun b k z => Or.inl z)
    have fin := h M1 sD (MS_keep hM hz u (fun b k z => by unfold P3 at z; omega))
    have t3 : ddT M1 (a + 3) = 9 := DW_T sD.1 (by decide)
    rw [nI_eq (by omega) (by omega)]
    refine ⟨fun y => ⟨fun y1 => ⟨a + 3, rfl, t3, ?_⟩, fun y1 => ⟨a + 3, rfl, t3, ?_⟩⟩, fun y => ⟨a + 3, rfl, t3, ?_⟩⟩
    · have : n = 10 := by omega
      subst this
      have fin : post (if A.1 31 k = 0 then pM (mmq_ A (A.1 34 k) (A.1 33 k) (nI (A.1 32 k)) (A.2.2 0)) else -1) M1 := fin
      rw [if_pos z] at fin; rw [v3]; exact fin
    · subst y1
      have fin : post (if A.1 31 k = 0 then pM (lmq_ A (A.1 34 k) (A.1 33 k) (nI (A.1 32 k)) (A.2.2 0)) else -1) M1 := fin
      rw [if_pos z] at fin; rw [v2]; exact fin
    · subst y
      have fin : post (if A.1 31 k = 0 then nI (nb_ A (A.1 34 k) (A.1 33 k) (nI (A.1 32 k)) (A.2.2 0)) else 0) M1 := fin
      rw [if_pos z] at fin; rw [v1]; exact fin
  · have fin := h M hD hM
    refine ⟨fun y => ?_, fun y => ?_⟩
    · rcases hn with e | e | e
      · exact absurd e y
      · subst e
        have fin : post (if A.1 31 k = 0 then pM (lmq_ A (A.1 34 k) (A.1 33 k) (nI (A.1 32 k)) (A.2.2 0)) else -1) M := fin
        rw [if_neg z] at fin; exact fin
      · subst e
        have fin : post (if A.1 31 k = 0 then pM (mmq_ A (A.1 34 k) (A.1 33 k) (nI (A.1 32 k)) (A.2.2 0)) else -1) M := fin
        rw [if_neg z] at fin; exact fin
    · subst y
      have fin : post (if A.1 31 k = 0 then nI (nb_ A (A.1 34 k) (A.1 33 k) (nI (A.1 32 k)) (A.2.2 0)) else 0) M := fin
      rw [if_neg z] at fin; exact fin
end TL
theorem dn_told {a : Nat} {M : Mm} {A : Ab} {x v : Int32} {post : Int32 → Mm → Prop} (hS : SS a M A) (h : ∀ M1, DS a M1 A → MS (a + 32) M1 A → post (an_told A x v) M1) : PX10_told a x v M post := by
  obtain ⟨hD, hM, hA⟩ := id hS
  have hT0 : ddT M a = 11 := DW_T hD.1 (i := 0) (by decide)
  have no : ok_told A x = false → post (-1) M := fun c => by
    unfold an_told at h
    rw [c] at h
    exact h M hD hM
  refine ⟨hT0, se_callWith hD.1 (fun c => co_none (no (by unfold ok_told; rw [c]; rfl)) rfl) (fun k hk ex => co_some (a + 7 + k) ⟨DW_c hD.1 hk, ?_⟩ rfl)⟩
  have hx : x.toInt = k := by rw [ex, nI_T (by omega)]
  have cx : wi_ x.toInt 0 3 = true := wi_t.mpr (by omega)
  have ek : x.toInt.toNat = k := by omega
  obtain ⟨c0, c1, c2, c3, c4, c5⟩ := hD.2.2.2.1 k hk
  obtain ⟨w0, w1, -⟩ := hA.2.2.1 k hk
  rw [c0, nI_1' w0]
  refine ⟨fun z => ?_, fun z => no (by unfold ok_told; rw [ek, decide_eq_false (by omega), Bool.and_false])⟩
  have hb : A.1 30 k = 1 := by omega
  have ok : ok_told A x = true := by unfold ok_told; rw [cx, ek, decide_eq_true hb]; rfl
  unfold an_told at h
  rw [if_pos ok, ek] at h
  have hM0 := h M hD hM
  refine ⟨fun z => ?_, fun z => ?_, fun z => ?_, fun z => ?_, fun z => ⟨hT0, ?_⟩, fun z => ⟨hT0, ?_⟩, fun z => ⟨hT0, ?_⟩, fun z => ⟨hT0, ?_⟩, fun z => ⟨hT0, ?_⟩, fun z => ⟨hT0, ?_⟩, fun z => ⟨hT0, ?_⟩, fun z => ?_⟩
  · rw [c4]; rw [z] at hM0; exact hM0
  · rw [c3]; rw [z] at hM0; exact hM0
  · rw [z] at hM0
    have hM0 : post (nI (A.1 31 k)) M := hM0
    rw [c1, nI_1' w1]
    refine ⟨fun y => ?_, fun y => ?_⟩
    · rw [y] at hM0; exact hM0
    · rw [show A.1 31 k = 1 by omega] at hM0; exact hM0
  · rw [c2]; rw [z] at hM0; exact hM0
  · rw [i_of (n := 4) z]; exact se_lead hD hA hk hb (by omega) (by rw [z] at hM0; exact hM0)
  · rw [i_of (n := 5) z]; exact se_lead hD hA hk hb (by omega) (by rw [z] at hM0; exact hM0)
  · rw [i_of (n := 6) z]; exact se_lead hD hA hk hb (by omega) (by rw [z] at hM0; exact hM0)
  · rw [i_of (n := 7) z]; exact se_lead hD hA hk hb (by omega) (by rw [z] at hM0; exact hM0)
  · rw [i_of (n := 8) z]; exact se_rest hS hk hb (by omega) (by rw [z] at h; exact h)
  · rw [i_of (n := 9) z]; exact se_rest hS hk hb (by omega) (by rw [z] at h; exact h)
  · rw [i_of (n := 10) z]; exact se_rest hS hk hb (by omega) (by rw [z] at h; exact h)
  · unfold tw_ at hM0
    dsimp only at hM0
    rw [if_neg (by omega), if_neg (by omega), if_neg (by omega), if_neg (by omega), if_neg (by omega), if_neg (by omega), if_neg (by omega), if_neg (by omega), if_neg (by omega), if_neg (by omega), if_neg (by omega)] at hM0
    exact hM0
theorem mn_told {m : Nat} {M : Mm} {A : Ab} {x v : Int32} {post : Int32 → Mm → Prop} (hM : MS m M A) (hA : WA A) (hz : m + 33 ≤ ddZ M) (h : ∀ M1, MS m M1 A → Un (fun b _ => m ≤ b ∧ b < m + 33) M M1 → post (an_told A x v) M1) : PX11_told m x v M post := by
  have no : ok_told A x = false → post (-1) M := fun c => by
    unfold an_told at h
    rw [c] at h
    exact h M hM Un.rf
  refine ⟨hM.1.1, sp_isCall (bz (fun c => no (by unfold ok_told; rw [c]; rfl)) (fun c => ?_))⟩
  obtain ⟨k, ek, hk, ex⟩ := wi_nI (n := 3) c
  have hk : k < 4 := by omega
  have hin : vp_in (nI k) 4 := nI_in2 hk (by decide)
  obtain ⟨a1, a2, a3⟩ := hM.1.f30
  obtain ⟨g1, g2, g3, g4, g5, g6⟩ := hM.2.2.2.1 k hk
  obtain ⟨w0, w1, -⟩ := hA.2.2.1 k hk
  rw [ex, nI_cl (by omega)]
  refine ⟨hM.1.1, m + 27, a1, a2, by rw [a3]; exact hin, ?_⟩
  rw [g1, nI_1' w0]
  refine ⟨fun z => ?_, fun z => no (by unfold ok_told; rw [← ek, decide_eq_false (by omega), Bool.and_false])⟩
  have hb : A.1 30 k = 1 := by omega
  have ok : ok_told A x = true := by unfold ok_told; rw [c, ← ek, decide_eq_true hb]; rfl
  unfold an_told at h
  rw [if_pos ok, ← ek] at h
  obtain ⟨f1, f2, f3, f4, f5⟩ := wf_call hA hk hb
  refine sp_takeCall hM hz hk (by omega) (fun M1 u hH => ?_)
  have sM := MS_H hM hz u
  have fin := h M1 sM (u.wk (fun b k _ z => by unfold MH at z; omega))
  obtain ⟨b1, b2, b3⟩ := sM.1.f25
  obtain ⟨d1, d2, d3⟩ := sM.1.f28
  obtain ⟨e1, e2, e3⟩ := sM.1.f29
  obtain ⟨k1, k2, k3⟩ := sM.1.f2
  obtain ⟨l1, l2, l3⟩ := sM.1.f3
  obtain ⟨g1, g2, g3, g4, g5, g6⟩ := sM.2.2.2.1 k hk
  have sE := sM.2.2.2.2.1
  have sL := sM.2.2.2.2.2.1
  have h120 := sE.1
  have h300 := sL.1
  refine ⟨sM.1.1, m + 22, b1, b2, by rw [b3]; exact hin, fun w ew => ?_⟩
  rw [g3] at ew
  subst ew
  have kd : ∀ {n : Nat}, v.toInt = n → (tw_ A k v.toInt) = tw_ A k n := fun q => by rw [q]
  have rst : ∀ {n : Nat}, v.toInt = n → (n = 9 ∨ n = 10) → BX11_told_223 post m (nI k) v (nI (A.1 32 k)) M1 := fun {n} q hn => by
    refine ⟨sM.1.1, m + 26, e1, e2, by rw [e3]; exact hin, ?_⟩
    rw [nI_cl (by omega), g2, nI_1' f4, i_of q, show (9 : Int32) = nI 9 from rfl, nI_eq (by omega) (by omega)]
    rw [kd q] at fin
    rcases hn with e | e
    · subst e
      have fin : post (if A.1 31 k = 0 then pM (lmq_ A (A.1 34 k) (A.1 33 k) (nI (A.1 32 k)) (A.2.2 0)) else -1) M1 := fin
      refine ⟨fun y => ⟨fun y1 => absurd rfl y1, fun _ => ?_⟩, fun y => ?_⟩
      · rw [if_pos y] at fin
        exact sp_toCome (b := true) sM.1 sE hH (by omega) fin
      · rw [if_neg y] at fin; exact fin
    · subst e
      have fin : post (if A.1 31 k = 0 then pM (mmq_ A (A.1 34 k) (A.1 33 k) (nI (A.1 32 k)) (A.2.2 0)) else -1) M1 := fin
      refine ⟨fun y => ⟨fun _ => ?_, fun y1 => absurd y1 (by decide)⟩, fun y => ?_⟩
      · rw [if_pos y] at fin
        exact sp_toCome (b := false) sM.1 sE hH (by omega) fin
      · rw [if_neg y] at fin; exact fin
  refine ⟨fun z => ?_, fun z => ⟨m + 25, d1, d2, by rw [d3]; exact hin, ?_⟩, fun z => ⟨m + 26, e1, e2, by rw [e3]; exact hin, ?_⟩, fun z => ?_, fun z => ?_, fun z => ?_, fun z => ?_, fun z => ?_, fun z => ⟨m + 26, e1, e2, by rw [e3]; exact hin, ?_⟩, fun z => rst (n := 9) z (Or.inl rfl), fun z => rst (n := 10) z (Or.inr rfl), fun z => ?_⟩
  · rw [hH.1]; rw [z] at fin; exact fin
  · rw [z] at fin
    rw [g4]; exact fin
  · rw [z] at fin
    have fin : post (nI (A.1 31 k)) M1 := fin
    rw [g2, nI_1' f4]
    refine ⟨fun y => ?_, fun y => ?_⟩
    · rw [y] at fin; exact fin
    · rw [show A.1 31 k = 1 by omega] at fin; exact fin
  · rw [z] at fin; exact fin
  · rw [z] at fin; exact sp_leadsTo sM.1 sE hH (by omega) fin
  · rw [z] at fin; exact sp_leadsTo sM.1 sE hH (by omega) ⟨sM.1.1, sp_lineOf sM.1 sE sL hA hH (by omega) (fun e ho => ld_ok ho) fin⟩
  · rw [z] at fin
    refine sp_leadsTo sM.1 sE hH (by omega) ⟨sM.1.1, sp_lineOf sM.1 sE sL hA hH (by omega) (fun e ho => ld_ok ho) ?_⟩
    have fin : post (if lof_ A (ld_ A (A.1 34 k) (A.1 33 k) (nI (A.1 32 k)) (A.2.2 0)) (A.1 34 k) (A.1 33 k) (nI (A.1 32 k)) = -1 then -1 else cr_ A (lof_ A (ld_ A (A.1 34 k) (A.1 33 k) (nI (A.1 32 k)) (A.2.2 0)) (A.1 34 k) (A.1 33 k) (nI (A.1 32 k))).toInt.toNat (nI (A.1 32 k)) (A.2.2 2)) M1 := fin
    rcases lof_cases (A := A) (o := ld_ A (A.1 34 k) (A.1 33 k) (nI (A.1 32 k)) (A.2.2 0)) (w := A.1 34 k) (c := A.1 33 k) (d := nI (A.1 32 k)) h300 with z2 | ⟨l, hl, z2⟩
    · rw [z2] at fin ⊢
      exact ⟨fun y => absurd rfl y, fun _ => fin⟩
    · rw [z2, if_neg (nI_m1 (by omega)), toNat_nI (by omega)] at fin
      rw [z2]
      exact ⟨fun _ => ⟨sM.1.1, sp_carrier sM.1 sL hA hl fin⟩, fun y => absurd y (nI_m1 (by omega))⟩
  · rw [z] at fin
    refine sp_leadsTo sM.1 sE hH (by omega) ?_
    have fin : post (match ld_ A (A.1 34 k) (A.1 33 k) (nI (A.1 32 k)) (A.2.2 0) with | none => -1 | some e => if A.1 0 e = 1 then A.2.1 0 e else -1) M1 := fin
    cases ho : ld_ A (A.1 34 k) (A.1 33 k) (nI (A.1 32 k)) (A.2.2 0) with
    | none =>
      rw [ho] at fin
      exact ⟨fun _ => fin, fun y => absurd rfl y⟩
    | some e =>
      rw [ho] at fin
      have fin : post (if A.1 0 e = 1 then A.2.1 0 e else -1) M1 := fin
      obtain ⟨he, -⟩ := ld_ok ho
      obtain ⟨⟨r0, r1, r3, r4, r5, r6, hG⟩, ⟨s0, -⟩⟩ := sE.2.2 e he
      have hk3 := hG.1
      have hie : vp_in (nI e) 130 := nI_in2 (by omega) (by decide)
      rw [pM_s]
      refine ⟨fun y => absurd y (nI_m1 (by omega)), fun _ => ⟨sM.1.1, m + 1, k1, k2, by rw [k3]; exact hie, ?_⟩⟩
      rw [nI_cl (by omega), r0, show (1 : Int32) = nI 1 from rfl, nI_eq (by omega) (by omega)]
      refine ⟨fun y => ?_, fun y => ⟨m + 2, l1, l2, by rw [l3]; exact hie, ?_⟩⟩
      · rw [if_neg y] at fin; exact fin
      · rw [if_pos y] at fin; rw [s0]; exact fin
  · rw [z] at fin
    have fin : post (if A.1 31 k = 0 then nI (nb_ A (A.1 34 k) (A.1 33 k) (nI (A.1 32 k)) (A.2.2 0)) else 0) M1 := fin
    rw [g2, nI_1' f4]
    refine ⟨fun y => ?_, fun y => ?_⟩
    · rw [if_pos y] at fin
      exact sp_behind sM.1 sE hH (by omega) fin
    · rw [if_neg y] at fin; exact fin
  · unfold tw_ at fin
    dsimp only at fin
    rw [if_neg (by omega), if_neg (by omega), if_neg (by omega), if_neg (by omega), if_neg (by omega), if_neg (by omega), if_neg (by omega), if_neg (by omega), if_neg (by omega), if_neg (by omega), if_neg (by omega)] at fin
    exact fin
