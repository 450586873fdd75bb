/-! take -/
def isO (A : Ab) (x : Int32) : Bool := wi_ x.toInt 0 ((A.2.2 3 : Int) - 1)
theorem isO_t {A : Ab} {x : Int32} (h : isO A x = true) : x.toInt.toNat < A.2.2 3 ∧ x = nI x.toInt.toNat := by
  have := wi_t.mp h
  exact ⟨by omega, (nI_toNat (by omega)).symm⟩
theorem se_optionI {a : Nat} {M : Mm} {A : Ab} {i : Nat} {post : Option Nat → Mm → Prop} (hW : DW a M) (hD : DO a M A) (hi : i < A.2.2 3) (h : ∀ q r, ddR M (a + 29) i = some q → OO a M q r A i → post (some q) M) : PX9_optionAt (a + 11) (nI i) M post := by
  have h8 := hD.1
  have N29 : ddN M (a + 29) = 8 := DW_N hW (by decide)
  refine ⟨fun c => absurd c (nI_pos (by omega)), fun _ => ⟨DW_T hW (by decide), pk_le (A.2.2 3) i (fun c => by omega) (fun _ => ⟨a + 29, DW_R hW (by decide), DW_T hW (by decide), pk_le 8 i (fun c => by omega) (fun _ => ⟨by rw [N29]; exact nI_in2 (by omega) (by decide), ?_⟩) (by rw [N29]; rfl) rfl (by omega) (by omega)⟩) hD.2.1 rfl (by omega) (by omega)⟩⟩
  rw [nI_cl (by omega)]
  obtain ⟨q, r, q1, q2⟩ := hD.2.2.1 i hi
  rw [q1]
  exact h q r q1 q2
theorem se_optionAt {a : Nat} {M : Mm} {A : Ab} {x : Int32} {post : Option Nat → Mm → Prop} (hW : DW a M) (hD : DO a M A) (h1 : isO A x = false → post none M) (h2 : ∀ o q r, isO A x = true → o = x.toInt.toNat → o < A.2.2 3 → x = nI o → ddR M (a + 29) o = some q → OO a M q r A o → post (some q) M) : PX9_optionAt (a + 11) x M post := by
  have h8 := hD.1
  cases hb : isO A x with
  | true =>
    obtain ⟨c1, c2⟩ := isO_t hb
    rw [c2]
    exact se_optionI hW hD c1 (fun q r q1 q2 => h2 _ q r hb rfl c1 c2 q1 q2)
  | false =>
    have hb2 := wi_f.mp hb
    refine ⟨fun _ => h1 hb, fun c => ⟨DW_T hW (by decide), fun _ => h1 hb, fun c1 => ?_⟩⟩
    exfalso
    rw [hD.2.1, xi_le, nI_T (by omega)] at c1
    rw [xi_lt] at c
    have c : ¬ x.toInt < 0 := c
    omega
def shA (B : Ab) (o i : Nat) : Ab := (fun c j => if c < 7 ∧ 121 + o ≤ j ∧ j < 121 + i then B.1 c (j + 1) else if c = 50 ∧ o ≤ j ∧ j < i then B.1 50 (j + 1) else B.1 c j, fun c j => if c < 7 ∧ 121 + o ≤ j ∧ j < 121 + i then (if c = 0 then B.2.1 0 (j + 1) else if c = 1 then -1 else if c = 5 then 0 else -1) else B.2.1 c j, B.2.2)
def wdA (B : Ab) (o : Nat) : Ab := uC_ (shA B o (B.2.2 3 - 1)) 3 (B.2.2 3 - 1)
section SHA
variable {B : Ab} {o i : Nat}
theorem sh_1 {c j : Nat} : (shA B o i).1 c j = if c < 7 ∧ 121 + o ≤ j ∧ j < 121 + i then B.1 c (j + 1) else if c = 50 ∧ o ≤ j ∧ j < i then B.1 50 (j + 1) else B.1 c j := rfl
theorem sh_1s {c j : Nat} (hc : c < 7) (h1 : o ≤ j) (h2 : j < i) : (shA B o i).1 c (121 + j) = B.1 c (121 + (j + 1)) := by rw [sh_1, if_pos (by omega)]; rfl
theorem sh_1n {c j : Nat} (hc : c < 7) (h : j < 121 + o ∨ 121 + i ≤ j) : (shA B o i).1 c j = B.1 c j := by rw [sh_1, if_neg (by omega), if_neg (by omega)]
theorem sh_1c {c : Nat} (h : 7 ≤ c) (h2 : c ≠ 50) : (shA B o i).1 c = B.1 c := by funext j; rw [sh_1, if_neg (by omega), if_neg (by omega)]
theorem sh_50 {j : Nat} : (shA B o i).1 50 j = if o ≤ j ∧ j < i then B.1 50 (j + 1) else B.1 50 j := by
  rw [sh_1, if_neg (by omega)]
  by_cases h : o ≤ j ∧ j < i
  · rw [if_pos ⟨rfl, h⟩, if_pos h]
  · rw [if_neg (fun z => h z.2), if_neg h]
theorem sh_2 {c j : Nat} : (shA B o i).2.1 c j = if c < 7 ∧ 121 + o ≤ j ∧ j < 121 + i then (if c = 0 then B.2.1 0 (j + 1) else if c = 1 then -1 else if c = 5 then 0 else -1) else B.2.1 c j := rfl
theorem sh_2n {c j : Nat} (h : j < 121 + o ∨ 121 + i ≤ j) : (shA B o i).2.1 c j = B.2.1 c j := by rw [sh_2, if_neg (by omega)]
theorem sh_2c {c : Nat} (h : 7 ≤ c) : (shA B o i).2.1 c = B.2.1 c := by funext j; rw [sh_2, if_neg (by omega)]
end SHA
def vT_ (A : Ab) (o : Nat) : Nat → Nat := fun c => A.1 c (121 + o)
def tB_ (A : Ab) (o : Nat) : Ab := add_ A (vT_ A o) (A.2.1 0 (121 + o)) (-1) (-1)
def ok_take (A : Ab) (x : Int32) : Bool := isO A x && decide (A.2.2 4 ≤ A.1 6 (121 + x.toInt.toNat))
def an_take (A : Ab) (x : Int32) : Int32 := if ok_take A x then (if A.2.2 0 = 120 then -3 else nI (A.2.2 0)) else -2
def nx_take (A : Ab) (x : Int32) : Ab := if ok_take A x && !decide (A.2.2 0 = 120) then wdA (tB_ A x.toInt.toNat) x.toInt.toNat else A
theorem tk_f {A : Ab} {x : Int32} (c : ok_take A x = false) : an_take A x = -2 ∧ nx_take A x = A := by unfold an_take nx_take; rw [c]; exact ⟨rfl, rfl⟩
theorem tk_u {A : Ab} {x : Int32} (c : ok_take A x = true) (e : A.2.2 0 = 120) : an_take A x = -3 ∧ nx_take A x = A := by unfold an_take nx_take; rw [c, e]; exact ⟨rfl, rfl⟩
theorem tk_t {A : Ab} {x : Int32} (c : ok_take A x = true) (e : A.2.2 0 ≠ 120) : an_take A x = nI (A.2.2 0) ∧ nx_take A x = wdA (tB_ A x.toInt.toNat) x.toInt.toNat := by unfold an_take nx_take; rw [c, if_pos rfl, if_neg e, decide_eq_false e]; exact ⟨rfl, rfl⟩
section TKA
variable {A : Ab} {o : Nat}
theorem tB_3 : (tB_ A o).2.2 3 = A.2.2 3 := ad_3n (by omega)
theorem wd_3 : (wdA (tB_ A o) o).2.2 3 = A.2.2 3 - 1 := by
  show (tB_ A o).2.2 3 - 1 = _
  rw [tB_3]
theorem wd_3n {i : Nat} (h : i ≠ 3) : (wdA (tB_ A o) o).2.2 i = (tB_ A o).2.2 i := by show (if i = 3 then _ else _) = _; rw [if_neg h]; rfl
theorem wd_1 : (wdA (tB_ A o) o).1 = (shA (tB_ A o) o (A.2.2 3 - 1)).1 := by
  show (shA (tB_ A o) o ((tB_ A o).2.2 3 - 1)).1 = _
  rw [tB_3]
theorem wd_2 : (wdA (tB_ A o) o).2.1 = (shA (tB_ A o) o (A.2.2 3 - 1)).2.1 := by
  show (shA (tB_ A o) o ((tB_ A o).2.2 3 - 1)).2.1 = _
  rw [tB_3]
theorem tB_1n {c j : Nat} (hj : j ≠ A.2.2 0) : (tB_ A o).1 c j = A.1 c j := ad_1n hj
theorem tB_2n {c j : Nat} (hj : j ≠ A.2.2 0) : (tB_ A o).2.1 c j = A.2.1 c j := ad_2n hj
end TKA
theorem dn_take {a : Nat} {M : Mm} {A : Ab} {x : Int32} {post : Int32 → Mm → Prop} (hS : SS a M A) (h : ∀ M1, DS a M1 (nx_take A x) → MS (a + 32) M1 A → post (an_take A x) M1) : PX10_take a x M post := by
  obtain ⟨hD, hM, hA⟩ := id hS
  have hz := hD.1.2.2.2.2
  have hT0 : ddT M a = 11 := DW_T hD.1 (i := 0) (by decide)
  have hT1 : ddT M (a + 1) = 7 := DW_T hD.1 (by decide)
  have hDE := hD.2.2.2.2.1
  have hDO := hD.2.2.2.2.2.2
  have h120 := hDE.1
  have hk : ddI M a 4 = nI (A.2.2 4) := hD.2.1
  have w1 := hA.1
  have no : ok_take A x = false → post (-2) M := fun c => by
    rw [(tk_f c).1, (tk_f c).2] at h
    exact h M hD hM
  refine ⟨hT0, a + 11, DW_R hD.1 (i := 0) (by decide), DW_T hD.1 (by decide), se_optionAt hD.1 hDO (fun c => co_none (no (by unfold ok_take; rw [c]; rfl)) rfl) (fun o q r c c1 c2 c3 hq hoo => co_some q ?_ rfl)⟩
  obtain ⟨p1, p2, p3, p4, p5, p6, p7, p8, p9, p10, p11, p12, p13, p14, p15, p16, p17⟩ := id hoo
  have hG := p7.2.2.2.2.2.2.2.2.1
  have g6 := hG.2.2.2.2.2.2.2.1
  have h8 := hDO.1
  refine ⟨p2, r, p3, p7.1, hT0, ?_⟩
  rw [hk, p7.2.2.2.2.2.2.2.1, p3]
  refine pk_le (A.2.2 4) (A.1 6 (121 + o)) (fun y => ⟨a + 1, DW_R hD.1 (i := 0) (by decide), hT1, ?_⟩) (fun y => no (by unfold ok_take; rw [← c1, decide_eq_false (by omega), Bool.and_false])) rfl rfl (by omega) (by omega)
  have ok : ok_take A x = true := by unfold ok_take; rw [c, ← c1, decide_eq_true y]; rfl
  have hV : GV (vT_ A o) := GW_tr (fun c _ => rfl) hG
  have hX : DEx a M A 1000 := DEx_of hDE
  have hOt : EO M r (tB_ A o).1 (A.2.2 0) := EO_tr (fun c hc => ad_1s hc) p7
  refine se_append (G := (tB_ A o).1) hD.1 h120 hDE.2.1 (WE_of hX) p5 p6 (fun _ => hOt) p9 (fun e => ⟨fun _ => ?_, fun z => absurd rfl z⟩) (fun M1 hn hAP => ⟨fun z => ?_, fun _ => ?_⟩)
  · rw [(tk_u ok e).1, (tk_u ok e).2] at h
    exact h M hD hM
  · exfalso
    have := congrArg Int32.toInt z
    rw [nI_T (by omega)] at this
    have this : ((A.2.2 0 : Nat) : Int) = -3 := this
    omega
  · rw [(tk_t ok (by omega)).1, (tk_t ok (by omega)).2, ← c1] at h
    have hk0 : A.1 0 (121 + o) = 0 := (hM.2.2.2.2.2.2.2.2 o c2).2.2.1
    have hv3 : ¬ vT_ A o 0 = 3 := fun q => by
      have : A.1 0 (121 + o) = 3 := q
      omega
    have hE2 : DE a M1 (tB_ A o) := DE_of (DE_add hz hX (ptk_WA hA) hn p5 p6 hOt ⟨p8, p9, p10, p11, p12, p13, p14, by rw [if_neg hv3]; exact p15, p16, p17⟩ (fun q => absurd q hv3) hAP) (by unfold tB_; rw [ad_3]; omega)
    obtain ⟨w, wz, wr, ws, wi, wk⟩ := id hAP
    have ent : ∀ b, (∃ j, j < A.2.2 0 ∧ ddR M (a + 2) j = some b) → nw_ a M b ∧ ddT M b = 3 ∧ ddI M b 9 ≠ -1 := fun b ⟨j, hj, hb⟩ => by
      obtain ⟨p, y1, y2, y3, y4, y5⟩ := hDE.2.2 j hj
      rw [hb] at y1
      cases y1
      exact ⟨y2, y4.1, by rw [y5.2.1]; exact nI_m1 (by omega)⟩
    have lo : ∀ b k, b < a + 65 → ¬ (b = a + 2 ∧ k = A.2.2 0) → ¬ (b = a + 1 ∧ k = 1) → ¬ ((b = a + 2 ∧ k = A.2.2 0) ∨ (b = a + 1 ∧ k = 1) ∨ (b = r ∧ k = 9) ∨ ((k = 16 ∨ k = 17) ∧ ∃ e, e < A.2.2 0 ∧ ddR M (a + 2) e = some b)) := fun b k hb q1 q2 z => by
      rcases z with z | z | z | ⟨-, z⟩
      · exact q1 z
      · exact q2 z
      · have := p5.1; omega
      · have := (ent b z).1.1; omega
    have T1 : ∀ b, b < a + 65 → ddT M1 b = ddT M b := fun b hb => w.T (by omega)
    have R29 : ∀ j, ddR M1 (a + 29) j = ddR M (a + 29) j := fun j => w.R (by omega) (lo _ _ (by omega) (by omega) (by omega))
    have s3 : ddI M1 (a + 11) 3 = nI (A.2.2 3) := by rw [w.I (by omega) (lo _ _ (by omega) (by omega) (by omega))]; exact hDO.2.1
    have hT10 : ddT M1 (a + 11) = 10 := by rw [T1 _ (by omega)]; exact DW_T hD.1 (by decide)
    have hT29 : ddT M1 (a + 29) = 27 := by rw [T1 _ (by omega)]; exact DW_T hD.1 (by decide)
    have hN29 : ddN M1 (a + 29) = 8 := by rw [w.N (by omega)]; exact DW_N hD.1 (by decide)
    have hR112 : ddR M1 (a + 11) 2 = some (a + 29) := by rw [w.R (by omega) (lo _ _ (by omega) (by omega) (by omega))]; exact DW_R hD.1 (by decide)
    refine ⟨by rw [T1 _ (by omega)]; exact hT0, a + 11, by rw [w.R (by omega) (lo _ _ (by omega) (by omega) (by omega))]; exact DW_R hD.1 (i := 0) (by decide), hT10, ?_⟩
    rw [c3]
    refine ⟨fun z => absurd z (nI_pos (by omega)), fun _ => ⟨hT10, pk_le (A.2.2 3) o (fun z => by omega) (fun _ => ⟨a + 29, hR112, hT29, pk_le (A.2.2 3) 8 (fun _ v8 e8 => ?_) (fun z => by omega) s3 (by rw [hN29]; rfl) (by omega) (by omega)⟩) s3 rfl (by omega) (by omega)⟩⟩
    rw [e8, nI_1]
    refine pk_loop (fun fu i (s : Mm) => DX9_withdraw_29 (fun M26 => post (nI (A.2.2 0)) M26) fu (a + 11) (nI i) s) (fun i s => o < i ∧ Un (fun b _ => b = a + 29) M1 s ∧ ddZ s = ddZ M1 ∧ ∀ j, j < A.2.2 3 → ddR s (a + 29) j = if o ≤ j ∧ j + 1 < i then ddR M1 (a + 29) (j + 1) else ddR M1 (a + 29) j) (A.2.2 3) (o + 1) M1 (by omega) ⟨by omega, Un.rf, rfl, fun j hj => by rw [if_neg (by omega)]⟩ (fun fu s hs => ?_) (fun fu i s hi hs hk2 => ?_)
    · obtain ⟨i1, i2, i3, i4⟩ := hs
      show BX9_withdraw_29 _ _ (a + 11) (nI (A.2.2 3)) s
      have s3' : ddI s (a + 11) 3 = nI (A.2.2 3) := by rw [i2.I (by omega) (by omega)]; exact s3
      unfold BX9_withdraw_29
      rw [s3']
      refine ⟨by rw [i2.T (by omega)]; exact hT10, pk_le (A.2.2 3) (A.2.2 3) (fun _ M11 E11 => ?_) (fun z => by omega) rfl rfl (by omega) (by omega)⟩
      rw [show nI (A.2.2 3) - 1 = nI (A.2.2 3 - 1) from pk_sub (b := 1) (by omega)] at E11
      have s11 : ddI M11 (a + 11) 3 = nI (A.2.2 3 - 1) := by rw [E11, gI_I, if_pos ⟨rfl, rfl⟩]
      rw [s11, nI_cl (by omega)]
      refine ⟨a + 29, by rw [E11]; show ddR s _ _ = _; rw [i2.R (by omega) (by omega)]; exact hR112, by rw [E11]; show ddT s _ = _; rw [i2.T (by omega)]; exact hT29, by rw [E11]; show vp_in _ (ddN s _); rw [i2.N (by omega), hN29]; exact nI_in2 (by omega) (by decide), fun M16 E16 => ?_⟩
      have w16 : Un (fun b k => b = a + 29 ∨ (b = a + 11 ∧ k = 3)) M1 M16 := by
        rw [E16, E11]
        exact ((i2.tr Un.sI).tr Un.sR).wk (fun b k _ z => by omega)
      have z16 : ddZ M16 = ddZ M := by rw [E16, E11]; show ddZ s = _; rw [i3, wz]
      have wt : Un (fun b k => (b = a + 2 ∧ A.2.2 0 ≤ k) ∨ (b = a + 1 ∧ k = 1) ∨ (b = a + 11 ∧ k = 3) ∨ b = a + 29 ∨ (b = r ∧ k = 9) ∨ ((k = 16 ∨ k = 17) ∧ ∃ e, e < A.2.2 0 ∧ ddR M (a + 2) e = some b)) M M16 := (w.tr w16).wk (fun b k _ z => by
        rcases z with (z | z | z | z) | z | z
        · exact Or.inl ⟨z.1, by omega⟩
        · exact Or.inr (Or.inl z)
        · exact Or.inr (Or.inr (Or.inr (Or.inr (Or.inl z))))
        · exact Or.inr (Or.inr (Or.inr (Or.inr (Or.inr z))))
        · exact Or.inr (Or.inr (Or.inr (Or.inl z)))
        · exact Or.inr (Or.inr (Or.inl z)))
      have R16 : ∀ j, j < A.2.2 3 - 1 → ddR M16 (a + 29) j = ddR M (a + 29) (if o ≤ j then j + 1 else j) := fun j hj => by
        rw [E16, gR_R, if_neg (by omega), E11]
        show ddR s _ _ = _
        rw [i4 j (by omega)]
        by_cases hoj : o ≤ j
        · rw [if_pos ⟨hoj, by omega⟩, if_pos hoj, R29]
        · rw [if_neg (by omega), if_neg hoj, R29]
      have sg : ∀ j, j < A.2.2 3 - 1 → (if o ≤ j then j + 1 else j) < A.2.2 3 ∧ (if o ≤ j then j + 1 else j) ≠ o := fun j hj => by split <;> omega
      have oo16 : ∀ j, j < A.2.2 3 - 1 → ∀ q' r', ddR M (a + 29) (if o ≤ j then j + 1 else j) = some q' → OO a M q' r' A (if o ≤ j then j + 1 else j) → OO a M16 q' r' (wdA (tB_ A o) o) j := fun j hj q' r' hq' ho' => by
        obtain ⟨sg1, sg2⟩ := sg j hj
        have hrr : r' ≠ r := fun z => by
          have := hDO.2.2.2 (if o ≤ j then j + 1 else j) o q' q r sg1 c2 hq' hq (by rw [← z]; exact ho'.2.2.1) p3
          exact sg2 this
        have nP : ∀ b k, nw_ a M b → b ≠ r → (ddT M b = 3 → ddI M b 9 = -1) → ¬ ((b = a + 2 ∧ A.2.2 0 ≤ k) ∨ (b = a + 1 ∧ k = 1) ∨ (b = a + 11 ∧ k = 3) ∨ b = a + 29 ∨ (b = r ∧ k = 9) ∨ ((k = 16 ∨ k = 17) ∧ ∃ e, e < A.2.2 0 ∧ ddR M (a + 2) e = some b)) := fun b k hb hbr h9 z => by
          have b65 := hb.1
          rcases z with z | z | z | z | z | ⟨-, z⟩
          · omega
          · omega
          · omega
          · omega
          · exact hbr z.1
          · obtain ⟨-, y2, y3⟩ := ent b z
            exact y3 (h9 y2)
        obtain ⟨x1, x2, x3, x4, x5, x6, x7, x8, x9, x10⟩ := OO_keep ho' wt (fun k => nP q' k ho'.1 (fun z => by have := ho'.2.1; rw [z, p7.1] at this; cases this) (fun z => by rw [ho'.2.1] at z; cases z)) (fun k => nP r' k ho'.2.2.2.2.1 hrr (fun _ => ho'.2.2.2.2.2.2.2.2.1)) (fun f k hf ht => nP f k hf (fun z => by rw [z, p7.1] at ht; cases ht) (fun z => by rw [ht] at z; cases z))
        have rowE : ∀ c, c < 7 → (wdA (tB_ A o) o).1 c (121 + j) = A.1 c (121 + (if o ≤ j then j + 1 else j)) := fun c hc => by
          rw [wd_1]
          by_cases hoj : o ≤ j
          · rw [sh_1s hc hoj hj, tB_1n (by omega), if_pos hoj]
          · rw [sh_1n hc (by omega), tB_1n (by omega), if_neg hoj]
        refine ⟨x1, x2, x3, ?_, x5, x6, EO_tr rowE x7, ?_, x9, x10⟩
        · rw [wd_1, sh_50, x4]
          have e50 : ∀ i, (tB_ A o).1 50 i = A.1 50 i := fun i => by unfold tB_; rw [ad_1c (by omega)]
          by_cases hoj : o ≤ j
          · rw [if_pos hoj, if_pos ⟨hoj, hj⟩, e50]
          · rw [if_neg hoj, if_neg (by omega), e50]
        · rw [wd_2, x8]
          by_cases hoj : o ≤ j
          · rw [if_pos hoj, sh_2, if_pos (by omega), if_pos rfl, tB_2n (by omega)]
            rfl
          · rw [if_neg hoj, sh_2n (by omega), tB_2n (by omega)]
      have hE3 : DE a M16 (wdA (tB_ A o) o) := by
        refine DE_cgj (DE_keep hE2 (by omega) w16 (by omega) (fun e z => by omega) (fun q k hq _ z => by have := hq.1; omega)) (wd_3n (by omega)) (fun c hc j hj => ?_) (fun c hc j hj => ?_)
        · have : j < 121 := by have : (tB_ A o).2.2 0 = A.2.2 0 + 1 := ad_3; omega
          rw [wd_1, sh_1n hc (by omega)]
        · have : j < 121 := by have : (tB_ A o).2.2 0 = A.2.2 0 + 1 := ad_3; omega
          rw [wd_2, sh_2n (by omega)]
      refine h M16 (DS_asm hD wt (fun b k z => ?_) hE3 ⟨by rw [wd_3]; omega, ?_, fun j hj => ?_, fun j j' q' q'' r' hj hj' y1 y2 y3 y4 => ?_⟩ (fun l hl => (hA.2.2.2.2.1 l hl).1) (fun c h1 h2 => by rw [wd_1, sh_1c h1 h2]; exact ad_1c h1) (fun c hc j hj => by rw [wd_1, sh_1n hc (by omega), tB_1n (by omega)]) (fun c hc => by rw [wd_2, sh_2c hc]; exact ad_2c hc) (fun i h1 h2 => by rw [wd_3n h2]; exact ad_3n h1)) (MS_keep hM hz wt (fun b k z => ?_))
      · rcases z with z | z | z | z | z | ⟨-, z⟩
        · exact Or.inl z
        · exact Or.inr (Or.inl z)
        · exact Or.inr (Or.inr (Or.inl z))
        · exact Or.inr (Or.inr (Or.inr (Or.inl z)))
        · exact Or.inr (Or.inr (Or.inr (Or.inr ⟨by rw [z.1]; exact p5, by rw [z.1]; exact p7.1⟩)))
        · exact Or.inr (Or.inr (Or.inr (Or.inr ⟨(ent b z).1, (ent b z).2.1⟩)))
      · rw [wd_3, E16]; exact s11
      · rw [wd_3] at hj
        obtain ⟨q', r', y1, y2⟩ := hDO.2.2.1 _ (sg j hj).1
        exact ⟨q', r', by rw [R16 j hj]; exact y1, oo16 j hj q' r' y1 y2⟩
      · rw [wd_3] at hj hj'
        rw [R16 j hj] at y1
        rw [R16 j' hj'] at y2
        obtain ⟨q1, r1, x1, x2⟩ := hDO.2.2.1 _ (sg j hj).1
        obtain ⟨q2, r2, x3, x4⟩ := hDO.2.2.1 _ (sg j' hj').1
        rw [y1] at x1
        cases x1
        rw [y2] at x3
        cases x3
        have z1 := (oo16 j hj _ r1 y1 x2).2.2.1
        have z2 := (oo16 j' hj' _ r2 y2 x4).2.2.1
        rw [y3] at z1
        cases z1
        rw [y4] at z2
        cases z2
        have e := hDO.2.2.2 _ _ _ _ _ (sg j hj).1 (sg j' hj').1 y1 y2 x2.2.2.1 x4.2.2.1
        by_cases u1 : o ≤ j
        · rw [if_pos u1] at e
          by_cases u2 : o ≤ j'
          · rw [if_pos u2] at e; omega
          · rw [if_neg u2] at e; omega
        · rw [if_neg u1] at e
          by_cases u2 : o ≤ j'
          · rw [if_pos u2] at e; omega
          · rw [if_neg u2] at e; omega
      · rcases z with z | z | z | z | z | ⟨-, z⟩
        · omega
        · omega
        · omega
        · omega
        · have := p5.1; omega
        · have := (ent b z).1.1; omega
    · obtain ⟨i1, i2, i3, i4⟩ := hs
      show BX9_withdraw_29 _ _ (a + 11) (nI i) s
      have s3' : ddI s (a + 11) 3 = nI (A.2.2 3) := by rw [i2.I (by omega) (by omega)]; exact s3
      obtain ⟨q', r', y1, y2⟩ := hDO.2.2.1 i hi
      have eqi : ddR s (a + 29) i = some q' := by rw [i4 i hi, if_neg (by omega), R29]; exact y1
      have q65 := y2.1.1
      have tq' : ddT s q' = 6 := by rw [i2.T (by rw [wz]; exact y2.1.2), w.T y2.1.2]; exact y2.2.1
      unfold BX9_withdraw_29
      rw [s3', nI_1, show nI i - 1 = nI (i - 1) from pk_sub (b := 1) (by omega), nI_cl (n := i) (by omega), nI_cl (n := i - 1) (by omega)]
      refine ⟨by rw [i2.T (by omega)]; exact hT10, pk_le (A.2.2 3) i (fun z => by omega) (fun _ => ⟨a + 29, by rw [i2.R (by omega) (by omega)]; exact hR112, by rw [i2.T (by omega)]; exact hT29, by rw [i2.N (by omega), hN29]; exact nI_in2 (by omega) (by decide), by rw [i2.N (by omega), hN29]; exact nI_in2 (by omega) (by decide), q', eqi, tq', fun M25 E25 => hk2 M25 ⟨by omega, ?_, by rw [E25]; exact i3, fun j hj => ?_⟩⟩) rfl rfl (by omega) (by omega)⟩
      · rw [E25]; exact i2.tt (Un.sR.wk (fun b k _ z => z.1))
      · rw [E25, gR_R]
        by_cases hji : j = i - 1
        · rw [if_pos ⟨rfl, hji⟩, if_pos (by omega), eqi, R29, show j + 1 = i by omega]; exact y1.symm
        · rw [if_neg (fun z => hji z.2), i4 j hj]
          by_cases hc : o ≤ j ∧ j + 1 < i
          · rw [if_pos hc, if_pos (by omega)]
          · rw [if_neg hc, if_neg (by omega)]
