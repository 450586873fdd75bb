/-! how many figures, as both tell it -/
def npI (w : Int) : Int32 := ff_ (fun k => decide ((10 : Int) ^ k ≤ w) && decide (w < 2 * 10 ^ k)) 19
theorem npI_t {w : Int} {p : Nat} (h : isF w p) (hp : p < 19) : npI w = nI p := by
  refine ff_some (by omega) hp ?_ (fun j hj => ?_)
  · rw [Bool.and_eq_true, decide_eq_true_eq, decide_eq_true_eq]; exact h
  · cases hq : (decide ((10 : Int) ^ j ≤ w) && decide (w < 2 * 10 ^ j)) with
    | false => rfl
    | true =>
      rw [Bool.and_eq_true, decide_eq_true_eq, decide_eq_true_eq] at hq
      have := isF_one h hq
      omega
theorem npI_f {w : Int} (h : ∀ p, p < 19 → ¬ isF w p) : npI w = -1 := by
  refine ff_none (fun j hj => ?_)
  cases hq : (decide ((10 : Int) ^ j ≤ w) && decide (w < 2 * 10 ^ j)) with
  | false => rfl
  | true =>
    rw [Bool.and_eq_true, decide_eq_true_eq, decide_eq_true_eq] at hq
    exact absurd hq (h j hj)
theorem npI_cases (w : Int) : (npI w = -1 ∧ ∀ p, p < 19 → ¬ isF w p) ∨ ∃ p, p < 19 ∧ isF w p ∧ npI w = nI p := by
  by_cases h : ∃ p, p < 19 ∧ isF w p
  · obtain ⟨p, h1, h2⟩ := h
    exact Or.inr ⟨p, h1, h2, npI_t h2 h1⟩
  · exact Or.inl ⟨npI_f (fun p hp hq => h ⟨p, hp, hq⟩), fun p hp hq => h ⟨p, hp, hq⟩⟩
theorem p10_19 : (10 : Int) ^ 19 = 10000000000000000000 := by decide
theorem p10_10 : (10 : Int) ^ 10 = 10000000000 := by decide
theorem p10_17 : (10 : Int) ^ 17 = 100000000000000000 := by decide
theorem p10_le {p q : Nat} (h : p ≤ q) : (10 : Int) ^ p ≤ 10 ^ q := by
  rcases Nat.lt_or_ge p q with z | z
  · have := p10_mono z
    have : (1 : Int) ≤ 10 ^ p := Int.pow_pos (by decide)
    omega
  · rw [show p = q by omega]; exact Int.le_refl _
theorem isF_lt19 {v : Int64} {p : Nat} (h : isF v.toInt p) : p < 19 := by
  rcases Nat.lt_or_ge p 19 with q | q
  · exact q
  · have := p10_le q
    rw [p10_19] at this
    have := h.1
    have := (xl_rng v).2
    omega
theorem sp_figI {v : Int64} {M : Mm} {post : Int32 → Mm → Prop} (h : post (npI v.toInt) M) : PX11_figuresOf v M post :=
  sp_figuresOf (fun p hp hF => by rw [npI_t hF (isF_lt19 hF)] at h; exact h) (fun hno => by rw [npI_f (fun p _ => hno p)] at h; exact h)
theorem sp_lenI {p : Int32} {M : Mm} {post : Int32 → Mm → Prop} (h : post (npI p.toInt) M) : PX11_lengthOf p M post := by
  refine sp_figI ?_
  rw [wd_T]
  exact h
theorem isF_lt10 {v : Int32} {p : Nat} (h : isF v.toInt p) : p < 10 := by
  rcases Nat.lt_or_ge p 10 with q | q
  · exact q
  · have := p10_le q
    rw [p10_10] at this
    have := h.1
    have := (xi_rng v).2
    omega
theorem se_plI {p : Int32} {M : Mm} {post : Int32 → Mm → Prop} (h : post (npI p.toInt) M) : PX10_placesOf (Int32.toInt64 p) M post := by
  refine sp_placesOf (fun q hq hF => ?_) (fun hno => ?_)
  · rw [wd_T] at hF
    rw [npI_t hF (by omega)] at h
    exact h
  · rw [wd_T] at hno
    rw [npI_f (fun q hq hF => hno q (by have := isF_lt10 hF; omega) hF)] at h
    exact h
theorem npI_rng (w : Int) : -1 ≤ (npI w).toInt ∧ (npI w).toInt < 19 := by
  rcases npI_cases w with ⟨h, -⟩ | ⟨p, h1, -, h2⟩
  · rw [h]; decide
  · rw [h2, nI_T (by omega)]; omega
/-- told figures, when their number lies within bounds -/
theorem npI_in {w : Int} {lo hi : Int} (h : wi_ (npI w).toInt lo hi = true) (hlo : 0 ≤ lo) : ∃ p : Nat, p < 19 ∧ isF w p ∧ npI w = nI p ∧ lo ≤ p ∧ (p : Int) ≤ hi := by
  have hh := wi_t.mp h
  rcases npI_cases w with ⟨h2, -⟩ | ⟨p, h1, h3, h2⟩
  · rw [h2] at hh
    have : (-1 : Int32).toInt = -1 := by decide
    omega
  · rw [h2, nI_T (by omega)] at hh
    exact ⟨p, h1, h3, h2, hh.1, hh.2⟩
def vB_ (k p np s lo hi d : Nat) : Nat → Nat := fun c => if c = 0 then k else if c = 1 then p else if c = 2 then np else if c = 3 then s else if c = 4 then lo else if c = 5 then hi else d
section VB
variable {k p np s lo hi d : Nat}
theorem vB0 : vB_ k p np s lo hi d 0 = k := rfl
theorem vB1 : vB_ k p np s lo hi d 1 = p := rfl
theorem vB2 : vB_ k p np s lo hi d 2 = np := rfl
theorem vB3 : vB_ k p np s lo hi d 3 = s := rfl
theorem vB4 : vB_ k p np s lo hi d 4 = lo := rfl
theorem vB5 : vB_ k p np s lo hi d 5 = hi := rfl
theorem vB6 : vB_ k p np s lo hi d 6 = d := rfl
theorem GV_of (h0 : k ≤ 3) (h1 : isF (p : Int) np) (h2 : 1 ≤ np) (h3 : np ≤ 7) (h4 : s < 1024) (h5 : lo ≤ hi) (h6 : hi ≤ 15) (h7 : d ≤ 20000) (h8 : np ≤ lo) (h9 : (k = 0 ∨ k = 3) → 0 < s ∧ np < lo ∧ lo = hi ∧ hi ≤ 12) (h10 : k = 1 → s = 0 ∧ lo = np ∧ hi = np) (h11 : k = 2 → s = 0 ∧ np < lo) : GV (vB_ k p np s lo hi d) := by
  unfold GV GW
  simp only [vB0, vB1, vB2, vB3, vB4, vB5, vB6]
  exact ⟨h0, h1, h2, h3, h4, h5, h6, h7, h8, h9, h10, h11⟩
end VB
/-! a new entry that comes of none -/
theorem se_newapp {a : Nat} {M : Mm} {A : Ab} {v : Nat → Nat} {ar : Int32} {post : Int32 → Mm → Prop} (hD : DS a M A) (hM : MS (a + 32) M A) (hW : WA A) (hV : GV v) (hv : v 0 ≠ 3) (h0 : A.2.2 0 = 120 → ∀ M1, DS a M1 A → MS (a + 32) M1 A → post (-3) M1) (h1 : A.2.2 0 < 120 → ∀ M1, DS a M1 (add_ A v ar (-1) (-1)) → MS (a + 32) M1 A → post (nI (A.2.2 0)) M1) : PX2_init (ddZ M) (nI (v 0)) ar (nI (v 1)) (nI (v 3)) (nI (v 4)) (nI (v 5)) (nI (v 6)) (suN M 3 0) (fun M12 => ∃ aq13 : Nat, ddR M a 0 = some aq13 ∧ (ddT M12 aq13 = 7 ∧ (PX6_append aq13 (some (ddZ M)) M12 (fun r16 M17 => post r16 M17)))) := by
  have hz := hD.1.2.2.2.2
  have hDE := hD.2.2.2.2.1
  refine se_init (G := fun c _ => v c) (j := 0) hV (fun M1 hN => ?_)
  obtain ⟨u, uz, hO, f8, f1, f9, f10, f11, f12, fk⟩ := hN
  have hD1 : DS a M1 A := DS_scr hD u (fun b k q => q.elim)
  have hM1 : MS (a + 32) M1 A := MS_keep hM hz u (fun b k q => q.elim)
  have hr : nw_ a M1 (ddZ M) := ⟨by omega, by omega⟩
  have hf : fx_ a M1 (ddZ M) := fun f hf => by
    rw [f8] at hf
    cases hf
    exact ⟨by omega, by omega⟩
  have hDE1 := hD1.2.2.2.2.1
  have hX : DEx a M1 A 1000 := DEx_of hDE1
  refine ⟨a + 1, DW_R hD.1 (i := 0) (by decide), DW_T hD1.1 (by decide), se_append (G := (add_ A v ar (-1) (-1)).1) hD1.1 hDE1.1 hDE1.2.1 (WE_of hX) hr hf (fun _ => EO_tr (fun c hc => ad_1s hc) hO) f9 (fun e => h0 e M1 hD1 hM1) (fun M2 hn hA => ?_)⟩
  have hE2 : DE a M2 (add_ A v ar (-1) (-1)) := DE_of (DE_add (by omega) hX (ptk_WA hW) hn hr hf (EO_tr (fun c hc => ad_1s hc) hO) ⟨f1, f9, f10, f11, f12, (fk 13 (by omega)).1, (fk 14 (by omega)).1, by rw [if_neg hv]; exact (fk 15 (by omega)).1, (fk 16 (by omega)).2, (fk 17 (by omega)).2⟩ (fun q => absurd q hv) hA) (by rw [ad_3]; omega)
  obtain ⟨w, -⟩ := hA
  have w2 := u.tr w
  refine h1 hn M2 (DS_E (P := fun b k => b < ddZ M ∧ ((b = a + 2 ∧ k = A.2.2 0) ∨ (b = a + 1 ∧ k = 1) ∨ ((k = 16 ∨ k = 17) ∧ ∃ e, e < A.2.2 0 ∧ ddR M1 (a + 2) e = some b))) hD (w2.wk (fun b k hb q => ?_)) (fun b k q => ?_) hE2 (fun l hl => (hW.2.2.2.2.1 l hl).1) (fun c hc => ad_1c hc) (fun c hc j hj => ad_1n (by omega)) (fun c hc => ad_2c hc) (fun c hc j hj => ad_2n (by omega)) (fun i hi => ad_3n hi)) (MS_keep hM1 (by omega) w (fun b k q => ?_))
  · rcases q with q | q | q | q | q
    · exact q.elim
    · exact ⟨hb, Or.inl q⟩
    · exact ⟨hb, Or.inr (Or.inl q)⟩
    · omega
    · exact ⟨hb, Or.inr (Or.inr q)⟩
  · obtain ⟨hb, q | q | ⟨-, e, he, q⟩⟩ := q
    · exact Or.inl ⟨q.1, by omega⟩
    · exact Or.inr (Or.inl q)
    · obtain ⟨p, p1, p2, p3, p4, p5⟩ := hDE.2.2 e he
      have e1 : ddR M1 (a + 2) e = ddR M (a + 2) e := u.R (by omega) (fun z => z)
      rw [e1, p1] at q
      cases q
      exact Or.inr (Or.inr ⟨p2, p4.1, by rw [p5.2.1]; exact nI_m1 (by have := hDE.1; omega)⟩)
  · rcases q with q | q | q | ⟨-, e, he, q⟩
    · omega
    · omega
    · omega
    · obtain ⟨p, p1, p2, -⟩ := hDE1.2.2 e he
      rw [p1] at q
      cases q
      exact Or.inr p2.1
/-! WA keeps -/
theorem wa_add {A : Ab} {v : Nat → Nat} {ar en of' : Int32} (hW : WA A) (hn : A.2.2 0 < 120) (h1 : en = -1 ∨ ∃ d : Nat, en = nI d ∧ v 6 < d ∧ d ≤ 21000) (h2 : v 0 = 0 → ∃ z : Nat, ar = nI z ∧ z < 16) (h3 : v 0 = 3 → ∃ b : Nat, ar = nI b ∧ b < A.2.2 0 ∧ A.1 0 b = 0 ∧ A.1 3 b = v 3 ∧ A.1 6 b ≤ v 6 ∧ A.1 4 b - A.1 2 b = v 4 - v 2) : WA (add_ A v ar en of') := by
  obtain ⟨w1, w2, w3, w4, w5, w6, w7, w8⟩ := hW
  have l1 : ∀ l, l < A.2.2 1 → A.1 10 l ≠ A.2.2 0 := fun l hl => by have := (w5 l hl).1; omega
  refine ⟨w1, ?_, ?_, fun e he => ?_, fun l hl => ?_, ?_, ?_, fun o ho => ?_⟩
  · rw [ad_1c (by omega), ad_1c (by omega)]; exact w2
  · rw [ad_1c (by omega), ad_1c (by omega), ad_1c (by omega), ad_1c (by omega), ad_1c (by omega)]; exact w3
  · rw [ad_3] at he ⊢
    rcases Nat.lt_or_ge e (A.2.2 0) with q | q
    · obtain ⟨k1, k2, k3, k4⟩ := w4 e q
      have hne : e ≠ A.2.2 0 := by omega
      simp only [ad_1n hne, ad_2n hne]
      refine ⟨k1, k2, ?_, fun hk => ?_⟩
      · rcases k3 with k3 | ⟨g0, d, o, s, g1, g2, g3, g4, g5, g6, g7, g8, g9, g10, g11, g12⟩
        · exact Or.inl k3
        · refine Or.inr ⟨g0, d, o, s, g1, g2, g3, g4, by omega, g6, g7, ?_⟩
          have ho : o ≠ A.2.2 0 := by omega
          simp only [ad_1n ho]
          refine ⟨g8, g9, g10, g11, ?_⟩
          rcases g12 with g12 | ⟨r, r1, r2, r3, r4⟩
          · exact Or.inl g12
          · have hr : r ≠ A.2.2 0 := by omega
            refine Or.inr ⟨r, r1, r2, by omega, ?_⟩
            simp only [ad_1n hr]
            exact r4
      · obtain ⟨b, b1, b2, b3⟩ := k4 hk
        have hb : b ≠ A.2.2 0 := by omega
        refine ⟨b, b1, by omega, ?_⟩
        simp only [ad_1n hb]
        exact b3
    · have he2 : e = A.2.2 0 := by omega
      subst he2
      have q0 : (add_ A v ar en of').1 0 (A.2.2 0) = v 0 := ad_1s (by omega)
      have q6 : (add_ A v ar en of').1 6 (A.2.2 0) = v 6 := ad_1s (by omega)
      have q3 : (add_ A v ar en of').1 3 (A.2.2 0) = v 3 := ad_1s (by omega)
      have q4 : (add_ A v ar en of').1 4 (A.2.2 0) = v 4 := ad_1s (by omega)
      have q2 : (add_ A v ar en of').1 2 (A.2.2 0) = v 2 := ad_1s (by omega)
      simp only [q0, q6, q3, q4, q2]
      refine ⟨?_, fun q => ?_, Or.inl ⟨?_, ?_, ?_⟩, fun q => ?_⟩
      · rw [ad_2]; simpa using h1
      · rw [ad_2]; simpa using h2 q
      · rw [ad_2]; simp
      · rw [ad_2]; simp
      · rw [ad_2]; simp
      · obtain ⟨b, b1, b2, b3⟩ := h3 q
        have hb : b ≠ A.2.2 0 := by omega
        refine ⟨b, by rw [ad_2]; simpa using b1, by omega, ?_⟩
        simp only [ad_1n hb]
        exact b3
  · rw [ad_3n (by omega)] at hl
    have hne := l1 l hl
    rw [ad_1c (c := 10) (by omega), ad_1c (c := 11) (by omega), ad_1c (c := 12) (by omega), ad_2c (c := 10) (by omega)]
    simp only [ad_1n hne]
    rw [ad_3, ad_3n (by omega)]
    obtain ⟨k1, k2⟩ := w5 l hl
    exact ⟨by omega, k2⟩
  · rw [ad_1c (by omega), ad_1c (by omega), ad_1c (by omega), ad_3n (by omega), ad_3n (by omega), ad_3n (by omega)]; exact w6
  · rw [ad_1c (by omega), ad_3n (by omega)]; exact w7
  · rw [ad_3n (by omega)] at ho
    have : (121 : Nat) + o ≠ A.2.2 0 := by omega
    simp only [ad_2n this]
    rw [ad_1c (by omega)]
    exact w8 o ho
/-! block -/
def ok_block (A : Ab) (x p s l d : Int32) : Bool := wi_ x.toInt 0 15 && (wi_ (npI p.toInt).toInt 1 7 && (wi_ s.toInt 1 1023 && (wi_ l.toInt (npI p.toInt + 1).toInt 12 && isD A d)))
def v_block (p s l d : Int32) : Nat → Nat := vB_ 0 p.toInt.toNat (npI p.toInt).toInt.toNat s.toInt.toNat l.toInt.toNat l.toInt.toNat d.toInt.toNat
def an_block (A : Ab) (x p s l d : Int32) : Int32 := if ok_block A x p s l d then (if A.2.2 0 = 120 then -3 else nI (A.2.2 0)) else -2
def nx_block (A : Ab) (x p s l d : Int32) : Ab := if ok_block A x p s l d && !decide (A.2.2 0 = 120) then add_ A (v_block p s l d) x (-1) (-1) else A
theorem ok_block_t {A : Ab} {x p s l d : Int32} (h : ok_block A x p s l d = true) : GV (v_block p s l d) ∧ nI (v_block p s l d 1) = p ∧ nI (v_block p s l d 3) = s ∧ nI (v_block p s l d 4) = l ∧ nI (v_block p s l d 5) = l ∧ nI (v_block p s l d 6) = d ∧ (∃ z : Nat, x = nI z ∧ z < 16) ∧ v_block p s l d 2 < v_block p s l d 4 := by
  unfold ok_block isD at h
  simp only [Bool.and_eq_true] at h
  obtain ⟨h1, h2, h3, h4, h5⟩ := h
  obtain ⟨np, q1, q2, q3, q4, q5⟩ := npI_in h2 (by omega)
  have h1 := wi_t.mp h1
  have h3 := wi_t.mp h3
  have h4 := wi_t.mp h4
  have h5 := wi_t.mp h5
  rw [q3, nI_1, nI_T (by omega)] at h4
  have hp : 0 ≤ p.toInt := by have := q2.1; have : (1 : Int) ≤ 10 ^ np := Int.pow_pos (by decide); omega
  have en : (npI p.toInt).toInt.toNat = np := by rw [q3, toNat_nI (by omega)]
  have ep : ((p.toInt.toNat : Nat) : Int) = p.toInt := by omega
  unfold v_block
  simp only [vB0, vB1, vB2, vB3, vB4, vB5, vB6]
  rw [en]
  exact ⟨GV_of (by omega) (by rw [ep]; exact q2) (by omega) (by omega) (by omega) (by omega) (by omega) (by omega) (by omega) (fun _ => ⟨by omega, by omega, rfl, by omega⟩) (fun q => by omega) (fun q => by omega), nI_toNat hp, nI_toNat (by omega), nI_toNat (by omega), nI_toNat (by omega), nI_toNat (by omega), ⟨x.toInt.toNat, (nI_toNat (by omega)).symm, by omega⟩, by omega⟩
theorem se_isBlock {A : Ab} {x p s l d : Int32} {M : Mm} {post : Int32 → Mm → Prop} (h0 : ok_block A x p s l d = false → post 0 M) (h1 : (ok_block A x p s l d = isD A d) → post 1 M) : PX10_isBlock x p s l M post := by
  refine se_plI (se_within (bz (fun c => h0 ?_) (fun c => se_within (bz (fun c1 => h0 ?_) (fun c1 => se_within (bz (fun c2 => h0 ?_) (fun c2 => se_within (bz (fun c3 => h0 ?_) (fun c3 => h1 ?_)))))))))
  · unfold ok_block; rw [show wi_ x.toInt 0 15 = false from c]; rfl
  · unfold ok_block; rw [show wi_ (npI p.toInt).toInt 1 7 = false from c1]; simp
  · unfold ok_block; rw [show wi_ s.toInt 1 1023 = false from c2]; simp
  · unfold ok_block; rw [show wi_ l.toInt (npI p.toInt + 1).toInt 12 = false from c3]; simp
  · unfold ok_block; rw [show wi_ x.toInt 0 15 = true from c, show wi_ (npI p.toInt).toInt 1 7 = true from c1, show wi_ s.toInt 1 1023 = true from c2, show wi_ l.toInt (npI p.toInt + 1).toInt 12 = true from c3]; simp
theorem sp_mayBlock {m : Nat} {A : Ab} {x p s l d : Int32} {M : Mm} {post : Int32 → Mm → Prop} (hM : MS m M A) (hW : WA A) (h : post (b2_ (ok_block A x p s l d)) M) : PX11_mayBlock m x p s l d M post := by
  have h0 : ok_block A x p s l d = false → post 0 M := fun c => by rw [c] at h; exact h
  refine sp_in (bz (fun c => h0 ?_) (fun c => sp_lenI (sp_in (bz (fun c1 => h0 ?_) (fun c1 => sp_in (bz (fun c2 => h0 ?_) (fun c2 => sp_lenI (sp_in (bz (fun c3 => h0 ?_) (fun c3 => ⟨hM.1.1, sp_isFree hM hW (bz (fun c4 => h0 ?_) (fun c4 => ?_))⟩))))))))))
  · rw [wd_T] at c
    unfold ok_block; rw [show wi_ x.toInt 0 15 = false from c]; rfl
  · rw [wd_T] at c1
    unfold ok_block; rw [show wi_ (npI p.toInt).toInt 1 7 = false from c1]; simp
  · rw [wd_T] at c2
    unfold ok_block; rw [show wi_ s.toInt 1 1023 = false from c2]; simp
  · rw [wd_T, wd_T] at c3
    unfold ok_block; rw [show wi_ l.toInt (npI p.toInt + 1).toInt 12 = false from c3]; simp
  · unfold ok_block; rw [c4]; simp
  · rw [wd_T] at c c1 c2 c3
    rw [wd_T] at c3
    have : ok_block A x p s l d = true := by unfold ok_block; rw [show wi_ x.toInt 0 15 = true from c, show wi_ (npI p.toInt).toInt 1 7 = true from c1, show wi_ s.toInt 1 1023 = true from c2, show wi_ l.toInt (npI p.toInt + 1).toInt 12 = true from c3, c4]; rfl
    rw [this] at h
    exact h
theorem an_block_f {A : Ab} {x p s l d : Int32} (c : ok_block A x p s l d = false) : an_block A x p s l d = -2 ∧ nx_block A x p s l d = A := by
  unfold an_block nx_block; rw [c]; exact ⟨rfl, rfl⟩
theorem an_block_u {A : Ab} {x p s l d : Int32} (c : ok_block A x p s l d = true) (e : A.2.2 0 = 120) : an_block A x p s l d = -3 ∧ nx_block A x p s l d = A := by
  unfold an_block nx_block; rw [c, e]; exact ⟨rfl, rfl⟩
theorem an_block_t {A : Ab} {x p s l d : Int32} (c : ok_block A x p s l d = true) (e : A.2.2 0 ≠ 120) : an_block A x p s l d = nI (A.2.2 0) ∧ nx_block A x p s l d = add_ A (v_block p s l d) x (-1) (-1) := by
  unfold an_block nx_block; rw [c, if_pos rfl, if_neg e, decide_eq_false e]; exact ⟨rfl, rfl⟩
theorem v_block_0 {p s l d : Int32} : v_block p s l d 0 = 0 := by unfold v_block; exact vB0
theorem dn_block {a : Nat} {M : Mm} {A : Ab} {x p s l d : Int32} {post : Int32 → Mm → Prop} (hS : SS a M A) (h : ∀ M1, DS a M1 (nx_block A x p s l d) → MS (a + 32) M1 A → post (an_block A x p s l d) M1) : PX10_block a x p s l d M post := by
  obtain ⟨hD, hM, hW⟩ := hS
  have hT0 : ddT M a = 11 := DW_T hD.1 (i := 0) (by decide)
  have no : ok_block A x p s l d = false → post (-2) M := fun c => by
    rw [(an_block_f c).1, (an_block_f c).2] at h
    exact h M hD hM
  refine se_isBlock (A := A) (d := d) (fun c => ⟨fun _ => no c, fun z => absurd rfl z⟩) (fun c => ⟨fun z => absurd z (by decide), fun _ => ⟨hT0, se_toCome hD hW (bn (fun c1 => ⟨hT0, fun n9 e9 M10 e10 => ?_⟩) (fun c1 => no (by rw [c]; exact c1)))⟩⟩)
  subst e9 e10
  have ok : ok_block A x p s l d = true := by rw [c]; exact c1
  obtain ⟨g1, g2, g3, g4, g5, g6, g7, g8⟩ := ok_block_t ok
  have := se_newapp (post := post) (v := v_block p s l d) (ar := x) hD hM hW g1 (by rw [v_block_0]; omega) (fun e M1 hd hm => by
    rw [(an_block_u ok e).1, (an_block_u ok e).2] at h; exact h M1 hd hm) (fun e M1 hd hm => by
    rw [(an_block_t ok (by omega)).1, (an_block_t ok (by omega)).2] at h; exact h M1 hd hm)
  rw [g2, g3, g4, g5, g6, v_block_0] at this
  exact this
theorem mn_block {m : Nat} {M : Mm} {A : Ab} {x p s l d : Int32} {post : Int32 → Mm → Prop} (hM : MS m M A) (hW : WA A) (hz : m + 33 ≤ ddZ M) (h : ∀ M1, MS m M1 (nx_block A x p s l d) → Un (fun b _ => m ≤ b ∧ b < m + 33) M M1 → post (an_block A x p s l d) M1) : PX11_block m x p s l d M post := by
  have hE := hM.2.2.2.2.1
  refine ⟨hM.1.1, sp_mayBlock hM hW (bn (fun ok => ⟨hM.1.1, ?_⟩) (fun c => ?_))⟩
  · obtain ⟨g1, g2, g3, g4, g5, g6, g7, g8⟩ := ok_block_t ok
    have h0 := hE.1
    rw [hE.2.1, show (120 : Int32) = nI 120 from rfl, nI_eq (by omega) (by omega)]
    refine ⟨fun c => ?_, fun c => ?_⟩
    · rw [(an_block_t ok c).1, (an_block_t ok c).2] at h
      have := sp_add (post := post) (v := v_block p s l d) (ar := x) (en := -1) (of' := -1) hM hz (by omega) g1 (fun _ => g8) (fun M1 k1 k2 => h M1 k1 (k2.wk (fun b k _ q => by omega)))
      rw [g2, g3, g4, g5, g6, v_block_0] at this
      exact this
    · rw [(an_block_u ok c).1, (an_block_u ok c).2] at h
      exact h M hM Un.rf
  · rw [(an_block_f c).1, (an_block_f c).2] at h
    exact h M hM Un.rf
theorem wa_block {A : Ab} {x p s l d : Int32} (hW : WA A) (h120 : A.2.2 0 ≤ 120) : WA (nx_block A x p s l d) := by
  unfold nx_block
  split
  · next h =>
    rw [Bool.and_eq_true] at h
    obtain ⟨g1, g2, g3, g4, g5, g6, g7, g8⟩ := ok_block_t h.1
    have hn : A.2.2 0 ≠ 120 := by simpa using h.2
    exact wa_add hW (by omega) (Or.inl rfl) (fun _ => g7) (fun q => absurd q (by rw [v_block_0]; omega))
  · exact hW
