/-! frames for a change of the lines -/
section FL
variable {P : Nat → Nat → Prop} {M M' : Mm} {a m : Nat} {A A' : Ab}
theorem DS_L (h : DS a M A) (u : Un P M M') (hP : ∀ b k, P b k → (b = a + 4 ∧ (k = 1 ∨ k = 2)) ∨ b = a + 5 ∨ (nw_ a M b ∧ ddT M b = 4)) (hL : DL a M' A') (h1 : ∀ c, c < 10 ∨ 23 ≤ c → A'.1 c = A.1 c) (h2 : ∀ c, c ≠ 10 → A'.2.1 c = A.2.1 c) (h3 : ∀ i, i ≠ 1 → i ≠ 2 → A'.2.2 i = A.2.2 i) : DS a M' A' := by
  obtain ⟨d1, d2, d3, d4, d5, d6, d7⟩ := h
  have hz := d1.2.2.2.2
  have nn : ∀ b k, ¬ ((b = a + 4 ∧ (k = 1 ∨ k = 2)) ∨ b = a + 5 ∨ (nw_ a M b ∧ ddT M b = 4)) → ¬ P b k := fun b k q z => q (hP b k z)
  have lo : ∀ b k, b < a + 65 → ¬ (b = a + 4 ∧ (k = 1 ∨ k = 2)) → ¬ (b = a + 5) → ¬ P b k := fun b k hb q1 q2 => nn b k (by
    rintro (z | z | ⟨z, -⟩)
    · exact q1 z
    · exact q2 z
    · have := z.1; omega)
  have ty : ∀ q k, nw_ a M q → ddT M q ≠ 4 → ¬ P q k := fun q k hq ht => nn q k (by
    rintro (z | z | ⟨-, z⟩)
    · have := hq.1; omega
    · have := hq.1; omega
    · exact ht z)
  have r9 : ∀ q ∈ dw_R, q.1 < 32 ∧ ¬ (q.1 = 5) ∧ ¬ (q.1 = 4 ∧ (q.2.1 = 1 ∨ q.2.1 = 2)) := by decide
  refine ⟨DW_keep d1 u (fun q hq => ?_) (fun j hj => lo _ _ (by omega) (by omega) (by omega)), ?_, DD_cg (DD_keep d3 hz u (fun j hj => ⟨lo _ _ (by omega) (by omega) (by omega), lo _ _ (by omega) (by omega) (by omega)⟩)) (h1 40 (by omega)) (h1 41 (by omega)), DC_cg (DC_keep d4 hz u (fun k f hk => lo _ _ (by omega) (by omega) (by omega))) (fun c _ _ => h1 c (by omega)) (h2 30 (by omega)), DE_cg (DE_keep d5 hz u (lo _ _ (by omega) (by omega) (by omega)) (fun e => lo _ _ (by omega) (by omega) (by omega)) (fun q k hq ht => ty q k hq (by omega))) (h3 0 (by omega) (by omega)) (fun c hc => h1 c (by omega)) (fun c hc => h2 c (by omega)), hL, DO_cg (DO_keep d7 hz u (lo _ _ (by omega) (by omega) (by omega)) (fun e => lo _ _ (by omega) (by omega) (by omega)) (fun q k hq ht => ty q k hq (by omega)) (fun q k hq ht _ => ty q k hq (by omega)) (fun q k hq ht => ty q k hq (by omega))) (h3 3 (by omega) (by omega)) (fun c hc o _ => by rw [h1 c (by omega)]) (fun o _ => by rw [h2 0 (by omega)]) (h1 50 (by omega))⟩
  · obtain ⟨g1, g2, g3⟩ := r9 q hq
    exact lo _ _ (by omega) (by omega) (by omega)
  · have := DK_keep d2 hz u (lo _ _ (by omega) (by omega) (by omega))
    unfold DK at this ⊢
    rw [h3 4 (by omega) (by omega)]
    exact this
theorem MS_L (h : MS m M A) (hz : m + 33 ≤ ddZ M) (u : Un P M M') (hP : ∀ b k, P b k → (m + 15 ≤ b ∧ b < m + 22) ∨ (b = m ∧ (k = 16 ∨ k = 21))) (hL : ML m M' A') (h1 : ∀ c, c < 10 ∨ 23 ≤ c → A'.1 c = A.1 c) (h2 : ∀ c, c ≠ 10 → A'.2.1 c = A.2.1 c) (h3 : ∀ i, i ≠ 1 → i ≠ 2 → A'.2.2 i = A.2.2 i) : MS m M' A' := by
  obtain ⟨d1, d2, d3, d4, d5, d6, d7⟩ := h
  have nn : ∀ b k, ¬ ((m + 15 ≤ b ∧ b < m + 22) ∨ (b = m ∧ (k = 16 ∨ k = 21))) → ¬ P b k := fun b k q z => q (hP b k z)
  refine ⟨MW_keep d1 hz u (fun k _ _ _ _ _ _ => nn _ _ (by omega)), ?_, MD_cg (MD_keep d3 hz u (fun j hj => ⟨nn _ _ (by omega), nn _ _ (by omega)⟩)) (h1 40 (by omega)) (h1 41 (by omega)), MC_cg (MC_keep d4 hz u (fun o j _ _ => nn _ _ (by omega))) (fun c _ _ => h1 c (by omega)) (h2 30 (by omega)), ME_cg (ME_keep d5 hz u (nn _ _ (by omega)) (fun o j _ _ _ => nn _ _ (by omega))) (h3 0 (by omega) (by omega)) (fun c hc => h1 c (by omega)) (fun c hc => h2 c (by omega)), hL, MO_cg (MO_keep d7 hz u (nn _ _ (by omega)) (fun o j _ _ _ => nn _ _ (by omega)) (fun j => nn _ _ (by omega))) (h3 3 (by omega) (by omega)) (fun c hc o _ => by rw [h1 c (by omega)]) (fun c hc o _ => by rw [h2 c (by omega)]) (h1 50 (by omega))⟩
  have := MK_keep d2 hz u (nn _ _ (by omega))
  unfold MK at this ⊢
  rw [h3 4 (by omega) (by omega)]
  exact this
theorem ch_cgk {l : Nat} : ∀ {k : Nat} {o : Option Nat}, (∀ j c, j < k → 20 ≤ c → c < 23 → A'.1 c j = A.1 c j) → ch_ a M A l k o → ch_ a M A' l k o
  | 0, _, _, h => h
  | k + 1, o, h1, h => by
    unfold ch_ at h ⊢
    rw [h1 k 20 (by omega) (by omega) (by omega), h1 k 21 (by omega) (by omega) (by omega), h1 k 22 (by omega) (by omega) (by omega)]
    split
    · next hc =>
      rw [if_pos hc] at h
      obtain ⟨p, p1, p2, p3, p4, p5, p6⟩ := h
      exact ⟨p, p1, p2, p3, p4, p5, ch_cgk (fun j c hj => h1 j c (by omega)) p6⟩
    · next hc =>
      rw [if_neg hc] at h
      exact ch_cgk (fun j c hj => h1 j c (by omega)) h
theorem ch_none {l : Nat} : ∀ {k : Nat}, (∀ j, j < k → A.1 20 j ≠ l) → ch_ a M A l k none
  | 0, _ => rfl
  | k + 1, h => by
    unfold ch_
    rw [if_neg (h k (by omega))]
    exact ch_none (fun j hj => h j (by omega))
end FL
/-! drop -/
def ok_drop (A : Ab) (x : Int32) : Bool := isL A x && decide (A.2.1 10 x.toInt.toNat = -1)
def an_drop (A : Ab) (x : Int32) : Int32 := if ok_drop A x then 1 else -2
def nx_drop (A : Ab) (x : Int32) : Ab := if ok_drop A x then uH_ A 10 x.toInt.toNat (nI (A.2.2 4)) else A
theorem an_drop_f {A : Ab} {x : Int32} (c : ok_drop A x = false) : an_drop A x = -2 ∧ nx_drop A x = A := by unfold an_drop nx_drop; rw [c]; exact ⟨rfl, rfl⟩
theorem an_drop_t {A : Ab} {x : Int32} (c : ok_drop A x = true) : an_drop A x = 1 ∧ nx_drop A x = uH_ A 10 x.toInt.toNat (nI (A.2.2 4)) := by unfold an_drop nx_drop; rw [c]; exact ⟨rfl, rfl⟩
theorem dn_drop {a : Nat} {M : Mm} {A : Ab} {x : Int32} {post : Int32 → Mm → Prop} (hS : SS a M A) (h : ∀ M1, DS a M1 (nx_drop A x) → MS (a + 32) M1 A → post (an_drop A x) M1) : PX10_drop a x M post := by
  obtain ⟨hD, hM, hW⟩ := hS
  have hz := hD.1.2.2.2.2
  have hT0 : ddT M a = 11 := DW_T hD.1 (i := 0) (by decide)
  have hDL := hD.2.2.2.2.2.1
  have hk : ddI M a 4 = nI (A.2.2 4) := hD.2.1
  have no : ok_drop A x = false → post (-2) M := fun c => by
    rw [(an_drop_f c).1, (an_drop_f c).2] at h
    exact h M hD hM
  refine ⟨hT0, a + 4, DW_R hD.1 (i := 0) (by decide), DW_T hD.1 (by decide), se_lineWith hD.1 hDL (fun c => co_none (no (by unfold ok_drop; rw [c]; rfl)) rfl) (fun l q c c1 c2 c3 hq => co_some q ⟨hq.2.2.1, ?_⟩ rfl)⟩
  obtain ⟨l1, l2, l3, l4, l5, l6, l7, l8⟩ := id hq.2
  rw [l7]
  refine ⟨fun z => ⟨hT0, fun M2 E2 => ?_⟩, fun z => no (by unfold ok_drop; rw [c, ← c1, decide_eq_false z]; rfl)⟩
  have ok : ok_drop A x = true := by unfold ok_drop; rw [c, ← c1, decide_eq_true z]; rfl
  rw [(an_drop_t ok).1, (an_drop_t ok).2, ← c1] at h
  rw [hk] at E2
  have u : Un (fun b k => b = q ∧ k = 4) M M2 := by rw [E2]; exact Un.sI
  have qn := l1.1
  obtain ⟨a1, a2, a3, a4, a5, a6⟩ := id hDL
  have n8 : ∀ p k, nw_ a M p → ddT M p = 8 → ¬ (p = q ∧ k = 4) := fun p k _ ht z => by rw [z.1, l2] at ht; cases ht
  refine h M2 (DS_L hD u (fun b k z => Or.inr (Or.inr ?_)) ⟨a1, by rw [u.I (by omega) (by omega)]; exact a2, a3, by rw [u.I (by omega) (by omega)]; exact a4, fun l' hl' => ?_, fun l' l'' q' hl' hl'' q1 q2 => ?_⟩ (fun _ _ => rfl) (fun c hc => ?_) (fun _ _ _ => rfl)) (MS_keep hM hz u (fun b k z => by omega))
  · rw [z.1]; exact ⟨l1, l2⟩
  · obtain ⟨q', q1, q2⟩ := a5 l' hl'
    refine ⟨q', by rw [u.R (by omega) (by omega)]; exact q1, ?_⟩
    by_cases hll : l' = l
    · subst hll
      have e : q' = q := by have := hq.1; rw [q1] at this; exact Option.some.inj this
      rw [e]
      refine ⟨nw_keep l1 u, by rw [u.T l1.2]; exact l2, by rw [u.R l1.2 (by omega), u.R (by omega) (by omega)]; exact l3, by rw [u.I l1.2 (by omega)]; exact l4, by rw [u.I l1.2 (by omega)]; exact l5, by rw [u.I l1.2 (by omega)]; exact l6, ?_, ?_⟩
      · rw [E2, gI_I, if_pos ⟨rfl, rfl⟩, uH_2, if_pos ⟨rfl, rfl⟩]
      · rw [u.R l1.2 (by omega)]
        have y := ch_cg (A := A) (A' := uH_ A 10 l' (nI (A.2.2 4))) (fun _ _ _ => rfl) (ch_keep l8 u n8)
        exact y
    · have hqq : q' ≠ q := fun z => hll (a6 l' l q hl' c2 (by rw [← z]; exact q1) hq.1)
      have k := LO_keep q2 hz u (fun k z => hqq z.1) (fun e z => by omega) n8
      obtain ⟨k1, k2, k3, k4, k5, k6, k7, k8⟩ := k
      have y := ch_cg (A := A) (A' := uH_ A 10 l (nI (A.2.2 4))) (fun _ _ _ => rfl) k8
      exact ⟨k1, k2, k3, k4, k5, k6, by rw [uH_2, if_neg (by omega)]; exact k7, y⟩
  · rw [u.R (by omega) (by omega)] at q1 q2
    exact a6 l' l'' q' hl' hl'' q1 q2
  · funext j
    rw [uH_2, if_neg (fun z => hc z.1)]
theorem mn_drop {m : Nat} {M : Mm} {A : Ab} {x : Int32} {post : Int32 → Mm → Prop} (hM : MS m M A) (hz : m + 33 ≤ ddZ M) (h : ∀ M1, MS m M1 (nx_drop A x) → Un (fun b _ => m ≤ b ∧ b < m + 33) M M1 → post (an_drop A x) M1) : PX11_drop m x M post := by
  obtain ⟨d1, d2, d3, d4, d5, d6, d7⟩ := id hM
  have h3 := d6.1
  have no : ok_drop A x = false → post (-2) M := fun c => by
    rw [(an_drop_f c).1, (an_drop_f c).2] at h
    exact h M hM Un.rf
  refine ⟨d1.1, sp_isLine d1 d6 (bz (fun c => no (by unfold ok_drop; rw [c]; rfl)) (fun c => ?_))⟩
  obtain ⟨c1, c2⟩ := isL_t c
  obtain ⟨l, el⟩ : ∃ l, l = x.toInt.toNat := ⟨_, rfl⟩
  rw [← el] at c1 c2
  obtain ⟨a1, a2, a3⟩ := d1.f20
  have hin : vp_in (nI l) 300 := nI_in2 (by omega) (by decide)
  obtain ⟨m1, m2, m3, m4, m5, m6⟩ := d6
  rw [c2, nI_cl (by omega)]
  refine ⟨d1.1, m + 18, a1, a2, by rw [a3]; exact hin, ?_⟩
  rw [(m5 l c1).2.2.2, show ddI M m 0 = nI (A.2.2 4) from d2]
  refine ⟨fun z => ⟨by rw [a3]; exact hin, fun M2 E2 => ?_⟩, fun z => no (by unfold ok_drop; rw [c, ← el, decide_eq_false z]; rfl)⟩
  have ok : ok_drop A x = true := by unfold ok_drop; rw [c, ← el, decide_eq_true z]; rfl
  rw [(an_drop_t ok).1, (an_drop_t ok).2, ← el] at h
  have u : Un (fun b k => b = m + 18 ∧ k = l) M M2 := by rw [E2]; exact Un.sI
  refine h M2 (MS_L hM hz u (fun b k z => by omega) ⟨m1, by rw [u.I (by omega) (by omega)]; exact m2, m3, by rw [u.I (by omega) (by omega)]; exact m4, fun l' hl' => ?_, fun k hk => ?_⟩ (fun _ _ => rfl) (fun c hc => by funext j; rw [uH_2, if_neg (fun z => hc z.1)]) (fun _ _ _ => rfl)) (u.wk (fun b k _ z => by omega))
  · obtain ⟨k1, k2, k3, k4⟩ := m5 l' hl'
    rw [u.I (b := m + 15) (by omega) (by omega), u.L (b := m + 16) (by omega) (by omega), u.I (b := m + 17) (by omega) (by omega), E2, gI_I, uH_2]
    refine ⟨k1, k2, k3, ?_⟩
    by_cases hll : l' = l
    · subst hll; rw [if_pos ⟨rfl, rfl⟩, if_pos ⟨rfl, rfl⟩]
    · rw [if_neg (fun z => hll z.2), if_neg (fun z => hll z.2)]; exact k4
  · rw [u.I (b := m + 19) (by omega) (by omega), u.I (b := m + 20) (by omega) (by omega), u.I (b := m + 21) (by omega) (by omega)]
    exact m6 k hk
theorem wa_drop {A : Ab} {x : Int32} (hW : WA A) : WA (nx_drop A x) := by
  unfold nx_drop
  split
  · obtain ⟨w1, w2, w3, w4, w5, w6, w7, w8⟩ := hW
    refine ⟨w1, w2, w3, ?_, fun l hl => ?_, w6, w7, ?_⟩
    · simp only [uH_1, uH_3, uH_2]
      simpa using w4
    · obtain ⟨k1, k2, k3, k4, k5, k6, k7, k8⟩ := w5 l hl
      refine ⟨k1, k2, k3, k4, k5, k6, k7, ?_⟩
      rw [uH_2]
      split
      · exact Or.inr ⟨A.2.2 4, rfl, w1⟩
      · exact k8
    · simp only [uH_1, uH_3, uH_2]
      simpa using w8
  · exact hW
/-! port -/
def ok_port (A : Ab) (x c : Int32) : Bool := isL A x && (decide (A.2.1 10 x.toInt.toNat = -1) && wi_ c.toInt 0 99)
def pA_ (A : Ab) (l v : Nat) : Ab := uC_ (uN_ (uN_ (uN_ A 20 (A.2.2 2) l) 21 (A.2.2 2) (A.2.2 4)) 22 (A.2.2 2) v) 2 (A.2.2 2 + 1)
def an_port (A : Ab) (x c : Int32) : Int32 := if ok_port A x c then (if A.2.2 2 = 500 then -3 else cr_ A x.toInt.toNat (nI (A.2.2 4)) (A.2.2 2)) else -2
def nx_port (A : Ab) (x c : Int32) : Ab := if ok_port A x c && !decide (A.2.2 2 = 500) then pA_ A x.toInt.toNat c.toInt.toNat else A
theorem an_port_f {A : Ab} {x p : Int32} (c : ok_port A x p = false) : an_port A x p = -2 ∧ nx_port A x p = A := by unfold an_port nx_port; rw [c]; exact ⟨rfl, rfl⟩
theorem an_port_u {A : Ab} {x p : Int32} (c : ok_port A x p = true) (e : A.2.2 2 = 500) : an_port A x p = -3 ∧ nx_port A x p = A := by unfold an_port nx_port; rw [c, e]; exact ⟨rfl, rfl⟩
theorem an_port_t {A : Ab} {x p : Int32} (c : ok_port A x p = true) (e : A.2.2 2 ≠ 500) : an_port A x p = cr_ A x.toInt.toNat (nI (A.2.2 4)) (A.2.2 2) ∧ nx_port A x p = pA_ A x.toInt.toNat p.toInt.toNat := by unfold an_port nx_port; rw [c, if_pos rfl, if_neg e, decide_eq_false e]; exact ⟨rfl, rfl⟩
theorem pA_1 {A : Ab} {l v c j : Nat} : (pA_ A l v).1 c j = if j = A.2.2 2 then (if c = 20 then l else if c = 21 then A.2.2 4 else if c = 22 then v else A.1 c j) else A.1 c j := by
  unfold pA_
  simp only [uC_1, uN_1]
  by_cases hk : j = A.2.2 2
  · simp only [hk, and_true, if_true]
    by_cases h0 : c = 22
    · subst h0; simp
    · by_cases h1 : c = 21
      · subst h1; simp
      · by_cases h2 : c = 20
        · subst h2; simp
        · simp [h0, h1, h2]
  · simp [hk]
theorem pA_1c {A : Ab} {l v c : Nat} (h : c < 20 ∨ 23 ≤ c) : (pA_ A l v).1 c = A.1 c := by
  funext j
  rw [pA_1]
  split
  · rw [if_neg (by omega), if_neg (by omega), if_neg (by omega)]
  · rfl
theorem pA_1n {A : Ab} {l v c j : Nat} (h : j ≠ A.2.2 2) : (pA_ A l v).1 c j = A.1 c j := by rw [pA_1, if_neg h]
theorem pA_20 {A : Ab} {l v : Nat} : (pA_ A l v).1 20 (A.2.2 2) = l := by rw [pA_1, if_pos rfl, if_pos rfl]
theorem pA_21 {A : Ab} {l v : Nat} : (pA_ A l v).1 21 (A.2.2 2) = A.2.2 4 := by rw [pA_1, if_pos rfl, if_neg (by omega), if_pos rfl]
theorem pA_22 {A : Ab} {l v : Nat} : (pA_ A l v).1 22 (A.2.2 2) = v := by rw [pA_1, if_pos rfl, if_neg (by omega), if_neg (by omega), if_pos rfl]
theorem pA_2 {A : Ab} {l v : Nat} : (pA_ A l v).2.1 = A.2.1 := rfl
theorem pA_3 {A : Ab} {l v : Nat} : (pA_ A l v).2.2 2 = A.2.2 2 + 1 := rfl
theorem pA_3n {A : Ab} {l v i : Nat} (h : i ≠ 2) : (pA_ A l v).2.2 i = A.2.2 i := by show (if i = 2 then _ else _) = _; rw [if_neg h]; rfl
theorem dn_port {a : Nat} {M : Mm} {A : Ab} {x v : Int32} {post : Int32 → Mm → Prop} (hS : SS a M A) (h : ∀ M1, DS a M1 (nx_port A x v) → MS (a + 32) M1 A → post (an_port A x v) M1) : PX10_port a x v M post := by
  obtain ⟨hD, hM, hW⟩ := hS
  have hz := hD.1.2.2.2.2
  have hT0 : ddT M a = 11 := DW_T hD.1 (i := 0) (by decide)
  have hT4 : ddT M (a + 4) = 5 := DW_T hD.1 (by decide)
  have hDL := hD.2.2.2.2.2.1
  have hk : ddI M a 4 = nI (A.2.2 4) := hD.2.1
  have no : ok_port A x v = false → post (-2) M := fun c => by
    rw [(an_port_f c).1, (an_port_f c).2] at h
    exact h M hD hM
  refine ⟨hT0, a + 4, DW_R hD.1 (i := 0) (by decide), hT4, se_lineWith hD.1 hDL (fun c => co_none (no (by unfold ok_port; rw [c]; rfl)) rfl) (fun l q c c1 c2 c3 hq => co_some q ⟨hq.2.2.1, ?_⟩ rfl)⟩
  obtain ⟨l1, l2, l3, l4, l5, l6, l7, l8⟩ := id hq.2
  rw [l7]
  refine ⟨fun z => no (by unfold ok_port; rw [c, ← c1, decide_eq_false z]; rfl), fun z => se_within (bn (fun z1 => ⟨hT0, a + 4, DW_R hD.1 (i := 0) (by decide), hT4, hT4, ?_⟩) (fun z1 => no (by unfold ok_port; rw [show wi_ v.toInt 0 99 = false from z1, Bool.and_false, Bool.and_false])))⟩
  have z1 : wi_ v.toInt 0 99 = true := z1
  have ok : ok_port A x v = true := by unfold ok_port; rw [c, ← c1, decide_eq_true z, z1]; rfl
  obtain ⟨a1, a2, a3, a4, a5, a6⟩ := id hDL
  rw [a4, hk]
  refine pk_lt (A.2.2 2) 500 (fun y => ⟨q, rfl, l2, se_carrier hq.2 a3 (fun n8 e8 M9 E9 => ?_)⟩) (fun y => ?_) rfl rfl (by omega) (by omega)
  · rw [(an_port_t ok (by omega)).1, (an_port_t ok (by omega)).2, ← c1] at h
    subst e8
    have qn := l1.2
    have hqz : ¬ (q = ddZ M) := by omega
    have tq : ddT M9 q = 4 := by rw [E9, gT_N, if_neg hqz]; exact l2
    have t8 : ddT M9 (ddZ M) = 8 := by rw [E9, gT_N, if_pos rfl]
    have r5 : ddR M9 q 5 = ddR M q 5 := by rw [E9, gR_N, if_neg hqz]
    rw [r5]
    refine ⟨tq, t8, fun M10 E10 M11 E11 M12 E12 => ⟨?_, fun M14 E14 => ⟨?_, fun M16 E16 => ?_⟩⟩⟩
    · subst E12 E11 E10; exact tq
    · subst E14 E12 E11 E10
      show ddT M9 (a + 4) = 5
      rw [E9, gT_N, if_neg (by omega)]; exact hT4
    · have s14 : ddI M14 (a + 4) 2 = nI (A.2.2 2) := by
        subst E14 E12 E11 E10
        show ddI (suI (suI M9 (ddZ M) 0 v) (ddZ M) 1 (nI (A.2.2 4))) (a + 4) 2 = _
        rw [gI_I, if_neg (by omega), gI_I, if_neg (by omega), E9, gI_N, if_neg (by omega)]
        exact a4
      rw [s14, nI_1] at E16
      have u : Un (fun b k => (b = q ∧ k = 5) ∨ (b = a + 4 ∧ k = 2)) M M16 := by
        subst E16 E14 E12 E11 E10 E9
        exact ((((((Un.sN.tr Un.sI).tr Un.sI).tr Un.sR).tr Un.sR).tr Un.sI).wk (fun b k hb z => by
          rcases z with ((((z | z) | z) | z) | z) | z
          · exact z.elim
          · omega
          · omega
          · omega
          · exact Or.inl z
          · exact Or.inr z))
      have z16 : ddZ M16 = ddZ M + 1 := by subst E16 E14 E12 E11 E10 E9; rfl
      have p0 : ddI M16 (ddZ M) 0 = v := by
        subst E16 E14 E12 E11 E10
        rw [gI_I, if_neg (by omega)]
        show ddI (suI (suI M9 (ddZ M) 0 v) (ddZ M) 1 (nI (A.2.2 4))) (ddZ M) 0 = v
        rw [gI_I, if_neg (by omega), gI_I, if_pos ⟨rfl, rfl⟩]
      have p1 : ddI M16 (ddZ M) 1 = nI (A.2.2 4) := by
        subst E16 E14 E12 E11 E10
        rw [gI_I, if_neg (by omega)]
        show ddI (suI (suI M9 (ddZ M) 0 v) (ddZ M) 1 (nI (A.2.2 4))) (ddZ M) 1 = _
        rw [gI_I, if_pos ⟨rfl, rfl⟩]
      have p2 : ddR M16 (ddZ M) 2 = ddR M q 5 := by
        subst E16 E14 E12
        show ddR (suR (suR M11 (ddZ M) 2 (ddR M q 5)) q 5 (some (ddZ M))) (ddZ M) 2 = _
        rw [gR_R, if_neg (by omega), gR_R, if_pos ⟨rfl, rfl⟩]
      have p8 : ddT M16 (ddZ M) = 8 := by subst E16 E14 E12 E11 E10; exact t8
      have q5 : ddR M16 q 5 = some (ddZ M) := by
        subst E16 E14
        show ddR (suR M12 q 5 (some (ddZ M))) q 5 = _
        rw [gR_R, if_pos ⟨rfl, rfl⟩]
      have n8 : ∀ p k, nw_ a M p → ddT M p = 8 → ¬ ((p = q ∧ k = 5) ∨ (p = a + 4 ∧ k = 2)) := fun p k hp ht z => by
        rcases z with z | z
        · rw [z.1, l2] at ht; cases ht
        · have := hp.1; omega
      have q65 := l1.1
      have evn : nI v.toInt.toNat = v := nI_toNat (by have := wi_t.mp z1; omega)
      refine h M16 (DS_L hD u (fun b k z => ?_) ⟨by rw [pA_3n (by omega)]; exact a1, by rw [pA_3n (by omega), u.I (by omega) (by omega)]; exact a2, by rw [pA_3]; omega, ?_, fun l' hl' => ?_, fun l' l'' q' hl' hl'' q1 q2 => ?_⟩ (fun c hc => pA_1c (by omega)) (fun c hc => by rw [pA_2]) (fun i _ hi => pA_3n hi)) (MS_keep hM hz u (fun b k z => by omega))
      · rcases z with z | z
        · rw [z.1]; exact Or.inr (Or.inr ⟨l1, l2⟩)
        · exact Or.inl ⟨z.1, Or.inr z.2⟩
      · rw [pA_3, E16, gI_I, if_pos ⟨rfl, rfl⟩]
      · rw [pA_3n (by omega)] at hl'
        obtain ⟨q', q1, q2⟩ := a5 l' hl'
        refine ⟨q', by rw [u.R (by omega) (by omega)]; exact q1, ?_⟩
        obtain ⟨k1, k2, k3, k4, k5, k6, k7, k8⟩ := id q2
        have q'65 := k1.1
        refine ⟨nw_keep k1 u, by rw [u.T k1.2]; exact k2, ?_, ?_, ?_, ?_, ?_, ?_⟩
        · rw [pA_1c (by omega), u.R k1.2 (by omega), u.R (by omega) (by omega)]; exact k3
        · rw [pA_1c (by omega), u.I k1.2 (by omega)]; exact k4
        · rw [pA_1c (c := 11) (by omega), pA_1c (c := 10) (by omega), pA_1c (c := 4) (by omega), pA_1c (c := 2) (by omega), u.I k1.2 (by omega)]; exact k5
        · rw [pA_1c (by omega), u.I k1.2 (by omega)]; exact k6
        · rw [pA_2, u.I k1.2 (by omega)]; exact k7
        · rw [pA_3]
          unfold ch_
          rw [pA_20, pA_21, pA_22]
          by_cases hll : l' = l
          · rw [if_pos hll.symm]
            subst hll
            have e : q' = q := by have := hq.1; rw [q1] at this; exact Option.some.inj this
            rw [e, q5]
            refine ⟨ddZ M, rfl, ⟨by omega, by omega⟩, p8, by rw [p0, evn], p1, ?_⟩
            rw [p2]
            exact ch_cgk (fun j c hj _ _ => pA_1n (by omega)) (ch_keep l8 u n8)
          · rw [if_neg (fun z => hll z.symm)]
            have hqq : q' ≠ q := fun z => hll (a6 l' l q hl' c2 (by rw [← z]; exact q1) hq.1)
            rw [u.R k1.2 (by omega)]
            exact ch_cgk (fun j c hj _ _ => pA_1n (by omega)) (ch_keep k8 u n8)
      · rw [pA_3n (by omega)] at hl' hl''
        rw [u.R (by omega) (by omega)] at q1 q2
        exact a6 l' l'' q' hl' hl'' q1 q2
  · rw [(an_port_u ok (by omega)).1, (an_port_u ok (by omega)).2] at h
    exact h M hD hM
theorem mn_port {m : Nat} {M : Mm} {A : Ab} {x v : Int32} {post : Int32 → Mm → Prop} (hM : MS m M A) (hW : WA A) (hz : m + 33 ≤ ddZ M) (h : ∀ M1, MS m M1 (nx_port A x v) → Un (fun b _ => m ≤ b ∧ b < m + 33) M M1 → post (an_port A x v) M1) : PX11_port m x v M post := by
  obtain ⟨d1, d2, d3, d4, d5, d6, d7⟩ := id hM
  have h3 := d6.1
  have no : ok_port A x v = false → post (-2) M := fun c => by
    rw [(an_port_f c).1, (an_port_f c).2] at h
    exact h M hM Un.rf
  refine ⟨d1.1, sp_isLine d1 d6 (bz (fun c => no (by unfold ok_port; rw [c]; rfl)) (fun c => ?_))⟩
  obtain ⟨c1, c2⟩ := isL_t c
  obtain ⟨l, el⟩ : ∃ l, l = x.toInt.toNat := ⟨_, rfl⟩
  rw [← el] at c1 c2
  obtain ⟨a1, a2, a3⟩ := d1.f20
  have hin : vp_in (nI l) 300 := nI_in2 (by omega) (by decide)
  obtain ⟨m1, m2, m3, m4, m5, m6⟩ := id d6
  rw [c2, nI_cl (by omega)]
  refine ⟨d1.1, m + 18, a1, a2, by rw [a3]; exact hin, ?_⟩
  rw [(m5 l c1).2.2.2]
  refine ⟨fun z => no (by unfold ok_port; rw [c, ← el, decide_eq_false z]; rfl), fun z => sp_in (bn (fun z1 => ⟨d1.1, ?_⟩) (fun z1 => no ?_))⟩
  · rw [wd_T] at z1
    have z1 : wi_ v.toInt 0 99 = true := z1
    have ok : ok_port A x v = true := by unfold ok_port; rw [c, ← el, decide_eq_true z, z1]; rfl
    rw [m4, show ddI M m 0 = nI (A.2.2 4) from d2, show (500 : Int32) = nI 500 from rfl, nI_eq (by omega) (by omega)]
    refine ⟨fun y => sp_carrier d1 d6 hW c1 ⟨d1.1, ?_⟩, fun y => ?_⟩
    · rw [(an_port_t ok y).1, (an_port_t ok y).2, ← el] at h
      obtain ⟨e1, e2, e3⟩ := d1.f22
      obtain ⟨f1, f2, f3⟩ := d1.f23
      obtain ⟨g1, g2, g3⟩ := d1.f24
      have hi5 : vp_in (nI (A.2.2 2)) 500 := nI_in2 (by omega) (by decide)
      rw [m4, nI_cl (by omega)]
      refine ⟨m + 19, e1, e2, by rw [e3]; exact hi5, fun M2 E2 => ?_⟩
      have k2 : ddI M2 m 21 = nI (A.2.2 2) := by rw [E2, gI_I, if_neg (by omega)]; exact m4
      have c0 : ddI M2 m 0 = nI (A.2.2 4) := by rw [E2, gI_I, if_neg (by omega)]; exact d2
      rw [k2, c0, nI_cl (by omega)]
      refine ⟨m + 20, by rw [E2]; exact f1, by rw [E2]; exact f2, by rw [E2]; show vp_in _ (ddN M _); rw [f3]; exact hi5, fun M3 E3 => ?_⟩
      have k3 : ddI M3 m 21 = nI (A.2.2 2) := by rw [E3, gI_I, if_neg (by omega)]; exact k2
      rw [k3, nI_cl (by omega)]
      refine ⟨m + 21, by rw [E3, E2]; exact g1, by rw [E3, E2]; exact g2, by rw [E3, E2]; show vp_in _ (ddN M _); rw [g3]; exact hi5, fun M4 E4 M5 E5 => ?_⟩
      have k4 : ddI M4 m 21 = nI (A.2.2 2) := by rw [E4, gI_I, if_neg (by omega)]; exact k3
      rw [k4, nI_1] at E5
      have u : Un (fun b k => (k = A.2.2 2 ∧ (b = m + 19 ∨ b = m + 20 ∨ b = m + 21)) ∨ (b = m ∧ k = 21)) M M5 := by
        rw [E5, E4, E3, E2]
        exact (((Un.sI.tr Un.sI).tr Un.sI).tr Un.sI).wk (fun b k _ z => by omega)
      have evn : nI v.toInt.toNat = v := nI_toNat (by have := wi_t.mp z1; omega)
      refine h M5 (MS_L hM hz u (fun b k z => by omega) ⟨by rw [pA_3n (by omega)]; exact m1, by rw [pA_3n (by omega), u.I (by omega) (by omega)]; exact m2, by rw [pA_3]; omega, by rw [pA_3, E5, gI_I, if_pos ⟨rfl, rfl⟩], fun l' hl' => ?_, fun k hk => ?_⟩ (fun c hc => pA_1c (by omega)) (fun c hc => by rw [pA_2]) (fun i _ hi => pA_3n hi)) (u.wk (fun b k _ z => by omega))
      · rw [pA_3n (by omega)] at hl'
        rw [u.I (b := m + 15) (by omega) (by omega), u.L (b := m + 16) (by omega) (by omega), u.I (b := m + 17) (by omega) (by omega), u.I (b := m + 18) (by omega) (by omega), pA_1c (by omega), pA_1c (by omega), pA_1c (by omega), pA_2]
        exact m5 l' hl'
      · rw [pA_3] at hk
        by_cases hkk : k = A.2.2 2
        · subst hkk
          rw [pA_20, pA_21, pA_22, evn]
          have x19 : ¬ (m + 19 = m) := by omega
          have x20 : ¬ (m + 20 = m) := by omega
          have x21 : ¬ (m + 21 = m) := by omega
          have xa : ¬ (m + 19 = m + 20) := by omega
          have xb : ¬ (m + 19 = m + 21) := by omega
          have xc : ¬ (m + 20 = m + 21) := by omega
          subst E5 E4 E3 E2
          simp only [gI_I, x19, x20, x21, xa, xb, xc, false_and, if_false, true_and, and_self, if_true]
        · rw [u.I (b := m + 19) (by omega) (by omega), u.I (b := m + 20) (by omega) (by omega), u.I (b := m + 21) (by omega) (by omega), pA_1n hkk, pA_1n hkk, pA_1n hkk]
          exact m6 k (by omega)
    · rw [(an_port_u ok y).1, (an_port_u ok y).2] at h
      exact h M hM Un.rf
  · rw [wd_T] at z1
    unfold ok_port; rw [show wi_ v.toInt 0 99 = false from z1, Bool.and_false, Bool.and_false]
theorem wa_port {A : Ab} {x v : Int32} (hW : WA A) : WA (nx_port A x v) := by
  unfold nx_port
  split
  · next hc =>
    rw [Bool.and_eq_true] at hc
    have hc1 := hc.1
    unfold ok_port at hc1
    simp only [Bool.and_eq_true] at hc1
    obtain ⟨c1, -⟩ := isL_t hc1.1
    have cv := wi_t.mp hc1.2.2
    obtain ⟨w1, w2, w3, w4, w5, w6, w7, w8⟩ := hW
    refine ⟨by rw [pA_3n (by omega)]; exact w1, ?_, ?_, ?_, ?_, fun k hk => ?_, fun k k' hkk hk' => ?_, ?_⟩
    · rw [pA_1c (by omega), pA_1c (by omega)]; exact w2
    · rw [pA_1c (by omega), pA_1c (by omega), pA_1c (by omega), pA_1c (by omega), pA_1c (by omega)]; exact w3
    · rw [pA_3n (by omega), pA_1c (c := 0) (by omega), pA_1c (c := 6) (by omega), pA_1c (c := 3) (by omega), pA_1c (c := 4) (by omega), pA_1c (c := 2) (by omega), pA_2]; exact w4
    · rw [pA_3n (i := 0) (by omega), pA_3n (i := 1) (by omega), pA_3n (i := 4) (by omega), pA_1c (c := 0) (by omega), pA_1c (c := 6) (by omega), pA_1c (c := 3) (by omega), pA_1c (c := 4) (by omega), pA_1c (c := 2) (by omega), pA_1c (c := 10) (by omega), pA_1c (c := 11) (by omega), pA_1c (c := 12) (by omega), pA_2]; exact w5
    · rw [pA_3] at hk
      rw [pA_3n (by omega), pA_3n (by omega)]
      by_cases hkk : k = A.2.2 2
      · subst hkk
        rw [pA_1, if_pos rfl, if_neg (by omega), if_pos rfl, pA_1, if_pos rfl, if_neg (by omega), if_neg (by omega), if_pos rfl, pA_1, if_pos rfl, if_pos rfl]
        exact ⟨by omega, by omega, c1⟩
      · rw [pA_1n hkk, pA_1n hkk, pA_1n hkk]
        exact w6 k (by omega)
    · rw [pA_3] at hk'
      by_cases h2 : k' = A.2.2 2
      · rw [pA_1 (j := k'), if_pos h2, if_neg (by omega), if_pos rfl]
        by_cases h1 : k = A.2.2 2
        · rw [pA_1, if_pos h1, if_neg (by omega), if_pos rfl]; omega
        · rw [pA_1n h1]
          exact (w6 k (by omega)).1
      · rw [pA_1n h2, pA_1n (by omega)]
        exact w7 k k' hkk (by omega)
    · rw [pA_3n (by omega), pA_1c (by omega), pA_2]; exact w8
  · exact hW
