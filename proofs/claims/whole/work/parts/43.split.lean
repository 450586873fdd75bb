/-! split, lengthen -/
def mCq (A : Ab) (e : Nat) (d dy : Int32) : Bool := decide (A.2.1 3 e = -1) && (mEnd A e d && wi_ dy.toInt 0 1000)
def mCh (A : Ab) (x d dy : Int32) : Bool := isB A x && mCq A x.toInt.toNat d dy
theorem se_canChange {a : Nat} {M : Mm} {A : Ab} {e q : Nat} {d dy : Int32} {post : Int32 → Mm → Prop} (hD : DS a M A) (hA : WA A) (hq : EH a M A e q) (h : post (b2_ (mCq A e d dy)) M) : PX10_canChange a (some q) d dy M post := by
  obtain ⟨x1, x9, x10, x11, x12, -⟩ := id hq.2.2.2.2
  have hT0 : ddT M a = 11 := DW_T hD.1 (i := 0) (by decide)
  refine ⟨q, rfl, hq.T, ?_⟩
  rw [x12]
  refine ⟨fun z => ?_, fun z => ⟨hT0, se_toCome hD hA (bz (fun z1 => ?_) (fun z1 => ⟨hq.T, se_isInside hq.T ?_⟩))⟩⟩
  · have e1 : mCq A e d dy = false := by unfold mCq; rw [decide_eq_false z]; rfl
    rw [e1] at h; exact h
  · have e1 : mCq A e d dy = false := by unfold mCq mEnd isD; rw [z1, Bool.false_and, Bool.false_and, Bool.and_false]
    rw [e1] at h; exact h
  · rw [hq.2.2.2.1.2.2.2.2.2.2.2.1, x10]
    refine bz (fun z2 => ?_) (fun z2 => se_within (bz (fun z3 => ?_) (fun z3 => ?_)))
    · have e1 : mCq A e d dy = false := by unfold mCq mEnd; rw [z2, Bool.and_false, Bool.false_and, Bool.and_false]
      rw [e1] at h; exact h
    · have e1 : mCq A e d dy = false := by unfold mCq; rw [show wi_ dy.toInt 0 1000 = false from z3, Bool.and_false, Bool.and_false]
      rw [e1] at h; exact h
    · have e1 : mCq A e d dy = true := by unfold mCq mEnd isD; rw [decide_eq_true z, z1, z2, show wi_ dy.toInt 0 1000 = true from z3]; rfl
      rw [e1] at h; exact h
theorem mCq_t {A : Ab} {e : Nat} {d dy : Int32} (hA : WA A) (he : e < A.2.2 0) (h6 : A.1 6 e ≤ 20000) (h : mCq A e d dy = true) : A.2.1 3 e = -1 ∧ A.2.1 4 e = -1 ∧ A.2.1 6 e = -1 ∧ (∃ t : Nat, d = nI t ∧ t ≤ 20000 ∧ A.1 6 e < t ∧ t = d.toInt.toNat ∧ (∀ u : Nat, A.2.1 1 e = nI u → u < 2 ^ 31 → t < u)) ∧ ∃ y : Nat, dy = nI y ∧ y ≤ 1000 ∧ y = dy.toInt.toNat := by
  unfold mCq mEnd isD ins_ at h
  simp only [Bool.and_eq_true, decide_eq_true_eq, Bool.not_eq_true', decide_eq_false_iff_not, Bool.or_eq_true] at h
  obtain ⟨h1, ⟨h2, h3, h4⟩, h5⟩ := h
  have h2 := wi_t.mp h2
  have h5 := wi_t.mp h5
  have k3 := (hA.2.2.2.1 e he).2.2.1
  have k36 : A.2.1 4 e = -1 ∧ A.2.1 6 e = -1 := by
    rcases k3 with ⟨-, k6, k4⟩ | ⟨-, d', o, s, g1, g2, -⟩
    · exact ⟨k4, k6⟩
    · rw [h1] at g1
      exact absurd g1.symm (nI_m1 (by omega))
  rw [xi_le, nI_T (by omega)] at h3
  refine ⟨h1, k36.1, k36.2, ⟨d.toInt.toNat, (nI_toNat (by omega)).symm, by omega, by omega, rfl, fun u hu hl => ?_⟩, ⟨dy.toInt.toNat, (nI_toNat (by omega)).symm, by omega, rfl⟩⟩
  rcases h4 with h4 | h4
  · rw [hu] at h4
    exact absurd h4 (nI_m1 hl)
  · rw [hu, xi_lt, nI_T hl] at h4
    omega
def np_ (p : Int32) : Nat := (npI p.toInt).toInt.toNat
def vS_ (A : Ab) (e : Nat) (s p d : Int32) : Nat → Nat := vB_ 0 p.toInt.toNat (np_ p) s.toInt.toNat (np_ p + (A.1 4 e - A.1 2 e)) (np_ p + (A.1 4 e - A.1 2 e)) d.toInt.toNat
def okq_split (A : Ab) (e : Nat) (s p ar d dy : Int32) : Bool := mCq A e d dy && (!decide (s = 0) && (decide (s &&& (nI (A.1 3 e) ^^^ -1) = 0) && (wi_ (npI p.toInt).toInt 1 7 && (wi_ ar.toInt 0 15 && decide (np_ p + (A.1 4 e - A.1 2 e) ≤ 12)))))
def ok_split (A : Ab) (x s p ar d dy : Int32) : Bool := isB A x && okq_split A x.toInt.toNat s p ar d dy
def an_spl (A : Ab) (x s p ar d dy : Int32) : Int32 := if ok_split A x s p ar d dy then (if A.2.2 0 + nd_ A x.toInt.toNat s.toInt.toNat dy.toInt.toNat ≤ 120 then nI (mi_ A x.toInt.toNat s.toInt.toNat) else -3) else -2
def nx_spl (A : Ab) (x s p ar d dy : Int32) : Ab := if ok_split A x s p ar d dy && decide (A.2.2 0 + nd_ A x.toInt.toNat s.toInt.toNat dy.toInt.toNat ≤ 120) then nA_ A x.toInt.toNat (vS_ A x.toInt.toNat s p d) ar dy.toInt.toNat else A
theorem sp_f {A : Ab} {x s p ar d dy : Int32} (c : ok_split A x s p ar d dy = false) : an_spl A x s p ar d dy = -2 ∧ nx_spl A x s p ar d dy = A := by unfold an_spl nx_spl; rw [c]; exact ⟨rfl, rfl⟩
theorem sp_u {A : Ab} {x s p ar d dy : Int32} (c : ok_split A x s p ar d dy = true) (y : 120 < A.2.2 0 + nd_ A x.toInt.toNat s.toInt.toNat dy.toInt.toNat) : an_spl A x s p ar d dy = -3 ∧ nx_spl A x s p ar d dy = A := by unfold an_spl nx_spl; rw [c, if_pos rfl, if_neg (by omega), decide_eq_false (by omega)]; exact ⟨rfl, rfl⟩
theorem sp_t {A : Ab} {x s p ar d dy : Int32} (c : ok_split A x s p ar d dy = true) (y : A.2.2 0 + nd_ A x.toInt.toNat s.toInt.toNat dy.toInt.toNat ≤ 120) : an_spl A x s p ar d dy = nI (mi_ A x.toInt.toNat s.toInt.toNat) ∧ nx_spl A x s p ar d dy = nA_ A x.toInt.toNat (vS_ A x.toInt.toNat s p d) ar dy.toInt.toNat := by unfold an_spl nx_spl; rw [c, if_pos rfl, if_pos y, decide_eq_true y]; exact ⟨rfl, rfl⟩
theorem okq_t {A : Ab} {e : Nat} {s p ar d dy : Int32} (hA : WA A) (he : e < A.2.2 0) (hk0 : A.1 0 e = 0) (hG : GW A.1 e) (h : okq_split A e s p ar d dy = true) : mCq A e d dy = true ∧ GV (vS_ A e s p d) ∧ s = nI s.toInt.toNat ∧ p = nI p.toInt.toNat ∧ npI p.toInt = nI (np_ p) ∧ np_ p ≤ 7 ∧ 1 ≤ np_ p ∧ isF (p.toInt.toNat : Int) (np_ p) ∧ (∃ z : Nat, ar = nI z ∧ z < 16) ∧ s.toInt.toNat < 1024 ∧ 0 < s.toInt.toNat ∧ (∀ f, (s.toInt.toNat).testBit f = true → (A.1 3 e).testBit f = true) ∧ np_ p + (A.1 4 e - A.1 2 e) ≤ 12 := by
  unfold okq_split at h
  simp only [Bool.and_eq_true, Bool.not_eq_true', decide_eq_false_iff_not, decide_eq_true_eq] at h
  obtain ⟨h1, h2, h3, h4, h5, h6⟩ := h
  have g6 := hG.2.2.2.2.2.2.2.1
  obtain ⟨-, -, -, ⟨t, ht, ht2, ht3, ht4, -⟩, -⟩ := mCq_t hA he g6 h1
  obtain ⟨s', hs1, hs2, hs3⟩ := sub_nat hG.2.2.2.2.1 h3
  have es : s.toInt.toNat = s' := by rw [hs2]; exact toNat_nI (by omega)
  have hs0 : s' ≠ 0 := fun z => h2 (by rw [hs2, z]; rfl)
  obtain ⟨np, y1, y2, y3, y4, y5⟩ := npI_in h4 (by decide)
  have y5 : (np : Int) ≤ 7 := y5
  have enp : np_ p = np := by unfold np_; rw [y3]; exact toNat_nI (by omega)
  have q1 : (1 : Int) ≤ 10 ^ np := Int.pow_pos (by decide)
  have q2 := y2.1
  have e3 : ((p.toInt.toNat : Nat) : Int) = p.toInt := by omega
  have gb := hG.2.2.2.2.2.2.2.2.2.1 (Or.inl hk0)
  rw [enp] at h6
  refine ⟨h1, ?_, ?_, (nI_toNat (by omega)).symm, by rw [enp]; exact y3, by omega, by omega, by rw [enp, e3]; exact y2, ?_, by omega, by omega, by rw [es]; exact hs3, by rw [enp]; exact h6⟩
  · unfold vS_
    rw [enp, es]
    exact GV_of (by omega) (by rw [e3]; exact y2) (by omega) (by omega) hs1 (by omega) (by omega) (by omega) (by omega) (fun _ => ⟨by omega, by omega, rfl, h6⟩) (fun z => by omega) (fun z => by omega)
  · rw [es]; exact hs2
  · have z5 := wi_t.mp h5
    exact ⟨ar.toInt.toNat, (nI_toNat (by omega)).symm, by omega⟩
theorem dn_split {a : Nat} {M : Mm} {A : Ab} {x s p ar d dy : Int32} {post : Int32 → Mm → Prop} (hS : SS a M A) (h : ∀ M1, DS a M1 (nx_spl A x s p ar d dy) → MS (a + 32) M1 A → post (an_spl A x s p ar d dy) M1) : PX10_split a x s p ar d dy M post := by
  obtain ⟨hD, hM, hA⟩ := id hS
  have hz := hD.1.2.2.2.2
  have hT0 : ddT M a = 11 := DW_T hD.1 (i := 0) (by decide)
  have hT1 : ddT M (a + 1) = 7 := DW_T hD.1 (by decide)
  have hDE := hD.2.2.2.2.1
  have no : ok_split A x s p ar d dy = false → post (-2) M := fun c => by
    rw [(sp_f c).1, (sp_f c).2] at h
    exact h M hD hM
  refine ⟨hT0, a + 1, DW_R hD.1 (i := 0) (by decide), hT1, se_blockAt hD.1 hDE (fun c => se_plI (co_none (no (by unfold ok_split; rw [c]; rfl)) rfl)) (fun e q c c1 c2 c3 c4 c5 hq => se_plI (co_some q ?_ rfl))⟩
  have hO := hq.2.2.2.1
  have hG := hO.2.2.2.2.2.2.2.2.1
  have hkl := GW_kl hG c4
  have g4 := hG.2.2.2.2.2.1
  have g5 := hG.2.2.2.2.2.2.1
  have nq : okq_split A e s p ar d dy = false → post (-2) M := fun z => no (by unfold ok_split; rw [← c2, z, Bool.and_false])
  refine ⟨fun z => nq (by unfold okq_split; rw [decide_eq_true z, Bool.not_true, Bool.false_and, Bool.and_false]), fun z => ⟨hq.T, ?_⟩⟩
  rw [hO.2.2.2.2.1]
  refine ⟨fun z1 => nq (by unfold okq_split; rw [decide_eq_false z1, Bool.false_and, Bool.and_false, Bool.and_false]), fun z1 => ⟨hT0, se_canChange hD hA hq (bn (fun z2 => se_within (bz (fun z3 => nq ?_) (fun z3 => se_within (bn (fun z4 => ⟨hq.T, hq.T, fun v27 e27 => ?_⟩) (fun z4 => nq ?_))))) (fun z2 => nq ?_))⟩⟩
  · unfold okq_split; rw [show wi_ (npI p.toInt).toInt 1 7 = false from z3, Bool.false_and, Bool.and_false, Bool.and_false, Bool.and_false]
  · have z3 : wi_ (npI p.toInt).toInt 1 7 = true := z3
    have z4 : wi_ ar.toInt 0 15 = true := z4
    obtain ⟨np, y1, y2, y3, y4, y5⟩ := npI_in z3 (by decide)
    have y5 : (np : Int) ≤ 7 := y5
    have enp : np_ p = np := by unfold np_; rw [y3]; exact toNat_nI (by omega)
    rw [y3, hO.2.2.2.2.2.1, hO.2.2.2.1, pk_sub (by omega), nI_add, ← enp] at e27
    rw [e27]
    refine pk_le (np_ p + (A.1 4 e - A.1 2 e)) 12 (fun y => ⟨hT0, fun n30 e30 M31 E31 => ?_⟩) (fun y => nq ?_) rfl rfl (by omega) (by omega)
    · have okq : okq_split A e s p ar d dy = true := by
        unfold okq_split
        rw [z2, decide_eq_false z, decide_eq_true z1, z3, z4, decide_eq_true y]; rfl
      have ok : ok_split A x s p ar d dy = true := by unfold ok_split; rw [c, ← c2, okq]; rfl
      obtain ⟨k1, k2, k3, k4, k5, k6, k7, k8, k9, k10, k11, k12, k13⟩ := okq_t hA c3 c4 hG okq
      obtain ⟨j1, j2, j3, ⟨t, ht, ht2, ht3, ht4, -⟩, ⟨yd, hy1, hy2, hy3⟩⟩ := mCq_t hA c3 hG.2.2.2.2.2.2.2.1 k1
      subst e30 E31
      have key := se_init (M0 := M) (G := fun c _ => vS_ A e s p d c) (j := 0) (ar := ar) (post := fun M33 => ∃ aq34 : Nat, (ddR M a 0) = some aq34 ∧ (ddT M33 aq34 = 7 ∧ (PX6_change aq34 (some q) (some (ddZ M)) dy M33 (fun r37 M38 => post r37 M38)))) k2 (fun M33 hN => by
        have u33 := hN.1
        refine ⟨a + 1, DW_R hD.1 (i := 0) (by decide), by rw [u33.T (by omega)]; exact hT1, ?_⟩
        rw [hy1]
        have v3 : vS_ A e s p d 3 = s.toInt.toNat := rfl
        refine se_change hS c3 c4 hq j2 k2 rfl hN hy2 (fun yy M1 g1 g2 => ?_) (fun yy M1 g1 g2 => ?_)
        · rw [v3, hy3, c2] at yy
          rw [(sp_u ok yy).1, (sp_u ok yy).2] at h
          exact h M1 g1 g2
        · rw [v3, hy3, c2] at yy
          rw [(sp_t ok yy).1, (sp_t ok yy).2, ← c2, ← hy3] at h
          rw [v3]
          exact h M1 g1 g2)
      have e1 : nI (vS_ A e s p d 1) = p := k4.symm
      have e3 : nI (vS_ A e s p d 3) = s := k3.symm
      have e6 : nI (vS_ A e s p d 6) = d := by rw [show vS_ A e s p d 6 = d.toInt.toNat from rfl, ← ht4]; exact ht.symm
      have key : PX2_init (ddZ M) 0 ar (nI (vS_ A e s p d 1)) (nI (vS_ A e s p d 3)) (nI (np_ p + (A.1 4 e - A.1 2 e))) (nI (np_ p + (A.1 4 e - A.1 2 e))) (nI (vS_ A e s p d 6)) (suN M 3 0) _ := key
      rw [e1, e3, e6] at key
      exact key
    · unfold okq_split; rw [decide_eq_false (by omega : ¬ np_ p + (A.1 4 e - A.1 2 e) ≤ 12), Bool.and_false, Bool.and_false, Bool.and_false, Bool.and_false, Bool.and_false]
  · unfold okq_split; rw [show wi_ ar.toInt 0 15 = false from z4, Bool.false_and, Bool.and_false, Bool.and_false, Bool.and_false, Bool.and_false]
  · unfold okq_split; rw [z2]; rfl
/-! lengthen, the desk -/
def vL_ (A : Ab) (e : Nat) (f d : Int32) : Nat → Nat := vB_ 0 (A.1 1 e * 10 + f.toInt.toNat) (A.1 2 e + 1) (A.1 3 e) (A.1 4 e + 1) (A.1 4 e + 1) d.toInt.toNat
def okq_len (A : Ab) (e : Nat) (f d dy : Int32) : Bool := mCq A e d dy && (wi_ f.toInt 0 9 && (decide (A.1 2 e < 7) && decide (A.1 4 e < 12)))
def ok_len (A : Ab) (x f d dy : Int32) : Bool := isB A x && okq_len A x.toInt.toNat f d dy
def an_len (A : Ab) (x f d dy : Int32) : Int32 := if ok_len A x f d dy then (if A.2.2 0 + nd_ A x.toInt.toNat (A.1 3 x.toInt.toNat) dy.toInt.toNat ≤ 120 then nI (mi_ A x.toInt.toNat (A.1 3 x.toInt.toNat)) else -3) else -2
def nx_len (A : Ab) (x f d dy : Int32) : Ab := if ok_len A x f d dy && decide (A.2.2 0 + nd_ A x.toInt.toNat (A.1 3 x.toInt.toNat) dy.toInt.toNat ≤ 120) then nA_ A x.toInt.toNat (vL_ A x.toInt.toNat f d) (A.2.1 0 x.toInt.toNat) dy.toInt.toNat else A
theorem ln_f {A : Ab} {x f d dy : Int32} (c : ok_len A x f d dy = false) : an_len A x f d dy = -2 ∧ nx_len A x f d dy = A := by unfold an_len nx_len; rw [c]; exact ⟨rfl, rfl⟩
theorem ln_u {A : Ab} {x f d dy : Int32} (c : ok_len A x f d dy = true) (y : 120 < A.2.2 0 + nd_ A x.toInt.toNat (A.1 3 x.toInt.toNat) dy.toInt.toNat) : an_len A x f d dy = -3 ∧ nx_len A x f d dy = A := by unfold an_len nx_len; rw [c, if_pos rfl, if_neg (by omega), decide_eq_false (by omega)]; exact ⟨rfl, rfl⟩
theorem ln_t {A : Ab} {x f d dy : Int32} (c : ok_len A x f d dy = true) (y : A.2.2 0 + nd_ A x.toInt.toNat (A.1 3 x.toInt.toNat) dy.toInt.toNat ≤ 120) : an_len A x f d dy = nI (mi_ A x.toInt.toNat (A.1 3 x.toInt.toNat)) ∧ nx_len A x f d dy = nA_ A x.toInt.toNat (vL_ A x.toInt.toNat f d) (A.2.1 0 x.toInt.toNat) dy.toInt.toNat := by unfold an_len nx_len; rw [c, if_pos rfl, if_pos y, decide_eq_true y]; exact ⟨rfl, rfl⟩
theorem okl_t {A : Ab} {e : Nat} {f d dy : Int32} (hA : WA A) (he : e < A.2.2 0) (hk0 : A.1 0 e = 0) (hG : GW A.1 e) (h : okq_len A e f d dy = true) : mCq A e d dy = true ∧ GV (vL_ A e f d) ∧ f = nI f.toInt.toNat ∧ f.toInt.toNat < 10 ∧ A.1 2 e < 7 ∧ A.1 4 e < 12 := by
  unfold okq_len at h
  simp only [Bool.and_eq_true, decide_eq_true_eq] at h
  obtain ⟨h1, h2, h3, h4⟩ := h
  have h2 := wi_t.mp h2
  have g6 := hG.2.2.2.2.2.2.2.1
  obtain ⟨-, -, -, ⟨t, ht, ht2, ht3, ht4, -⟩, -⟩ := mCq_t hA he g6 h1
  have gb := hG.2.2.2.2.2.2.2.2.2.1 (Or.inl hk0)
  have gF := isF_nat.mp hG.2.1
  refine ⟨h1, ?_, (nI_toNat (by omega)).symm, by omega, h3, h4⟩
  exact GV_of (by omega) (isF_nat.mpr (snoc_F (by omega) gF)) (by omega) (by omega) hG.2.2.2.2.1 (by omega) (by omega) (by omega) (by omega) (fun _ => ⟨by omega, by omega, rfl, by omega⟩) (fun z => by omega) (fun z => by omega)
theorem dn_len {a : Nat} {M : Mm} {A : Ab} {x f d dy : Int32} {post : Int32 → Mm → Prop} (hS : SS a M A) (h : ∀ M1, DS a M1 (nx_len A x f d dy) → MS (a + 32) M1 A → post (an_len A x f d dy) M1) : PX10_lengthen a x f d dy M post := by
  obtain ⟨hD, hM, hA⟩ := id hS
  have hz := hD.1.2.2.2.2
  have hT0 : ddT M a = 11 := DW_T hD.1 (i := 0) (by decide)
  have hT1 : ddT M (a + 1) = 7 := DW_T hD.1 (by decide)
  have hDE := hD.2.2.2.2.1
  have no : ok_len A x f d dy = false → post (-2) M := fun c => by
    rw [(ln_f c).1, (ln_f c).2] at h
    exact h M hD hM
  refine ⟨hT0, a + 1, DW_R hD.1 (i := 0) (by decide), hT1, se_blockAt hD.1 hDE (fun c => co_none (no (by unfold ok_len; rw [c]; rfl)) rfl) (fun e q c c1 c2 c3 c4 c5 hq => co_some q ?_ rfl)⟩
  have hO := hq.2.2.2.1
  have hG := hO.2.2.2.2.2.2.2.2.1
  have hkl := GW_kl hG c4
  have g2 := hG.2.2.2.1
  have g4 := hG.2.2.2.2.2.1
  have g5 := hG.2.2.2.2.2.2.1
  have gw := hG.w
  have gb := hG.2.2.2.2.2.2.2.2.2.1 (Or.inl c4)
  have nq : okq_len A e f d dy = false → post (-2) M := fun z => no (by unfold ok_len; rw [← c2, z, Bool.and_false])
  refine se_within (bz (fun z => nq ?_) (fun z => ⟨hT0, se_canChange hD hA hq (bn (fun z2 => ⟨hq.T, fun v17 e17 => ?_⟩) (fun z2 => nq ?_))⟩))
  · unfold okq_len; rw [show wi_ f.toInt 0 9 = false from z, Bool.false_and, Bool.and_false]
  · have z : wi_ f.toInt 0 9 = true := z
    rw [hO.2.2.2.2.2.1, nI_1] at e17
    rw [hO.2.2.2.1, nI_1, e17]
    refine pk_lt 7 (A.1 2 e + 1) (fun y => nq ?_) (fun y => pk_le (A.1 4 e + 1) 12 (fun y1 v20 e20 => ⟨hT0, fun n22 e22 M23 E23 => ?_⟩) (fun y1 => nq ?_) rfl rfl (by omega) (by omega)) rfl rfl (by omega) (by omega)
    · unfold okq_len; rw [decide_eq_false (by omega : ¬ A.1 2 e < 7), Bool.false_and, Bool.and_false, Bool.and_false]
    · have okq : okq_len A e f d dy = true := by
        unfold okq_len
        rw [z2, z, decide_eq_true (by omega : A.1 2 e < 7), decide_eq_true (by omega : A.1 4 e < 12)]; rfl
      have ok : ok_len A x f d dy = true := by unfold ok_len; rw [c, ← c2, okq]; rfl
      obtain ⟨k1, k2, k3, k4, k5, k6⟩ := okl_t hA c3 c4 hG okq
      obtain ⟨j1, j2, j3, ⟨t, ht, ht2, ht3, ht4, -⟩, ⟨yd, hy1, hy2, hy3⟩⟩ := mCq_t hA c3 hG.2.2.2.2.2.2.2.1 k1
      have e20 : v20 = nI (A.1 1 e * 10 + f.toInt.toNat) := by
        rw [e20, hO.2.2.1, show (10 : Int32) = nI 10 from rfl, pk_mul, ← nI_add]
        congr 1
      have qz : q < ddZ M := hq.2.1.2
      subst e22
      have eI : ∀ k, ddI M23 q k = ddI M q k := fun k => by rw [E23, gI_N, if_neg (by omega)]
      refine ⟨by rw [E23, gT_N, if_neg (by omega)]; exact hq.T, ?_⟩
      rw [eI, eI, hq.2.2.2.2.1, hO.2.2.2.2.1, e20, E23]
      have key := se_init (M0 := M) (G := fun c _ => vL_ A e f d c) (j := 0) (ar := A.2.1 0 e) (post := fun M33 => ∃ aq34 : Nat, (ddR M a 0) = some aq34 ∧ (ddT M33 aq34 = 7 ∧ (PX6_change aq34 (some q) (some (ddZ M)) dy M33 (fun r37 M38 => post r37 M38)))) k2 (fun M33 hN => by
        have u33 := hN.1
        refine ⟨a + 1, DW_R hD.1 (i := 0) (by decide), by rw [u33.T (by omega)]; exact hT1, ?_⟩
        rw [hy1]
        have v3 : vL_ A e f d 3 = A.1 3 e := rfl
        refine se_change hS c3 c4 hq j2 k2 rfl hN hy2 (fun yy M1 g1 g2 => ?_) (fun yy M1 g1 g2 => ?_)
        · rw [v3, hy3, c2] at yy
          rw [(ln_u ok yy).1, (ln_u ok yy).2] at h
          exact h M1 g1 g2
        · rw [v3, hy3, c2] at yy
          rw [(ln_t ok yy).1, (ln_t ok yy).2, ← c2, ← hy3] at h
          rw [v3]
          exact h M1 g1 g2)
      have e6 : nI (vL_ A e f d 6) = d := by rw [show vL_ A e f d 6 = d.toInt.toNat from rfl, ← ht4]; exact ht.symm
      have key : PX2_init (ddZ M) 0 (A.2.1 0 e) (nI (A.1 1 e * 10 + f.toInt.toNat)) (nI (A.1 3 e)) (nI (A.1 4 e + 1)) (nI (A.1 4 e + 1)) (nI (vL_ A e f d 6)) (suN M 3 0) _ := key
      rw [e6] at key
      exact key
    · unfold okq_len; rw [decide_eq_false (by omega : ¬ A.1 4 e < 12), Bool.and_false, Bool.and_false, Bool.and_false]
  · unfold okq_len; rw [z2]; rfl
