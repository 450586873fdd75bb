/-! service -/
def ok_serv (A : Ab) (p s d : Int32) : Bool := wi_ (npI p.toInt).toInt 2 7 && (wi_ s.toInt 0 99 && isD A d)
def v_serv (p d : Int32) : Nat → Nat := vB_ 1 p.toInt.toNat (npI p.toInt).toInt.toNat 0 (npI p.toInt).toInt.toNat (npI p.toInt).toInt.toNat d.toInt.toNat
def an_serv (A : Ab) (p s d : Int32) : Int32 := if ok_serv A p s d then (if A.2.2 0 = 120 then -3 else nI (A.2.2 0)) else -2
def nx_serv (A : Ab) (p s d : Int32) : Ab := if ok_serv A p s d && !decide (A.2.2 0 = 120) then add_ A (v_serv p d) s (-1) (-1) else A
theorem ok_serv_t {A : Ab} {p s d : Int32} (h : ok_serv A p s d = true) : GV (v_serv p d) ∧ nI (v_serv p d 1) = p ∧ nI (v_serv p d 3) = 0 ∧ nI (v_serv p d 4) = npI p.toInt ∧ nI (v_serv p d 5) = npI p.toInt ∧ nI (v_serv p d 6) = d := by
  unfold ok_serv isD at h
  simp only [Bool.and_eq_true] at h
  obtain ⟨h2, h3, h5⟩ := h
  obtain ⟨np, q1, q2, q3, q4, q5⟩ := npI_in h2 (by omega)
  have h5 := wi_t.mp h5
  have hp : 0 ≤ p.toInt := by have := q2.1; have : (1 : Int) ≤ 10 ^ np := Int.pow_pos (by decide); omega
  have en : (npI p.toInt).toInt.toNat = np := by rw [q3, toNat_nI (by omega)]
  have ep : ((p.toInt.toNat : Nat) : Int) = p.toInt := by omega
  unfold v_serv
  simp only [vB0, vB1, vB2, vB3, vB4, vB5, vB6]
  rw [en, q3]
  exact ⟨GV_of (by omega) (by rw [ep]; exact q2) (by omega) (by omega) (by omega) (by omega) (by omega) (by omega) (by omega) (fun q => by omega) (fun q => ⟨rfl, rfl, rfl⟩) (fun q => by omega), nI_toNat hp, rfl, rfl, rfl, nI_toNat (by omega)⟩
theorem an_serv_f {A : Ab} {p s d : Int32} (c : ok_serv A p s d = false) : an_serv A p s d = -2 ∧ nx_serv A p s d = A := by
  unfold an_serv nx_serv; rw [c]; exact ⟨rfl, rfl⟩
theorem an_serv_u {A : Ab} {p s d : Int32} (c : ok_serv A p s d = true) (e : A.2.2 0 = 120) : an_serv A p s d = -3 ∧ nx_serv A p s d = A := by
  unfold an_serv nx_serv; rw [c, e]; exact ⟨rfl, rfl⟩
theorem an_serv_t {A : Ab} {p s d : Int32} (c : ok_serv A p s d = true) (e : A.2.2 0 ≠ 120) : an_serv A p s d = nI (A.2.2 0) ∧ nx_serv A p s d = add_ A (v_serv p d) s (-1) (-1) := by
  unfold an_serv nx_serv; rw [c, if_pos rfl, if_neg e, decide_eq_false e]; exact ⟨rfl, rfl⟩
theorem v_serv_0 {p d : Int32} : v_serv p d 0 = 1 := by unfold v_serv; exact vB0
theorem dn_serv {a : Nat} {M : Mm} {A : Ab} {p s d : Int32} {post : Int32 → Mm → Prop} (hS : SS a M A) (h : ∀ M1, DS a M1 (nx_serv A p s d) → MS (a + 32) M1 A → post (an_serv A p s d) M1) : PX10_service a p s d M post := by
  obtain ⟨hD, hM, hW⟩ := hS
  have hT0 : ddT M a = 11 := DW_T hD.1 (i := 0) (by decide)
  have no : ok_serv A p s d = false → post (-2) M := fun c => by
    rw [(an_serv_f c).1, (an_serv_f c).2] at h
    exact h M hD hM
  refine se_plI (se_within (bz (fun c => no ?_) (fun c => se_within (bz (fun c1 => no ?_) (fun c1 => ⟨hT0, se_toCome hD hW (bn (fun c2 => ⟨hT0, fun n9 e9 M10 e10 => ?_⟩) (fun c2 => no ?_))⟩)))))
  · unfold ok_serv; rw [show wi_ (npI p.toInt).toInt 2 7 = false from c]; rfl
  · unfold ok_serv; rw [show wi_ s.toInt 0 99 = false from c1]; simp
  · subst e9 e10
    have ok : ok_serv A p s d = true := by unfold ok_serv isD; rw [show wi_ (npI p.toInt).toInt 2 7 = true from c, show wi_ s.toInt 0 99 = true from c1, c2]; rfl
    obtain ⟨g1, g2, g3, g4, g5, g6⟩ := ok_serv_t ok
    have := se_newapp (post := post) (v := v_serv p d) (ar := s) hD hM hW g1 (by rw [v_serv_0]; omega) (fun e M1 hd hm => by
      rw [(an_serv_u ok e).1, (an_serv_u ok e).2] at h; exact h M1 hd hm) (fun e M1 hd hm => by
      rw [(an_serv_t ok (by omega)).1, (an_serv_t ok (by omega)).2] at h; exact h M1 hd hm)
    rw [g2, g3, g4, g5, g6, v_serv_0] at this
    exact this
  · unfold ok_serv isD; rw [c2]; simp
theorem mn_serv {m : Nat} {M : Mm} {A : Ab} {p s d : Int32} {post : Int32 → Mm → Prop} (hM : MS m M A) (hW : WA A) (hz : m + 33 ≤ ddZ M) (h : ∀ M1, MS m M1 (nx_serv A p s d) → Un (fun b _ => m ≤ b ∧ b < m + 33) M M1 → post (an_serv A p s d) M1) : PX11_service m p s d M post := by
  have hE := hM.2.2.2.2.1
  have no : ok_serv A p s d = false → post (-2) M := fun c => by
    rw [(an_serv_f c).1, (an_serv_f c).2] at h
    exact h M hM Un.rf
  refine sp_lenI (sp_in (bz (fun c => no ?_) (fun c => sp_in (bz (fun c1 => no ?_) (fun c1 => ⟨hM.1.1, sp_isFree hM hW (bn (fun c2 => ⟨hM.1.1, ?_⟩) (fun c2 => no ?_))⟩)))))
  · rw [wd_T] at c
    unfold ok_serv; rw [show wi_ (npI p.toInt).toInt 2 7 = false from c]; rfl
  · rw [wd_T] at c1
    unfold ok_serv; rw [show wi_ s.toInt 0 99 = false from c1]; simp
  · rw [wd_T] at c c1
    have ok : ok_serv A p s d = true := by unfold ok_serv; rw [show wi_ (npI p.toInt).toInt 2 7 = true from c, show wi_ s.toInt 0 99 = true from c1, c2]; rfl
    obtain ⟨g1, g2, g3, g4, g5, g6⟩ := ok_serv_t ok
    have h0 := hE.1
    rw [hE.2.1, show (120 : Int32) = nI 120 from rfl, nI_eq (by omega) (by omega)]
    refine ⟨fun c => ?_, fun c => ?_⟩
    · rw [(an_serv_t ok c).1, (an_serv_t ok c).2] at h
      have := sp_add (post := post) (v := v_serv p d) (ar := s) (en := -1) (of' := -1) hM hz (by omega) g1 (fun z => by rw [v_serv_0] at z; omega) (fun M1 k1 k2 => h M1 k1 (k2.wk (fun b k _ q => by omega)))
      rw [g2, g3, g4, g5, g6, v_serv_0] at this
      exact this
    · rw [(an_serv_u ok c).1, (an_serv_u ok c).2] at h
      exact h M hM Un.rf
  · unfold ok_serv; rw [c2]; simp
theorem wa_serv {A : Ab} {p s d : Int32} (hW : WA A) (h120 : A.2.2 0 ≤ 120) : WA (nx_serv A p s d) := by
  unfold nx_serv
  split
  · next h =>
    rw [Bool.and_eq_true] at h
    have hn : A.2.2 0 ≠ 120 := by simpa using h.2
    exact wa_add hW (by omega) (Or.inl rfl) (fun q => by rw [v_serv_0] at q; omega) (fun q => by rw [v_serv_0] at q; omega)
  · exact hW
/-! foreign -/
def ok_forg (A : Ab) (p lo hi d : Int32) : Bool := wi_ (npI p.toInt).toInt 1 4 && (isD A d && (wi_ lo.toInt (npI p.toInt + 1).toInt 15 && wi_ hi.toInt lo.toInt 15))
def v_forg (p lo hi d : Int32) : Nat → Nat := vB_ 2 p.toInt.toNat (npI p.toInt).toInt.toNat 0 lo.toInt.toNat hi.toInt.toNat d.toInt.toNat
def an_forg (A : Ab) (p lo hi d : Int32) : Int32 := if ok_forg A p lo hi d then (if A.2.2 0 = 120 then -3 else nI (A.2.2 0)) else -2
def nx_forg (A : Ab) (p lo hi d : Int32) : Ab := if ok_forg A p lo hi d && !decide (A.2.2 0 = 120) then add_ A (v_forg p lo hi d) (-1) (-1) (-1) else A
theorem ok_forg_t {A : Ab} {p lo hi d : Int32} (h : ok_forg A p lo hi d = true) : GV (v_forg p lo hi d) ∧ nI (v_forg p lo hi d 1) = p ∧ nI (v_forg p lo hi d 3) = 0 ∧ nI (v_forg p lo hi d 4) = lo ∧ nI (v_forg p lo hi d 5) = hi ∧ nI (v_forg p lo hi d 6) = d := by
  unfold ok_forg isD at h
  simp only [Bool.and_eq_true] at h
  obtain ⟨h2, h5, h3, h4⟩ := h
  obtain ⟨np, q1, q2, q3, q4, q5⟩ := npI_in h2 (by omega)
  have h5 := wi_t.mp h5
  have h3 := wi_t.mp h3
  have h4 := wi_t.mp h4
  rw [q3, nI_1, nI_T (by omega)] at h3
  have hp : 0 ≤ p.toInt := by have := q2.1; have : (1 : Int) ≤ 10 ^ np := Int.pow_pos (by decide); omega
  have en : (npI p.toInt).toInt.toNat = np := by rw [q3, toNat_nI (by omega)]
  have ep : ((p.toInt.toNat : Nat) : Int) = p.toInt := by omega
  unfold v_forg
  simp only [vB0, vB1, vB2, vB3, vB4, vB5, vB6]
  rw [en]
  exact ⟨GV_of (by omega) (by rw [ep]; exact q2) (by omega) (by omega) (by omega) (by omega) (by omega) (by omega) (by omega) (fun q => by omega) (fun q => by omega) (fun q => ⟨rfl, by omega⟩), nI_toNat hp, rfl, nI_toNat (by omega), nI_toNat (by omega), nI_toNat (by omega)⟩
theorem an_forg_f {A : Ab} {p lo hi d : Int32} (c : ok_forg A p lo hi d = false) : an_forg A p lo hi d = -2 ∧ nx_forg A p lo hi d = A := by
  unfold an_forg nx_forg; rw [c]; exact ⟨rfl, rfl⟩
theorem an_forg_u {A : Ab} {p lo hi d : Int32} (c : ok_forg A p lo hi d = true) (e : A.2.2 0 = 120) : an_forg A p lo hi d = -3 ∧ nx_forg A p lo hi d = A := by
  unfold an_forg nx_forg; rw [c, e]; exact ⟨rfl, rfl⟩
theorem an_forg_t {A : Ab} {p lo hi d : Int32} (c : ok_forg A p lo hi d = true) (e : A.2.2 0 ≠ 120) : an_forg A p lo hi d = nI (A.2.2 0) ∧ nx_forg A p lo hi d = add_ A (v_forg p lo hi d) (-1) (-1) (-1) := by
  unfold an_forg nx_forg; rw [c, if_pos rfl, if_neg e, decide_eq_false e]; exact ⟨rfl, rfl⟩
theorem v_forg_0 {p lo hi d : Int32} : v_forg p lo hi d 0 = 2 := by unfold v_forg; exact vB0
theorem dn_forg {a : Nat} {M : Mm} {A : Ab} {p lo hi d : Int32} {post : Int32 → Mm → Prop} (hS : SS a M A) (h : ∀ M1, DS a M1 (nx_forg A p lo hi d) → MS (a + 32) M1 A → post (an_forg A p lo hi d) M1) : PX10_foreign a p lo hi d M post := by
  obtain ⟨hD, hM, hW⟩ := hS
  have hT0 : ddT M a = 11 := DW_T hD.1 (i := 0) (by decide)
  have no : ok_forg A p lo hi d = false → post (-2) M := fun c => by
    rw [(an_forg_f c).1, (an_forg_f c).2] at h
    exact h M hD hM
  refine se_plI (se_within (bz (fun c => no ?_) (fun c => ⟨hT0, se_toCome hD hW (bn (fun c2 => ⟨fun z => no ?_, fun z => ⟨fun z1 => no ?_, fun z1 => ⟨fun z2 => ⟨hT0, fun n9 e9 M10 e10 => ?_⟩, fun z2 => no ?_⟩⟩⟩) (fun c2 => no ?_))⟩)))
  · unfold ok_forg; rw [show wi_ (npI p.toInt).toInt 1 4 = false from c]; rfl
  · obtain ⟨np, q1, q2, q3, q4, q5⟩ := npI_in (show wi_ (npI p.toInt).toInt 1 4 = true from c) (by omega)
    unfold ok_forg
    have : wi_ lo.toInt (npI p.toInt + 1).toInt 15 = false := wi_f.mpr (by
      rw [xi_le, q3, nI_T (by omega)] at z
      rw [q3, nI_1, nI_T (by omega)]
      omega)
    rw [this]; simp
  · unfold ok_forg
    have : wi_ hi.toInt lo.toInt 15 = false := wi_f.mpr (by rw [xi_lt] at z1; omega)
    rw [this]; simp
  · subst e9 e10
    have c' : wi_ (npI p.toInt).toInt 1 4 = true := c
    have ok : ok_forg A p lo hi d = true := by
      obtain ⟨np, q1, q2, q3, q4, q5⟩ := npI_in c' (by omega)
      unfold ok_forg isD
      rw [xi_le, q3, nI_T (by omega)] at z
      rw [xi_lt] at z1
      have z2 : hi.toInt ≤ 15 := (xi_le _ _).mp z2
      rw [c', c2, show wi_ lo.toInt (npI p.toInt + 1).toInt 15 = true from wi_t.mpr (by rw [q3, nI_1, nI_T (by omega)]; omega), show wi_ hi.toInt lo.toInt 15 = true from wi_t.mpr (by omega)]; rfl
    obtain ⟨g1, g2, g3, g4, g5, g6⟩ := ok_forg_t ok
    have := se_newapp (post := post) (v := v_forg p lo hi d) (ar := -1) hD hM hW g1 (by rw [v_forg_0]; omega) (fun e M1 hd hm => by
      rw [(an_forg_u ok e).1, (an_forg_u ok e).2] at h; exact h M1 hd hm) (fun e M1 hd hm => by
      rw [(an_forg_t ok (by omega)).1, (an_forg_t ok (by omega)).2] at h; exact h M1 hd hm)
    rw [g2, g3, g4, g5, g6, v_forg_0] at this
    exact this
  · unfold ok_forg
    have : wi_ hi.toInt lo.toInt 15 = false := wi_f.mpr (by
      rw [xi_le] at z2
      have z2 : ¬ hi.toInt ≤ 15 := z2
      omega)
    rw [this]; simp
  · unfold ok_forg isD; rw [c2]; simp
theorem mn_forg {m : Nat} {M : Mm} {A : Ab} {p lo hi d : Int32} {post : Int32 → Mm → Prop} (hM : MS m M A) (hW : WA A) (hz : m + 33 ≤ ddZ M) (h : ∀ M1, MS m M1 (nx_forg A p lo hi d) → Un (fun b _ => m ≤ b ∧ b < m + 33) M M1 → post (an_forg A p lo hi d) M1) : PX11_foreign m p lo hi d M post := by
  have hE := hM.2.2.2.2.1
  have no : ok_forg A p lo hi d = false → post (-2) M := fun c => by
    rw [(an_forg_f c).1, (an_forg_f c).2] at h
    exact h M hM Un.rf
  refine sp_lenI (sp_in (bz (fun c => no ?_) (fun c => sp_in (bz (fun c1 => no ?_) (fun c1 => sp_in (bz (fun c3 => no ?_) (fun c3 => ⟨hM.1.1, sp_isFree hM hW (bn (fun c2 => ⟨hM.1.1, ?_⟩) (fun c2 => no ?_))⟩)))))))
  · rw [wd_T] at c
    unfold ok_forg; rw [show wi_ (npI p.toInt).toInt 1 4 = false from c]; rfl
  · rw [wd_T, wd_T] at c1
    unfold ok_forg; rw [show wi_ lo.toInt (npI p.toInt + 1).toInt 15 = false from c1]; simp
  · rw [wd_T, wd_T] at c3
    unfold ok_forg; rw [show wi_ hi.toInt lo.toInt 15 = false from c3]; simp
  · rw [wd_T] at c
    rw [wd_T, wd_T] at c1 c3
    have ok : ok_forg A p lo hi d = true := by unfold ok_forg; rw [show wi_ (npI p.toInt).toInt 1 4 = true from c, show wi_ lo.toInt (npI p.toInt + 1).toInt 15 = true from c1, show wi_ hi.toInt lo.toInt 15 = true from c3, c2]; rfl
    obtain ⟨g1, g2, g3, g4, g5, g6⟩ := ok_forg_t ok
    have h0 := hE.1
    rw [hE.2.1, show (120 : Int32) = nI 120 from rfl, nI_eq (by omega) (by omega)]
    refine ⟨fun c => ?_, fun c => ?_⟩
    · rw [(an_forg_t ok c).1, (an_forg_t ok c).2] at h
      have := sp_add (post := post) (v := v_forg p lo hi d) (ar := -1) (en := -1) (of' := -1) hM hz (by omega) g1 (fun z => by rw [v_forg_0] at z; omega) (fun M1 k1 k2 => h M1 k1 (k2.wk (fun b k _ q => by omega)))
      rw [g2, g3, g4, g5, g6, v_forg_0] at this
      exact this
    · rw [(an_forg_u ok c).1, (an_forg_u ok c).2] at h
      exact h M hM Un.rf
  · unfold ok_forg; rw [c2]; simp
theorem wa_forg {A : Ab} {p lo hi d : Int32} (hW : WA A) (h120 : A.2.2 0 ≤ 120) : WA (nx_forg A p lo hi d) := by
  unfold nx_forg
  split
  · next h =>
    rw [Bool.and_eq_true] at h
    have hn : A.2.2 0 ≠ 120 := by simpa using h.2
    exact wa_add hW (by omega) (Or.inl rfl) (fun q => by rw [v_forg_0] at q; omega) (fun q => by rw [v_forg_0] at q; omega)
  · exact hW
