/-! relief: the model -/
def qkB (A : Ab) (s o : Nat) : Bool := (List.range (A.2.2 3)).all (fun q => !(!decide (q = o) && (s.testBit q && (decide (A.1 6 (121 + q) ≤ A.1 6 (121 + o)) && clB A.1 (121 + o) (121 + q)))))
def mb1 (A : Ab) (s o : Nat) : Bool := !s.testBit o || (!decide (A.1 6 (121 + o) < A.2.2 4) && (!clE A o && qkB A s o))
def mayB (A : Ab) (s : Nat) : Bool := (List.range (A.2.2 3)).all (mb1 A s) && decide (A.2.2 0 + ct_ (fun f => s.testBit f) (A.2.2 3) ≤ 120)
theorem sp_mayAll {m : Nat} {M : Mm} {A : Ab} {s : Nat} {post : Int32 → Mm → Prop} (hM : MS m M A) (hA : WA A) (hs : s < 2 ^ 30) (h : post (b2_ (mayB A s)) M) : PX11_mayAll m (nI s) M post := by
  obtain ⟨d1, d2, d3, d4, d5, d6, d7⟩ := id hM
  have w1 := hA.1
  have hk : ddI M m 0 = nI (A.2.2 4) := d2
  obtain ⟨m1, m2, m3⟩ := id d7
  have h120 := d5.1
  obtain ⟨a1, a2, a3⟩ := d1.f8
  have e121 : ∀ i, (121 : Int32) + nI i = nI (121 + i) := fun i => by rw [show (121 : Int32) = nI 121 from rfl, nI_add]
  have bad : ∀ o, o < A.2.2 3 → mb1 A s o = false → post 0 M := fun o ho hb => by
    have : mayB A s = false := by unfold mayB; rw [all_no (i := o) ho hb]; rfl
    rw [this] at h
    exact h
  refine pk_loop (fun fu i (n : Int32) => DX11_mayAll_4 post fu m (nI s) n (nI i) M) (fun i n => n = nI (ct_ (fun f => s.testBit f) i) ∧ ∀ o, o < i → mb1 A s o = true) (A.2.2 3) 0 0 (by omega) ⟨rfl, fun o ho => by omega⟩ (fun fu n hn => ?_) (fun fu i n hi hn hk4 => ?_)
  · show BX11_mayAll_4 (DX11_mayAll_4 post fu) post m (nI s) n (nI (A.2.2 3)) M
    unfold BX11_mayAll_4
    have hct := ct_le (f := fun f => s.testBit f) (A.2.2 3)
    rw [d5.2.1, hn.1, nI_add]
    have eall : (List.range (A.2.2 3)).all (mb1 A s) = true := all_lt.mpr hn.2
    unfold mayB at h
    rw [eall, Bool.true_and] at h
    refine ⟨d1.1, pk_le (A.2.2 3) (A.2.2 3) (fun _ => pk_lt 120 (A.2.2 0 + ct_ (fun f => s.testBit f) (A.2.2 3)) (fun y => ?_) (fun y => ?_) rfl rfl (by omega) (by omega)) (fun z => by omega) m2 rfl (by omega) (by omega)⟩
    · rw [decide_eq_false (by omega)] at h; exact h
    · rw [decide_eq_true y] at h; exact h
  · show BX11_mayAll_4 (DX11_mayAll_4 post fu) post m (nI s) n (nI i) M
    unfold BX11_mayAll_4
    obtain ⟨q1, q2, q3, q4⟩ := m3 i hi
    obtain ⟨r0, r1, r3, r4, r5, r6, hG⟩ := id q1
    have g6 := hG.2.2.2.2.2.2.2.1
    rw [nI_1 i, e121, sh_bit (by omega) (by omega)]
    refine ⟨d1.1, pk_le (A.2.2 3) i (fun z => by omega) (fun _ => bn (fun z v5 e5 => ?_) (fun z => hk4 n ⟨?_, fun o ho => ?_⟩)) m2 rfl (by omega) (by omega)⟩
    · subst e5
      rw [nI_cl (by omega), hk]
      refine ⟨m + 7, a1, a2, by rw [a3]; exact nI_in2 (by omega) (by decide), fun v10 e10 => ?_⟩
      rw [r6] at e10
      rw [e10, hn.1, nI_1]
      refine pk_le (A.2.2 4) (A.1 6 (121 + i)) (fun y => ?_) (fun y => bad i hi (by unfold mb1; rw [z, decide_eq_true y]; rfl)) rfl rfl (by omega) (by omega)
      have early : decide (A.1 6 (121 + i) < A.2.2 4) = false := decide_eq_false (by omega)
      refine pk_loop (fun f2 e (_ : Unit) => DX11_mayAll_55 (DX11_mayAll_4 post fu) post f2 m (nI s) (nI (ct_ (fun f => s.testBit f) i + 1)) (nI i) (nI (121 + i)) (nI (A.1 6 (121 + i))) (nI e) M) (fun e _ => ex_ (fun e => inF A e (nI (A.1 6 (121 + i))) && clB A.1 e (121 + i)) e = false) (A.2.2 0) 0 () (by omega) rfl (fun f2 _ he => ?_) (fun f2 e _ he2 he hk55 => ?_)
      · show BX11_mayAll_55 (DX11_mayAll_4 post fu) (DX11_mayAll_55 (DX11_mayAll_4 post fu) post f2) post m (nI s) (nI (ct_ (fun f => s.testBit f) i + 1)) (nI i) (nI (121 + i)) (nI (A.1 6 (121 + i))) (nI (A.2.2 0)) M
        have hcE : clE A i = false := he
        refine ⟨d1.1, pk_le (A.2.2 0) (A.2.2 0) (fun _ => ?_) (fun z => by omega) d5.2.1 rfl (by omega) (by omega)⟩
        refine pk_loop (fun f3 q (_ : Unit) => DX11_mayAll_97 (DX11_mayAll_4 post fu) post f3 m (nI s) (nI (ct_ (fun f => s.testBit f) i + 1)) (nI i) (nI (121 + i)) (nI (A.1 6 (121 + i))) (nI q) M) (fun p _ => ∀ q, q < p → q ≠ i → s.testBit q = true → A.1 6 (121 + q) ≤ A.1 6 (121 + i) → clB A.1 (121 + i) (121 + q) = false) (A.2.2 3) 0 () (by omega) (fun q hq => by omega) (fun f3 _ hq => ?_) (fun f3 p _ hp hq hk97 => ?_)
        · show BX11_mayAll_97 (DX11_mayAll_4 post fu) (DX11_mayAll_97 (DX11_mayAll_4 post fu) post f3) post m (nI s) (nI (ct_ (fun f => s.testBit f) i + 1)) (nI i) (nI (121 + i)) (nI (A.1 6 (121 + i))) (nI (A.2.2 3)) M
          unfold BX11_mayAll_97
          rw [nI_1 i]
          refine ⟨d1.1, pk_le (A.2.2 3) (A.2.2 3) (fun _ => hk4 _ ⟨by rw [ct_t z], fun o ho => ?_⟩) (fun z => by omega) m2 rfl (by omega) (by omega)⟩
          rcases Nat.lt_or_ge o i with y1 | y1
          · exact hn.2 o y1
          · rw [show o = i by omega]
            have hqk : qkB A s i = true := all_lt.mpr (fun q hq2 => by
              by_cases h1 : q = i
              · rw [decide_eq_true h1]; rfl
              · cases h2 : s.testBit q with
                | false => rw [decide_eq_false h1]; rfl
                | true =>
                  by_cases h3 : A.1 6 (121 + q) ≤ A.1 6 (121 + i)
                  · rw [hq q hq2 h1 h2 h3, Bool.and_false, Bool.and_false, Bool.and_false]; rfl
                  · rw [decide_eq_false h3, Bool.false_and, Bool.and_false, Bool.and_false]; rfl)
            unfold mb1
            rw [z, early, hcE, hqk]; rfl
        · show BX11_mayAll_97 (DX11_mayAll_4 post fu) (DX11_mayAll_97 (DX11_mayAll_4 post fu) post f3) post m (nI s) (nI (ct_ (fun f => s.testBit f) i + 1)) (nI i) (nI (121 + i)) (nI (A.1 6 (121 + i))) (nI p) M
          unfold BX11_mayAll_97
          obtain ⟨t1, t2, t3, t4⟩ := m3 p hp
          have tg6 := t1.2.2.2.2.2.2.2.2.2.2.2.2.2.1
          rw [nI_1 p, e121, nI_cl (n := 121 + p) (by omega), sh_bit (f := p) (by omega) (by omega), nI_eq (by omega) (by omega)]
          have no : (p ≠ i → s.testBit p = true → A.1 6 (121 + p) ≤ A.1 6 (121 + i) → clB A.1 (121 + i) (121 + p) = false) → DX11_mayAll_97 (DX11_mayAll_4 post fu) post f3 m (nI s) (nI (ct_ (fun f => s.testBit f) i + 1)) (nI i) (nI (121 + i)) (nI (A.1 6 (121 + i))) (nI (p + 1)) M := fun y1 => hk97 () (fun q h1 h2 h3 h4 => by
            rcases Nat.lt_or_ge q p with y2 | y2
            · exact hq q y2 h2 h3 h4
            · rw [show q = p by omega] at h2 h3 h4 ⊢
              exact y1 h2 h3 h4)
          refine ⟨d1.1, pk_le (A.2.2 3) p (fun z => by omega) (fun _ => ⟨fun y1 => no (fun y2 => absurd y1 y2), fun y1 => ⟨fun y2 => no (fun _ y3 => ?_), fun y2 => ⟨m + 7, a1, a2, by rw [a3]; exact nI_in2 (by omega) (by decide), ?_⟩⟩⟩) m2 rfl (by omega) (by omega)⟩
          · rw [b2_n1] at y2; rw [y2] at y3; cases y3
          · rw [b2_1] at y2
            rw [t1.2.2.2.2.2.1]
            refine pk_lt (A.1 6 (121 + i)) (A.1 6 (121 + p)) (fun y3 => no (fun _ _ y4 => by omega)) (fun y3 => sp_isPair d1 q1 t1 (by omega) (by omega) (bz (fun y4 => no (fun _ _ _ => y4)) (fun y4 => bad i hi ?_))) rfl rfl (by omega) (by omega)
            have hqk : qkB A s i = false := all_no (i := p) hp (by rw [decide_eq_false y1, y2, decide_eq_true y3, y4]; rfl)
            unfold mb1
            rw [z, early, hqk, Bool.and_false]; rfl
      · show BX11_mayAll_55 (DX11_mayAll_4 post fu) (DX11_mayAll_55 (DX11_mayAll_4 post fu) post f2) post m (nI s) (nI (ct_ (fun f => s.testBit f) i + 1)) (nI i) (nI (121 + i)) (nI (A.1 6 (121 + i))) (nI e) M
        unfold BX11_mayAll_55
        rw [nI_1 e]
        have no : (inF A e (nI (A.1 6 (121 + i))) && clB A.1 e (121 + i)) = false → DX11_mayAll_55 (DX11_mayAll_4 post fu) post f2 m (nI s) (nI (ct_ (fun f => s.testBit f) i + 1)) (nI i) (nI (121 + i)) (nI (A.1 6 (121 + i))) (nI (e + 1)) M := fun y1 => hk55 () (by show (ex_ _ e || _) = false; rw [he]; exact y1)
        refine ⟨d1.1, pk_le (A.2.2 0) e (fun z => by omega) (fun _ => sp_inF d1 d5 he2 (bz (fun y1 => no (by rw [y1]; rfl)) (fun y1 => ⟨d1.1, sp_isPair d1 q1 (d5.2.2 e he2).1 (by omega) (by omega) (bz (fun y2 => no (by rw [clB_sym, y2, Bool.and_false])) (fun y2 => bad i hi ?_))⟩))) d5.2.1 rfl (by omega) (by omega)⟩
        have hcE : clE A i = true := ex_t he2 (by rw [y1, clB_sym, y2]; rfl)
        unfold mb1
        rw [z, hcE, early]; rfl
    · rw [hn.1, ct_f z]
    · rcases Nat.lt_or_ge o i with y1 | y1
      · exact hn.2 o y1
      · rw [show o = i by omega]
        unfold mb1
        rw [z]; rfl
def reB (A : Ab) (j s now w : Nat) : Bool := decide (sw_ A j (nI j) s (A.2.2 4 / 7) = -1) || decide (nI (now + w) ≤ sw_ A j (nI j) s (A.2.2 4 / 7))
def pMo (A : Ab) (j now w s : Nat) : Bool := mayB A s && reB A j s now w
theorem reB_t {A : Ab} {j s now w : Nat} (h1 : A.2.2 4 / 7 ≤ now) (h2 : now ≤ 2000) (h3 : ∀ t, A.2.2 4 / 7 ≤ t → t < now → as_ A j t ≤ rmW A (nI j) t) (hw : 1 ≤ w) (hw2 : w ≤ 2000) : reB A j s now w = true ↔ ∀ t, now ≤ t → t ≤ la_ now w → as_ A j t ≤ rmW A (nI j) t + oW_ A (nI j) s t := by
  have hla : la_ now w ≤ 2000 ∧ la_ now w ≤ now + w - 1 := by unfold la_; split <;> omega
  have hla2 : ∀ t, t ≤ 2000 → t ≤ now + w - 1 → t ≤ la_ now w := fun t q1 q2 => by unfold la_; split <;> omega
  unfold reB
  rcases ff_cases (f := fun t => decide (A.2.2 4 / 7 ≤ t) && decide (rmW A (nI j) t + oW_ A (nI j) s t < as_ A j t)) (n := 2001) (by omega) with ⟨z1, z2⟩ | ⟨t, z1, z2, z3, z4⟩
  · have e1 : sw_ A j (nI j) s (A.2.2 4 / 7) = -1 := z1
    rw [e1, decide_eq_true rfl, Bool.true_or]
    refine ⟨fun _ t q1 q2 => ?_, fun _ => rfl⟩
    have := z2 t (by omega)
    rw [decide_eq_true (by omega : A.2.2 4 / 7 ≤ t), Bool.true_and, decide_eq_false_iff_not] at this
    omega
  · have e1 : sw_ A j (nI j) s (A.2.2 4 / 7) = nI t := z2
    rw [Bool.and_eq_true, decide_eq_true_eq, decide_eq_true_eq] at z3
    rw [e1, decide_eq_false (nI_m1 (by omega)), Bool.false_or, decide_eq_true_eq, nI_leI (by omega) (by omega)]
    constructor
    · intro q t' q1 q2
      have := z4 t' (by omega)
      rw [decide_eq_true (by omega : A.2.2 4 / 7 ≤ t'), Bool.true_and, decide_eq_false_iff_not] at this
      omega
    · intro q
      rcases Nat.lt_or_ge t now with y | y
      · have := h3 t z3.1 y; omega
      · rcases Nat.lt_or_ge t (now + w) with y1 | y1
        · have := q t y (hla2 t (by omega) (by omega)); omega
        · exact y1
theorem mn_rel0 {m : Nat} {M : Mm} {A : Ab} {x w : Int32} {post : Int32 → Mm → Prop} (hM : MS m M A) (hA : WA A) (hz : m + 33 ≤ ddZ M) (h0 : (wi_ x.toInt 0 15 && wi_ w.toInt 1 2000) = false → post (-2) M)
    (h : ∀ M1 j wn, x = nI j → j = x.toInt.toNat → j < 16 → w = nI wn → wn = w.toInt.toNat → 1 ≤ wn → wn ≤ 2000 → (wi_ x.toInt 0 15 && wi_ w.toInt 1 2000) = true → MS m M1 A → Un (fun b _ => m ≤ b ∧ b < m + 33) M M1 → (fs_ A j (nI j) (A.2.2 4 / 7) = -1 → post (-1) M1) ∧ (∀ now, A.2.2 4 / 7 ≤ now → now ≤ 2000 → fs_ A j (nI j) (A.2.2 4 / 7) = nI now → rmW A (nI j) now < as_ A j now → (∀ t, A.2.2 4 / 7 ≤ t → t < now → as_ A j t ≤ rmW A (nI j) t) → post (pM (bq_ (pMo A j now wn) (cs_ A) (2 ^ A.2.2 3))) M1)) : PX11_relief m x w M post := by
  refine sp_in (bz (fun z => h0 ?_) (fun z => sp_in (bn (fun z1 => ⟨hM.1.1, sp_makeBase hM hA hz (fun M1 u hB => ?_)⟩) (fun z1 => h0 ?_))))
  · rw [wd_T] at z
    rw [show wi_ x.toInt 0 15 = false from z]; rfl
  · rw [wd_T] at z z1
    have z : wi_ x.toInt 0 15 = true := z
    have z1 : wi_ w.toInt 1 2000 = true := z1
    have zw := wi_t.mp z1
    obtain ⟨j, ej, hj, ex⟩ := wi_nI (n := 15) z
    obtain ⟨wn, ewn⟩ : ∃ wn, wn = w.toInt.toNat := ⟨_, rfl⟩
    have ew : w = nI wn := by rw [ewn]; exact (nI_toNat (by omega)).symm
    have sM := MS_scr hM hz u (fun b k z => Or.inr (Or.inr z))
    obtain ⟨d1, d2, d3, d4, d5, d6, d7⟩ := id sM
    obtain ⟨m1, m2, m3⟩ := id d7
    have hp := p2_8 m1
    obtain ⟨g1, g2, g3⟩ := d1.f36
    obtain ⟨f1, f2⟩ := h M1 j wn ex ej (by omega) ew ewn (by omega) (by omega) (by rw [z, z1]; rfl) sM (u.wk (fun b k _ z => by omega))
    refine ⟨sM.1.1, ?_⟩
    rw [ex] at hB ⊢
    refine sp_shortWith (s := 0) sM hA (by omega) (by omega) hB ?_
    rw [sw_0]
    rcases fs_cases A j (nI j) (A.2.2 4 / 7) with ⟨e1, -⟩ | ⟨now, n1, n2, e1, n3, n4⟩
    · rw [e1]
      exact ⟨fun q => absurd rfl q, fun _ => f1 e1⟩
    · have fin := f2 now n1 n2 e1 n3 n4
      rw [e1, ew]
      refine ⟨fun _ => ?_, fun q => absurd q (nI_m1 (by omega))⟩
      refine pk_loop (fun fu i (st : Int32 × Int32) => DX11_relief_55 post fu m (nI j) (nI wn) (nI now) st.1 st.2 (nI i) M1) (fun i st => 1 ≤ i ∧ st.1 = pM (bq_ (pMo A j now wn) (cs_ A) i) ∧ ∀ b, bq_ (pMo A j now wn) (cs_ A) i = some b → st.2 = nI (cs_ A b)) (2 ^ A.2.2 3) 1 (-1, 0) (Nat.pow_pos (by decide)) ⟨by omega, rfl, fun b hb => by cases hb⟩ (fun fu st hst => ?_) (fun fu i st hi hst hk2 => ?_)
      · show BX11_relief_55 (DX11_relief_55 post fu) post m (nI j) (nI wn) (nI now) st.1 st.2 (nI (2 ^ A.2.2 3)) M1
        unfold BX11_relief_55
        rw [m2, sh1_ _ (by omega)]
        refine ⟨d1.1, pk_le (2 ^ A.2.2 3) (2 ^ A.2.2 3) (fun _ => ?_) (fun q => by omega) rfl rfl (by omega) (by omega)⟩
        rw [hst.2.1]; exact fin
      · show BX11_relief_55 (DX11_relief_55 post fu) post m (nI j) (nI wn) (nI now) st.1 st.2 (nI i) M1
        unfold BX11_relief_55
        obtain ⟨i1, i2, i3⟩ := hst
        rw [m2, sh1_ _ (by omega)]
        refine ⟨d1.1, pk_le (2 ^ A.2.2 3) i (fun q => by omega) (fun _ => ?_) rfl rfl (by omega) (by omega)⟩
        have no : pMo A j now wn i = false → DX11_relief_55 post fu m (nI j) (nI wn) (nI now) st.1 st.2 (nI (i + 1)) M1 := fun q => hk2 st ⟨by omega, by rw [bq_s i1, bup_f q]; exact i2, by rw [bq_s i1, bup_f q]; exact i3⟩
        have hcl : cs_ A i ≤ 8000000 := cs_lt (s := i) hA m1 (A.2.2 3) (Nat.le_refl _)
        have upd : (bq_ (pMo A j now wn) (cs_ A) i = none ∨ ∃ b, bq_ (pMo A j now wn) (cs_ A) i = some b ∧ cs_ A i < cs_ A b) → BX11_relief_127 (DX11_relief_55 post fu) post m (nI j) (nI wn) (nI now) st.1 st.2 (nI i) (nI (cs_ A i)) M1 := fun hb => by
          unfold BX11_relief_127
          rw [nI_1, nI_add]
          have up2 : pMo A j now wn i = true → DX11_relief_55 post fu m (nI j) (nI wn) (nI now) (nI i) (nI (cs_ A i)) (nI (i + 1)) M1 := fun hP => by
            have hb2 : bq_ (pMo A j now wn) (cs_ A) (i + 1) = some i := by
              rw [bq_s i1]
              rcases hb with hb | ⟨b, hb, hb3⟩
              · rw [hb, bup_n hP]
              · rw [hb, bup_l hP hb3]
            exact hk2 (nI i, nI (cs_ A i)) ⟨by omega, by rw [hb2]; rfl, fun b hb3 => by rw [hb2] at hb3; cases hb3; rfl⟩
          refine ⟨d1.1, sp_mayAll sM hA (by omega) (bn (fun y => ⟨d1.1, sp_shortWith sM hA (by omega) (by omega) hB ⟨fun y1 => up2 ?_, fun y1 => ⟨fun y2 => up2 ?_, fun y2 => no ?_⟩⟩⟩) (fun y => no (by unfold pMo; rw [y]; rfl)))⟩
          · unfold pMo reB; rw [y, y1, decide_eq_true rfl]; rfl
          · unfold pMo reB; rw [y, decide_eq_true y2, Bool.or_true]; rfl
          · unfold pMo reB; rw [y, decide_eq_false y1, decide_eq_false y2]; rfl
        refine pk_loop (fun f2 o (n : Int32) => DX11_relief_72 (DX11_relief_55 post fu) post f2 m (nI j) (nI wn) (nI now) st.1 st.2 (nI i) n (nI o) M1) (fun o n => n = nI (sm_ (fun o => if i.testBit o then A.1 50 o else 0) o)) (A.2.2 3) 0 0 (by omega) rfl (fun f2 n hn => ?_) (fun f2 o n ho hn hk3 => ?_)
        · show BX11_relief_72 (DX11_relief_55 post fu) (DX11_relief_72 (DX11_relief_55 post fu) post f2) post m (nI j) (nI wn) (nI now) st.1 st.2 (nI i) n (nI (A.2.2 3)) M1
          unfold BX11_relief_72
          have hn : n = nI (cs_ A i) := hn
          rw [nI_1 i, hn]
          refine ⟨d1.1, pk_le (A.2.2 3) (A.2.2 3) (fun _ => ?_) (fun q => by omega) m2 rfl (by omega) (by omega)⟩
          cases hob : bq_ (pMo A j now wn) (cs_ A) i with
          | none =>
            have e3 : st.1 = -1 := by rw [i2, hob]; rfl
            exact ⟨fun _ => upd (Or.inl hob), fun y => absurd e3 y⟩
          | some b =>
            have hbl := bq_lt hob
            have e3 : st.1 = nI b := by rw [i2, hob]; rfl
            have e4 := i3 b hob
            have hcb : cs_ A b ≤ 8000000 := cs_lt (s := b) hA m1 (A.2.2 3) (Nat.le_refl _)
            refine ⟨fun y => absurd (e3.symm.trans y) (nI_m1 (by omega)), fun _ => ?_⟩
            refine pk_le (cs_ A b) (cs_ A i) (fun y => hk2 st ⟨by omega, ?_, ?_⟩) (fun y => upd (Or.inr ⟨b, hob, y⟩)) e4 rfl (by omega) (by omega)
            · rw [bq_s i1, hob, bup_g y]; exact e3
            · rw [bq_s i1, hob, bup_g y]; intro b' hb'; cases hb'; exact e4
        · show BX11_relief_72 (DX11_relief_55 post fu) (DX11_relief_72 (DX11_relief_55 post fu) post f2) post m (nI j) (nI wn) (nI now) st.1 st.2 (nI i) n (nI o) M1
          unfold BX11_relief_72
          rw [nI_1 o, sh_bit (by omega) (by omega), nI_cl (by omega)]
          refine ⟨d1.1, pk_le (A.2.2 3) o (fun q => by omega) (fun _ => ⟨fun q v e => hk3 v ?_, fun q => ⟨m + 31, g1, g2, by rw [g3]; exact nI_in2 (by omega) (by decide), fun v e => hk3 v ?_⟩⟩) m2 rfl (by omega) (by omega)⟩
          · rw [b2_n1] at q
            rw [e, hn, sm_s, q]
            exact Int32.add_zero _
          · rw [b2_1] at q
            rw [e, hn, (m3 o ho).2.2.2, nI_add, sm_s, q]; rfl
  · rw [wd_T] at z1
    rw [show wi_ w.toInt 1 2000 = false from z1, Bool.and_false]
/-! both scans find the same -/
def bf_ (p : Nat → Bool) : Nat → Nat
  | 0 => 0
  | o + 1 => if p o then bf_ p o ||| 2 ^ o else bf_ p o
theorem bf_bit {p : Nat → Bool} {f : Nat} : ∀ n, (bf_ p n).testBit f = (decide (f < n) && p f)
  | 0 => by rw [show bf_ p 0 = 0 from rfl, Nat.zero_testBit, decide_eq_false (by omega)]; rfl
  | n + 1 => by
    have ih := bf_bit (p := p) (f := f) n
    show (if p n then bf_ p n ||| 2 ^ n else bf_ p n).testBit f = _
    by_cases hfn : f = n
    · subst hfn
      rw [decide_eq_true (by omega : f < f + 1), Bool.true_and]
      split
      · next hu => rw [Nat.testBit_or, tb_pow, decide_eq_true rfl, Bool.or_true, hu]
      · next hu => rw [ih, decide_eq_false (by omega)]; simpa using hu
    · have e1 : decide (f < n + 1) = decide (f < n) := by
        by_cases h : f < n
        · rw [decide_eq_true h, decide_eq_true (by omega)]
        · rw [decide_eq_false h, decide_eq_false (by omega)]
      rw [e1]
      split
      · rw [Nat.testBit_or, tb_pow, decide_eq_false (fun z => hfn z.symm), Bool.or_false, ih]
      · exact ih
theorem sm_le2 {f g : Nat → Nat} : ∀ {n : Nat}, (∀ i, i < n → f i ≤ g i) → sm_ f n ≤ sm_ g n
  | 0, _ => Nat.le_refl _
  | n + 1, h => by
    have := sm_le2 (f := f) (g := g) (n := n) (fun i hi => h i (by omega))
    have := h n (by omega)
    rw [sm_s, sm_s]; omega
theorem mb1_t {A : Ab} {s o : Nat} (h : mb1 A s o = true) (hb : s.testBit o = true) : ¬ A.1 6 (121 + o) < A.2.2 4 ∧ clE A o = false ∧ ∀ q, q < A.2.2 3 → q ≠ o → s.testBit q = true → A.1 6 (121 + q) ≤ A.1 6 (121 + o) → clB A.1 (121 + o) (121 + q) = false := by
  unfold mb1 at h
  rw [hb, Bool.not_true, Bool.false_or, Bool.and_eq_true, Bool.and_eq_true] at h
  obtain ⟨h1, h2, h3⟩ := h
  refine ⟨by simpa using h1, by simpa using h2, fun q hq hne hbq hle => ?_⟩
  have := all_lt.mp h3 q hq
  rw [decide_eq_false hne, hbq, decide_eq_true hle] at this
  simpa using this
theorem hib {s n f : Nat} (h : s < 2 ^ n) (hf : n ≤ f) : s.testBit f = false := Nat.testBit_lt_two_pow (Nat.lt_of_lt_of_le h (Nat.pow_le_pow_right (by decide) hf))
theorem ct_10 {s n : Nat} (h : s < 2 ^ n) (hn : n ≤ 10) : ct_ (fun f => s.testBit f) 10 = ct_ (fun f => s.testBit f) n := by
  have e : 10 = n + (10 - n) := by omega
  rw [e]
  exact ct_far (fun i h1 _ => hib h h1)
theorem good_ {A : Ab} {j s s' now w : Nat} (h8 : A.2.2 3 ≤ 8) (hla : ∀ b, (∀ t, now ≤ t → t ≤ la_ now w → as_ A j t ≤ rmW A (nI j) t + oW_ A (nI j) b t) ↔ reB A j b now w = true) (hs' : s' < 2 ^ A.2.2 3) (h1 : ∀ o, s'.testBit o = true → o < A.2.2 3 ∧ s.testBit o = true ∧ A.2.1 0 (121 + o) = nI j) (h2 : ∀ o, o < A.2.2 3 → s.testBit o = true → A.2.1 0 (121 + o) = nI j → s'.testBit o = true) (hP : pMo A j now w s = true) : pD_ A j now (la_ now w) s' = true := by
  unfold pMo mayB at hP
  rw [Bool.and_eq_true, Bool.and_eq_true, decide_eq_true_eq] at hP
  obtain ⟨⟨p1, p2⟩, p3⟩ := hP
  have p1 := all_lt.mp p1
  have hp := p2_8 h8
  have e1 : rsN s' (us_ A (nI j) (A.2.2 3)) = 0 := by
    apply Nat.eq_of_testBit_eq
    intro f
    rw [rs_bit (by omega), Nat.zero_testBit]
    cases hb : s'.testBit f with
    | false => rfl
    | true =>
      obtain ⟨q1, q2, q3⟩ := h1 f hb
      obtain ⟨t1, t2, -⟩ := mb1_t (p1 f q1) q2
      rw [us_bit, decide_eq_true q1]
      unfold uB
      rw [decide_eq_true q3, decide_eq_false t1, t2]; rfl
  have e2 : A.2.2 0 + ct_ (fun f => s'.testBit f) 10 ≤ 120 := by
    rw [ct_10 hs' (by omega)]
    have := ct_sub (f := fun f => s'.testBit f) (g := fun f => s.testBit f) (n := A.2.2 3) (fun i _ hb => (h1 i hb).2.1)
    omega
  have e3 : cvS A j s' now (la_ now w) = true := by
    rw [cvS_t]
    have hw := (hla s).mpr p3
    intro t q1 q2
    have := hw t q1 q2
    have eo : oS_ A s' t = oW_ A (nI j) s t := by
      refine sm_cg (fun o ho => ?_)
      unfold op_
      by_cases hc : s'.testBit o = true ∧ A.1 6 (121 + o) ≤ 7 * t
      · obtain ⟨x1, x2, x3⟩ := h1 o hc.1
        rw [if_pos hc, if_pos ⟨x2, x3, hc.2⟩]
      · rw [if_neg hc, if_neg (fun z => hc ⟨h2 o ho z.1 z.2.1, z.2.2⟩)]
    rw [eo]; exact this
  have e4 : npB A s' = true := np_t.mpr (fun o p q1 q2 q3 q4 => by
    obtain ⟨x1, x2, -⟩ := h1 o q3
    obtain ⟨y1, y2, -⟩ := h1 p q4
    rcases Nat.le_total (A.1 6 (121 + p)) (A.1 6 (121 + o)) with z | z
    · exact (mb1_t (p1 o x1) x2).2.2 p y1 (by omega) y2 z
    · rw [clB_sym]
      exact (mb1_t (p1 p y1) y2).2.2 o x1 (by omega) x2 z)
  unfold pD_
  rw [decide_eq_true e1, decide_eq_true e2, e3, e4]; rfl
theorem rel_eq {A : Ab} {j now w : Nat} (h8 : A.2.2 3 ≤ 8) (h1 : A.2.2 4 / 7 ≤ now) (h2 : now ≤ 2000) (hsh : rmW A (nI j) now < as_ A j now) (h3 : ∀ t, A.2.2 4 / 7 ≤ t → t < now → as_ A j t ≤ rmW A (nI j) t) (hw : 1 ≤ w) (hw2 : w ≤ 2000) : bq_ (pD_ A j now (la_ now w)) (cs_ A) (2 ^ A.2.2 3) = bq_ (pMo A j now w) (cs_ A) (2 ^ A.2.2 3) := by
  have hla : ∀ b, (∀ t, now ≤ t → t ≤ la_ now w → as_ A j t ≤ rmW A (nI j) t + oW_ A (nI j) b t) ↔ reB A j b now w = true := fun b => (reB_t h1 h2 h3 hw hw2).symm
  have hnl : now ≤ la_ now w := by unfold la_; split <;> omega
  have hp := p2_8 h8
  refine bq_eq (N := 2 ^ A.2.2 3) (fun s hs hP => ?_) (fun s hs1 hs hQ hP => ?_) _ (Nat.le_refl _)
  · unfold pD_ at hP
    rw [Bool.and_eq_true, Bool.and_eq_true, Bool.and_eq_true, decide_eq_true_eq, decide_eq_true_eq] at hP
    obtain ⟨p1, p2, p3, p4⟩ := hP
    have ub : ∀ o, s.testBit o = true → o < A.2.2 3 ∧ uB A (nI j) o = true := fun o hb => by
      have := rs_bit (so := s) (s := us_ A (nI j) (A.2.2 3)) (f := o) (by omega)
      rw [p1, Nat.zero_testBit, hb, Bool.true_and, us_bit] at this
      have this : (decide (o < A.2.2 3) && uB A (nI j) o) = true := by simpa using this.symm
      rw [Bool.and_eq_true, decide_eq_true_eq] at this
      exact this
    have uc : ∀ o, s.testBit o = true → A.2.1 0 (121 + o) = nI j ∧ ¬ A.1 6 (121 + o) < A.2.2 4 ∧ clE A o = false := fun o hb => by
      have := (ub o hb).2
      unfold uB at this
      rw [Bool.and_eq_true, Bool.and_eq_true, decide_eq_true_eq] at this
      exact ⟨this.1, by simpa using this.2.1, by simpa using this.2.2⟩
    have eM : mayB A s = true := by
      unfold mayB
      rw [Bool.and_eq_true, decide_eq_true_eq]
      refine ⟨all_lt.mpr (fun o ho => ?_), by rw [ct_10 hs (by omega)] at p2; exact p2⟩
      unfold mb1
      cases hb : s.testBit o with
      | false => rfl
      | true =>
        obtain ⟨u1, u2, u3⟩ := uc o hb
        have hqk : qkB A s o = true := all_lt.mpr (fun q hq => by
          by_cases y1 : q = o
          · rw [decide_eq_true y1]; rfl
          · cases y2 : s.testBit q with
            | false => rw [decide_eq_false y1]; rfl
            | true =>
              have : clB A.1 (121 + o) (121 + q) = false := by
                rcases Nat.lt_or_ge o q with z | z
                · exact np_t.mp p4 o q z hq hb y2
                · rw [clB_sym]; exact np_t.mp p4 q o (by omega) ho y2 hb
              rw [this, Bool.and_false, Bool.and_false, Bool.and_false]; rfl)
        rw [decide_eq_false u2, u3, hqk]; rfl
    have eR : reB A j s now w = true := (hla s).mp (fun t q1 q2 => by
      have := cvS_t.mp p3 t q1 q2
      have eo : oS_ A s t = oW_ A (nI j) s t := by
        refine sm_cg (fun o ho => ?_)
        unfold op_
        by_cases hc : s.testBit o = true ∧ A.1 6 (121 + o) ≤ 7 * t
        · rw [if_pos hc, if_pos ⟨hc.1, (uc o hc.1).1, hc.2⟩]
        · rw [if_neg hc, if_neg (fun z => hc ⟨z.1, z.2.2⟩)]
      rw [← eo]; exact this)
    unfold pMo
    rw [eM, eR]; rfl
  · obtain ⟨s', es'⟩ : ∃ s', s' = bf_ (fun o => s.testBit o && decide (A.2.1 0 (121 + o) = nI j)) (A.2.2 3) := ⟨_, rfl⟩
    have b1 : ∀ o, s'.testBit o = true → o < A.2.2 3 ∧ s.testBit o = true ∧ A.2.1 0 (121 + o) = nI j := fun o hb => by
      rw [es', bf_bit, Bool.and_eq_true, Bool.and_eq_true, decide_eq_true_eq, decide_eq_true_eq] at hb
      exact hb
    have b2 : ∀ o, o < A.2.2 3 → s.testBit o = true → A.2.1 0 (121 + o) = nI j → s'.testBit o = true := fun o q1 q2 q3 => by
      rw [es', bf_bit, decide_eq_true q1, q2, decide_eq_true q3]; rfl
    have hle : s' ≤ s := by
      have : s' &&& s = s' := by
        apply Nat.eq_of_testBit_eq
        intro f
        rw [Nat.testBit_and]
        cases hb : s'.testBit f with
        | false => rfl
        | true => rw [(b1 f hb).2.1]; rfl
      rw [← this]
      exact Nat.and_le_right
    have hg := good_ h8 hla (by omega) b1 b2 hQ
    have hne : s' ≠ s := fun z => by rw [z, hP] at hg; cases hg
    have hpos : 1 ≤ s' := by
      rcases Nat.eq_zero_or_pos s' with z | z
      · exfalso
        unfold pD_ at hg
        rw [Bool.and_eq_true, Bool.and_eq_true, Bool.and_eq_true] at hg
        have := cvS_t.mp hg.2.2.1 now (Nat.le_refl _) hnl
        have e0 : oS_ A s' now = 0 := by
          have : ∀ n, sm_ (fun o => if s'.testBit o = true ∧ A.1 6 (121 + o) ≤ 7 * now then nu_ A.1 (121 + o) else 0) n = 0 := fun n => by
            induction n with
            | zero => rfl
            | succ n ih => rw [sm_s, ih, if_neg (fun q => by rw [z, Nat.zero_testBit] at q; exact absurd q.1 (by decide))]
          exact this _
        omega
      · exact z
    refine ⟨s', hpos, by omega, hg, ?_⟩
    refine sm_le2 (fun o ho => ?_)
    cases hb : s'.testBit o with
    | false => rw [if_neg (by decide)]; exact Nat.zero_le _
    | true => rw [if_pos rfl, if_pos (b1 o hb).2.1]; exact Nat.le_refl _
theorem mn_rel {m : Nat} {M : Mm} {A : Ab} {x w : Int32} {post : Int32 → Mm → Prop} (hM : MS m M A) (hA : WA A) (hz : m + 33 ≤ ddZ M) (h : ∀ M1, MS m M1 A → Un (fun b _ => m ≤ b ∧ b < m + 33) M M1 → post (an_rel A x w) M1) : PX11_relief m x w M post := by
  unfold an_rel at h
  refine mn_rel0 hM hA hz (fun z => ?_) (fun M1 j wn ex ej hj ew ewn hw1 hw2 z sM u => ?_)
  · rw [z] at h; exact h M hM Un.rf
  · have fin := h M1 sM u
    rw [z, if_pos rfl, ← ej, ← ewn] at fin
    unfold rl_ at fin
    refine ⟨fun q => ?_, fun now n1 n2 e1 n3 n4 => ?_⟩
    · rw [q, if_pos rfl] at fin; exact fin
    · rw [e1, if_neg (nI_m1 (by omega)), toNat_nI (by omega), rel_eq sM.2.2.2.2.2.2.1 n1 n2 n3 n4 hw1 hw2] at fin
      exact fin
