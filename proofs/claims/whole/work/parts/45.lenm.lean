/-! lengthen: the model -/
theorem rs_self {so : Nat} (h : so < 1024) : rsN so so = 0 := (rs_0 h (fun _ q => q)).mpr rfl
theorem mn_len {m : Nat} {M : Mm} {A : Ab} {x f d dy : Int32} {post : Int32 → Mm → Prop} (hM : MS m M A) (hA : WA A) (hz : m + 33 ≤ ddZ M) (h : ∀ M1, MS m M1 (nx_len A x f d dy) → Un (fun b _ => m ≤ b ∧ b < m + 33) M M1 → post (an_len A x f d dy) M1) : PX11_lengthen m x f d dy M post := by
  obtain ⟨d1, d2, d3, d4, d5, d6, d7⟩ := id hM
  have h120 := d5.1
  have no : ok_len A x f d dy = false → post (-2) M := fun c => by
    rw [(ln_f c).1, (ln_f c).2] at h
    exact h M hM Un.rf
  refine ⟨d1.1, sp_mayChange hM hA (bz (fun c => no ?_) (fun c => ?_))⟩
  · unfold ok_len okq_len
    unfold mCh at c
    rw [Bool.and_eq_false_iff] at c
    rcases c with c | c
    · rw [c]; rfl
    · rw [c, Bool.false_and, Bool.and_false]
  unfold mCh at c
  rw [Bool.and_eq_true] at c
  obtain ⟨cB, cq⟩ := c
  have cB2 := cB
  unfold isB at cB2
  rw [Bool.and_eq_true, decide_eq_true_eq] at cB2
  obtain ⟨c1, c2⟩ := isE_t cB2.1
  have hk0 := cB2.2
  obtain ⟨e, el⟩ : ∃ e, e = x.toInt.toNat := ⟨_, rfl⟩
  rw [← el] at c1 c2 hk0 cq
  have nq : okq_len A e f d dy = false → post (-2) M := fun z => no (by unfold ok_len; rw [← el, z, Bool.and_false])
  obtain ⟨a1, a2, a3⟩ := d1.f4
  obtain ⟨b1, b2, b3⟩ := d1.f6
  have hin : vp_in (nI e) 130 := nI_in2 (by omega) (by decide)
  obtain ⟨⟨r0, r1, r3, r4, r5, r6, hG⟩, ⟨s0, s1, -⟩⟩ := d5.2.2 e c1
  have gs := hG.2.2.2.2.1
  have g2 := hG.2.2.2.1
  have g4 := hG.2.2.2.2.2.1
  have g5 := hG.2.2.2.2.2.2.1
  have gw := hG.w
  have hkl := GW_kl hG hk0
  have gb := hG.2.2.2.2.2.2.2.2.2.1 (Or.inl hk0)
  rw [c2, nI_cl (by omega)]
  refine sp_in (bz (fun z => nq (by rw [wd_T] at z; unfold okq_len; rw [show wi_ f.toInt 0 9 = false from z, Bool.false_and, Bool.and_false])) (fun z => ⟨d1.1, m + 3, a1, a2, by rw [a3]; exact hin, ?_⟩))
  rw [wd_T] at z
  have z : wi_ f.toInt 0 9 = true := z
  rw [r1]
  refine sp_lengthOf (by omega) hG.2.1 (by omega) ?_
  rw [show (7 : Int32) = nI 7 from rfl, nI_eq (by omega) (by omega)]
  refine ⟨fun z1 => nq (by unfold okq_len; rw [decide_eq_false (by omega : ¬ A.1 2 e < 7), Bool.false_and, Bool.and_false, Bool.and_false]), fun z1 => ⟨d1.1, m + 5, b1, b2, by rw [b3]; exact hin, ?_⟩⟩
  rw [r4, show (12 : Int32) = nI 12 from rfl, nI_eq (by omega) (by omega), d5.2.1]
  refine ⟨fun z2 => ?_, fun z2 => nq (by unfold okq_len; rw [decide_eq_false (by omega : ¬ A.1 4 e < 12), Bool.and_false, Bool.and_false, Bool.and_false])⟩
  have okq : okq_len A e f d dy = true := by
    unfold okq_len
    rw [cq, z, decide_eq_true (by omega : A.1 2 e < 7), decide_eq_true (by omega : A.1 4 e < 12)]; rfl
  have ok : ok_len A x f d dy = true := by unfold ok_len; rw [cB, ← el, okq]; rfl
  obtain ⟨k1, k2, k3, k4, k5, k6⟩ := okl_t hA c1 hk0 hG okq
  obtain ⟨j1, j2, j3, ⟨t, ht, ht2, ht3, ht4, -⟩, ⟨yd, hy1, hy2, hy3⟩⟩ := mCq_t hA c1 hG.2.2.2.2.2.2.2.1 k1
  obtain ⟨v, ev⟩ : ∃ v, v = vL_ A e f d := ⟨_, rfl⟩
  have v0 : v 0 = 0 := by rw [ev]; unfold vL_; exact vB0
  have v1 : v 1 = A.1 1 e * 10 + f.toInt.toNat := by rw [ev]; unfold vL_; exact vB1
  have v2 : v 2 = A.1 2 e + 1 := by rw [ev]; unfold vL_; exact vB2
  have v3 : v 3 = A.1 3 e := by rw [ev]; unfold vL_; exact vB3
  have v4 : v 4 = A.1 4 e + 1 := by rw [ev]; unfold vL_; exact vB4
  have v5 : v 5 = A.1 4 e + 1 := by rw [ev]; unfold vL_; exact vB5
  have v6 : nI (v 6) = d := by rw [ev, show vL_ A e f d 6 = d.toInt.toNat by unfold vL_; exact vB6, ← ht4]; exact ht.symm
  have hV : GV v := by rw [ev]; exact k2
  have gd : v 6 ≤ 20000 := hV.2.2.2.2.2.2.2.1
  have zr : rsN (A.1 3 e) (v 3) = 0 := by rw [v3]; exact rs_self gs
  have eB1 : B1_ A e (v 3) (v 6) = A := by unfold B1_; rw [if_pos zr]
  have key67 : ∀ sa sb : Int32, sa + sb = nI (A.2.2 0 + nd_ A e (v 3) yd) → BX11_lengthen_67 post m (nI e) f d dy sa sb M := fun sa sb hsum => by
    unfold BX11_lengthen_67
    rw [hsum, nI_cl (by omega)]
    have hndl : nd_ A e (v 3) yd ≤ 3 := by
      unfold nd_
      split <;> split <;> omega
    obtain ⟨t1, t2, t3⟩ := d1.f9
    refine pk_le (A.2.2 0 + nd_ A e (v 3) yd) 120 (fun hnd => ⟨d1.1, m + 8, t1, t2, by rw [t3]; exact hin, fun v51 e51 => ⟨by rw [t3]; exact hin, fun M53 E53 => ?_⟩⟩) (fun hnd => ?_) rfl rfl (by omega) (by omega)
    · rw [s1] at e51
      subst e51
      obtain ⟨m1, m2⟩ := nd_mi hnd
      have hmi := mi_le (A := A) (e := e) (v := v)
      have hA0 : MS m M (md_ A e (fun c => A.2.1 c e)) := by rw [md_id]; exact hM
      obtain ⟨q53, w53⟩ := ms_col (c := 1) hA0 hz c1 (by omega) (by omega) E53
      rw [md_uH (by decide)] at q53
      obtain ⟨t4, t5, t6⟩ := q53.1.f11
      have hz53 : m + 33 ≤ ddZ M53 := Nat.le_trans hz w53.1
      refine ⟨m + 10, t4, t5, by rw [t6]; exact hin, fun M58 E58 => ?_⟩
      obtain ⟨q58, w58⟩ := ms_col (c := 3) q53 hz53 c1 (by omega) (by omega) E58
      rw [md_uH (by decide)] at q58
      obtain ⟨t7, t8, t9⟩ := q58.1.f13
      obtain ⟨p1, p2, p3⟩ := q58.1.f5
      have hz58 : m + 33 ≤ ddZ M58 := Nat.le_trans hz53 w58.1
      obtain ⟨⟨-, -, x3, -⟩, -⟩ := q58.2.2.2.2.1.2.2 e c1
      rw [md_1] at x3
      refine ⟨m + 4, p1, p2, by rw [p3]; exact hin, m + 12, t7, t8, by rw [t9]; exact hin, fun M63 E63 => ?_⟩
      rw [x3] at E63
      obtain ⟨q63, w63⟩ := ms_col (c := 5) q58 hz58 c1 (by omega) (by omega) E63
      rw [md_uH (by decide)] at q63
      have hz63 : m + 33 ≤ ddZ M63 := Nat.le_trans hz58 w63.1
      have u63 : Un (fun b _ => m ≤ b ∧ b < m + 33) M M63 := ((w53.tr w58).tr w63).wk (fun b k _ z => by omega)
      obtain ⟨i1, i2, i3⟩ := q63.1.f3
      obtain ⟨i4, i5, i6⟩ := q63.1.f4
      obtain ⟨i7, i8, i9⟩ := q63.1.f5
      obtain ⟨i10, i11, i12⟩ := q63.1.f6
      obtain ⟨⟨x0, x1, x3, x4, x5, x6, -⟩, ⟨y0, -⟩⟩ := q63.2.2.2.2.1.2.2 e c1
      rw [md_1] at x1 x3 x4
      rw [md_2c (by decide)] at y0
      refine ⟨m + 2, i1, i2, by rw [i3]; exact hin, m + 3, i4, i5, by rw [i6]; exact hin, m + 4, i7, i8, by rw [i9]; exact hin, m + 5, i10, i11, by rw [i12]; exact hin, by rw [i12]; exact hin, ?_⟩
      rw [y0, x1, x3, x4, nI_1, show (10 : Int32) * nI (A.1 1 e) + f = nI (v 1) by rw [v1, show (10 : Int32) = nI 10 from rfl, pk_mul, Nat.mul_comm 10, ← nI_add, ← k3]]
      have key : PX11_add m (nI (v 0)) (A.2.1 0 e) (nI (v 1)) (nI (v 3)) (nI (v 4)) (nI (v 5)) (nI (v 6)) (A.2.1 1 e) (nI e) M63 (fun r63 M64 => ddT M64 m = 12 ∧ (∃ aq66 : Nat, (ddR M64 m 14) = some aq66 ∧ (ddT M64 aq66 = 20 ∧ (vp_in (nI e) (ddN M64 aq66) ∧ (∀ M70 : Mm, M70 = suI M64 aq66 e r63 → (∃ aq71 : Nat, (ddR M70 m 5) = some aq71 ∧ (ddT M70 aq71 = 20 ∧ (vp_in (nI e) (ddN M70 aq71) ∧ (PX11_park m (nI e) (ddI M70 aq71 e) r63 d dy (A.2.1 1 e) M70 (fun M76 => post r63 M76)))))))))) := sp_add (v := v) q63 hz63 (by rw [md_3]; have := hnd; unfold nd_ at this; omega) hV (fun _ => by rw [v2, v4]; omega) (fun M91 g1 w91 => by
        have eB2 : add_ A v (A.2.1 0 e) (A.2.1 1 e) (nI e) = B2_ A e v (A.2.1 0 e) := by unfold B2_; rw [eB1]
        rw [md_add (by omega), eB2] at g1
        obtain ⟨o1, o2, o3⟩ := g1.1.f14
        have hz91 : m + 33 ≤ ddZ M91 := Nat.le_trans hz63 w91.1
        refine ⟨g1.1.1, m + 13, o1, o2, by rw [o3]; exact hin, fun M97 E97 => ?_⟩
        have emi : mi_ A e (v 3) = A.2.2 0 := by unfold mi_; rw [if_pos zr]
        rw [md_3, ← emi] at E97
        rw [md_3, ← emi]
        obtain ⟨g2, w97⟩ := ms_col (c := 6) g1 hz91 (by rw [md_3, B2_n]; omega) (by omega) (by omega) E97
        rw [md_uH (by decide)] at g2
        obtain ⟨l1, l2, l3⟩ := g2.1.f5
        obtain ⟨⟨-, -, n3, -⟩, -⟩ := g2.2.2.2.2.1.2.2 e (by rw [md_3, B2_n]; omega)
        rw [md_1, B2_1 (Or.inl c1) (by omega), ← v3] at n3
        refine ⟨m + 4, l1, l2, by rw [l3]; exact hin, ?_⟩
        rw [n3, ← v6, hy1]
        refine sp_parkL g2 (Nat.le_trans hz91 w97.1) c1 hnd hG hk0 (fun c hc => ?_) gd (by rw [v3]; omega) (by rw [v3]; exact gs) hy2 (fun M1 g3 w1 => ?_)
        · rcases mcB_t.mp hc with y | y | y | y | y
          · subst y; exact v6.symm
          · subst y; exact v6.symm
          · subst y
            show A.2.1 4 e = if rsN (A.1 3 e) (v 3) = 0 then -1 else nI (A.2.2 0)
            rw [if_pos zr, j2]
          · subst y
            show nI (A.1 3 e) = nI (v 3)
            rw [v3]
          · subst y; rfl
        · have := hnd
          rw [v3, hy3, el] at this
          rw [(ln_t ok this).1, (ln_t ok this).2, ← el, ← hy3, ← ev, ← v3] at h
          exact h M1 g3 ((((u63.tr w91).tr w97).tr w1).wk (fun b k _ z => by omega)))
      rw [v0, v3, v4, v5, v6] at key
      exact key
    · have := hnd
      rw [v3, hy3, el] at this
      rw [(ln_u ok this).1, (ln_u ok this).2] at h
      exact h M hM Un.rf
  rw [hy1, nI_1]
  refine pk_le yd 0 (fun y0 => ?_) (fun y0 => ?_) rfl rfl (by omega) (by omega)
  · rw [← hy1]
    refine key67 _ _ ?_
    unfold nd_
    rw [if_pos zr, if_pos (show yd = 0 by omega)]
    exact Int32.add_zero _
  · rw [← hy1]
    refine key67 _ _ ?_
    unfold nd_
    rw [if_pos zr, if_neg (show ¬ yd = 0 by omega), nI_1]
/-! what holds of the numbers after a change -/
theorem wa_chg {A : Ab} {e : Nat} {v : Nat → Nat} {ar : Int32} {days : Nat} (hA : WA A) (he : e < A.2.2 0) (hk0 : A.1 0 e = 0) (hG : GW A.1 e) (hV : GV v) (hv0 : v 0 = 0) (hnd : A.2.2 0 + nd_ A e (v 3) days ≤ 120) (hsub : ∀ f, (v 3).testBit f = true → (A.1 3 e).testBit f = true) (har : ∃ z : Nat, ar = nI z ∧ z < 16) (hlen : v 4 - v 2 = A.1 4 e - A.1 2 e) (hd1 : A.1 6 e < v 6) (hd2 : ∀ u : Nat, A.2.1 1 e = nI u → u < 2 ^ 31 → v 6 < u) (hdy : days ≤ 1000) : WA (nA_ A e v ar days) := by
  obtain ⟨m1, m2⟩ := nd_mi hnd
  have hmi := mi_le (A := A) (e := e) (v := v)
  have gd : v 6 ≤ 20000 := hV.2.2.2.2.2.2.2.1
  have gs := hG.2.2.2.2.1
  have gv3 : v 3 < 1024 := hV.2.2.2.2.1
  have hen : A.2.1 1 e = -1 ∨ ∃ d : Nat, A.2.1 1 e = nI d ∧ v 6 < d ∧ d ≤ 21000 := by
    rcases (hA.2.2.2.1 e he).1 with z | ⟨u, z1, z2, z3⟩
    · exact Or.inl z
    · exact Or.inr ⟨u, z1, hd2 u z1 (by omega), z3⟩
  have hW1 : WA (B1_ A e (v 3) (v 6)) := by
    unfold B1_
    split
    · exact hA
    · rename_i zr
      have : A.2.2 0 < 120 := by unfold nd_ at hnd; omega
      exact wa_add hA this hen (fun _ => (hA.2.2.2.1 e he).2.1 hk0) (fun z => absurd (show (0 : Nat) = 3 from z) (by decide))
  have hW2 : WA (B2_ A e v ar) := wa_add hW1 (by rw [B1_n]; omega) hen (fun _ => har) (fun z => by omega)
  have bmi : ∀ c, c < 7 → (B2_ A e v ar).1 c (mi_ A e (v 3)) = v c := fun c hc => by
    have := ad_1s (A := B1_ A e (v 3) (v 6)) (v := v) (ar := ar) (en := A.2.1 1 e) (of' := nI e) (c := c) hc
    rw [B1_n] at this
    exact this
  have hW3 : WA (B3_ A e v ar days) := by
    unfold B3_
    split
    · exact hW2
    · rename_i hd0
      have m2 := m2 hd0
      refine wa_add hW2 (by rw [B2_n]; omega) ?_ (fun z => absurd (show (3 : Nat) = 0 from z) (by decide)) (fun _ => ⟨mi_ A e (v 3), rfl, by rw [B2_n]; omega, by rw [bmi 0 (by omega)]; exact hv0, bmi 3 (by omega), Nat.le_of_eq (bmi 6 (by omega)), by rw [bmi 4 (by omega), bmi 2 (by omega)]; exact hlen⟩)
      refine Or.inr ?_
      have vp6 : vP_ A e (v 3) (v 6) 6 = v 6 := rfl
      rw [vp6]
      unfold tl_
      rcases hen with z | ⟨u, z1, z2, z3⟩
      · rw [if_pos z]
        exact ⟨v 6 + days, rfl, by omega, by omega⟩
      · rw [z1, if_neg (nI_m1 (by omega))]
        split
        · exact ⟨u, rfl, z2, z3⟩
        · exact ⟨v 6 + days, rfl, by omega, by omega⟩
  have n3 : A.2.2 0 ≤ (B3_ A e v ar days).2.2 0 := by rw [B3_n]; omega
  have q3 : ∀ c j, j < A.2.2 0 → (B3_ A e v ar days).1 c j = A.1 c j := fun c j hj => B3_1 (Or.inl hj) hnd
  have b3mi : ∀ c, c < 7 → (B3_ A e v ar days).1 c (mi_ A e (v 3)) = v c := fun c hc => by
    unfold B3_
    split
    · exact bmi c hc
    · rw [ad_1n (by rw [B2_n]; omega)]; exact bmi c hc
  obtain ⟨w1, w2, w3, w4, w5, w6, w7, w8⟩ := hW3
  unfold nA_
  refine ⟨w1, w2, w3, fun j hj => ?_, fun l hl => ?_, w6, w7, fun o ho => ?_⟩
  · rw [md_3] at hj
    rw [md_1, md_3]
    by_cases hje : j = e
    · subst hje
      rw [md_2e (c := 1) (by decide), md_2e (c := 3) (by decide), md_2e (c := 4) (by decide), md_2e (c := 5) (by decide), md_2e (c := 6) (by decide), md_2c (c := 0) (by decide)]
      obtain ⟨-, k2, -, k4⟩ := w4 j hj
      refine ⟨Or.inr ⟨v 6, rfl, by rw [q3 6 j he]; exact hd1, by omega⟩, k2, Or.inr ⟨by rw [q3 0 j he]; exact hk0, v 6, mi_ A j (v 3), v 3, rfl, gd, rfl, by omega, by rw [B3_n]; omega, rfl, gv3, by rw [b3mi 0 (by omega)]; exact hv0, b3mi 3 (by omega), b3mi 6 (by omega), by rw [b3mi 4 (by omega), b3mi 2 (by omega), q3 4 j he, q3 2 j he]; exact hlen, ?_⟩, k4⟩
      by_cases zr : rsN (A.1 3 j) (v 3) = 0
      · refine Or.inl ⟨?_, by rw [q3 3 j he]; exact (rs_0 gs hsub).mp zr⟩
        show (if rsN (A.1 3 j) (v 3) = 0 then (-1 : Int32) else _) = -1
        rw [if_pos zr]
      · have emi : mi_ A j (v 3) = A.2.2 0 + 1 := by unfold mi_; rw [if_neg zr]
        have b1n : ∀ c, c < 7 → (B3_ A j v ar days).1 c (A.2.2 0) = vR_ A j (v 3) (v 6) c := fun c hc => by
          have e1 : (B1_ A j (v 3) (v 6)).1 c (A.2.2 0) = vR_ A j (v 3) (v 6) c := by unfold B1_; rw [if_neg zr]; exact ad_1s hc
          have e2 : (B2_ A j v ar).1 c (A.2.2 0) = vR_ A j (v 3) (v 6) c := by unfold B2_; rw [ad_1n (by rw [B1_n]; omega)]; exact e1
          unfold B3_
          split
          · exact e2
          · rw [ad_1n (by rw [B2_n]; omega)]; exact e2
        refine Or.inr ⟨A.2.2 0, ?_, he, by rw [B3_n]; omega, b1n 0 (by omega), b1n 6 (by omega), by rw [b1n 4 (by omega), b1n 2 (by omega), q3 4 j he, q3 2 j he]; rfl, fun f hf => ?_⟩
        · show (if rsN (A.1 3 j) (v 3) = 0 then (-1 : Int32) else nI (A.2.2 0)) = nI (A.2.2 0)
          rw [if_neg zr]
        · rw [b1n 3 (by omega), q3 3 j he]
          exact rs_bit gs
    · rw [md_2n hje, md_2n hje, md_2n hje, md_2n hje, md_2n hje, md_2n hje]
      exact w4 j hj
  · rw [md_1, md_3, md_2c (c := 10) (by decide)]
    exact w5 l hl
  · rw [md_1, md_2c (c := 0) (by decide), md_2n (by omega)]
    exact w8 o ho
theorem wa_split {A : Ab} {x s p ar d dy : Int32} (hA : WA A) (hGW : ∀ e, e < A.2.2 0 → GW A.1 e) : WA (nx_spl A x s p ar d dy) := by
  unfold nx_spl
  split
  · next hc =>
    rw [Bool.and_eq_true, decide_eq_true_eq] at hc
    have hc1 := hc.1
    unfold ok_split isB at hc1
    simp only [Bool.and_eq_true, decide_eq_true_eq] at hc1
    obtain ⟨⟨cE, c4⟩, okq⟩ := hc1
    obtain ⟨c1, -⟩ := isE_t cE
    have hG := hGW _ c1
    obtain ⟨k1, k2, k3, k4, k5, k6, k7, k8, k9, k10, k11, k12, k13⟩ := okq_t hA c1 c4 hG okq
    obtain ⟨j1, j2, j3, ⟨t, ht, ht2, ht3, ht4, ht5⟩, ⟨yd, hy1, hy2, hy3⟩⟩ := mCq_t hA c1 hG.2.2.2.2.2.2.2.1 k1
    have v2 : vS_ A x.toInt.toNat s p d 2 = np_ p := by unfold vS_; exact vB2
    have v3 : vS_ A x.toInt.toNat s p d 3 = s.toInt.toNat := by unfold vS_; exact vB3
    have v4 : vS_ A x.toInt.toNat s p d 4 = np_ p + (A.1 4 x.toInt.toNat - A.1 2 x.toInt.toNat) := by unfold vS_; exact vB4
    have v6 : vS_ A x.toInt.toNat s p d 6 = t := by rw [ht4]; unfold vS_; exact vB6
    refine wa_chg hA c1 c4 hG k2 (by unfold vS_; exact vB0) (by rw [v3]; exact hc.2) (by rw [v3]; exact k12) k9 (by rw [v4, v2]; omega) (by rw [v6]; exact ht3) (by rw [v6]; exact ht5) (by rw [← hy3]; exact hy2)
  · exact hA
theorem wa_len {A : Ab} {x f d dy : Int32} (hA : WA A) (hGW : ∀ e, e < A.2.2 0 → GW A.1 e) : WA (nx_len A x f d dy) := by
  unfold nx_len
  split
  · next hc =>
    rw [Bool.and_eq_true, decide_eq_true_eq] at hc
    have hc1 := hc.1
    unfold ok_len isB at hc1
    simp only [Bool.and_eq_true, decide_eq_true_eq] at hc1
    obtain ⟨⟨cE, c4⟩, okq⟩ := hc1
    obtain ⟨c1, -⟩ := isE_t cE
    have hG := hGW _ c1
    obtain ⟨k1, k2, k3, k4, k5, k6⟩ := okl_t hA c1 c4 hG okq
    obtain ⟨j1, j2, j3, ⟨t, ht, ht2, ht3, ht4, ht5⟩, ⟨yd, hy1, hy2, hy3⟩⟩ := mCq_t hA c1 hG.2.2.2.2.2.2.2.1 k1
    have hkl := GW_kl hG c4
    have v2 : vL_ A x.toInt.toNat f d 2 = A.1 2 x.toInt.toNat + 1 := by unfold vL_; exact vB2
    have v3 : vL_ A x.toInt.toNat f d 3 = A.1 3 x.toInt.toNat := by unfold vL_; exact vB3
    have v4 : vL_ A x.toInt.toNat f d 4 = A.1 4 x.toInt.toNat + 1 := by unfold vL_; exact vB4
    have v6 : vL_ A x.toInt.toNat f d 6 = t := by rw [ht4]; unfold vL_; exact vB6
    refine wa_chg hA c1 c4 hG k2 (by unfold vL_; exact vB0) (by rw [v3]; exact hc.2) (by rw [v3]; exact fun _ q => q) ((hA.2.2.2.1 _ c1).2.1 c4) (by rw [v4, v2]; omega) (by rw [v6]; exact ht3) (by rw [v6]; exact ht5) (by rw [← hy3]; exact hy2)
  · exact hA
