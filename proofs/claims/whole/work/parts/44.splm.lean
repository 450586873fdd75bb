/-! split, lengthen: the model -/
theorem ms_col {m : Nat} {M M' : Mm} {A : Ab} {c e : Nat} {v : Int32} (hM : MS m M A) (hz : m + 33 ≤ ddZ M) (he : e < A.2.2 0) (hc : 1 ≤ c) (hc6 : c ≤ 6) (E : M' = suI M (m + (c + 7)) e v) : MS m M' (uH_ A c e v) ∧ Un (fun b k => b = m + (c + 7) ∧ k = e) M M' := by
  have hE := hM.2.2.2.2.1
  have h120 := hE.1
  have u : Un (fun b k => b = m + (c + 7) ∧ k = e) M M' := by rw [E]; exact Un.sI
  refine ⟨MS_E hM hz u (fun b k z => by omega) ⟨hE.1, by rw [u.I (by omega) (by omega)]; exact hE.2.1, fun j hj => ?_⟩ (fun _ _ => rfl) (fun _ _ _ _ => rfl) (fun c' hc' => ?_) (fun c' hc' j hj => ?_) (fun _ _ => rfl), u⟩
  · obtain ⟨⟨r0, r1, r3, r4, r5, r6, hG⟩, ⟨s0, s1, s2, s3, s4, s5, s6, s7⟩⟩ := hE.2.2 j hj
    have g : ∀ r k, (r = c + 7 ↔ k = c) → ddI M (m + r) j = A.2.1 k j → ddI M' (m + r) j = (uH_ A c e v).2.1 k j := fun r k hrk hv => by
      rw [E, gI_I, uH_2]
      by_cases h1 : r = c + 7 ∧ j = e
      · rw [if_pos ⟨by omega, h1.2⟩, if_pos ⟨by omega, h1.2⟩]
      · rw [if_neg (by omega), if_neg (by omega)]; exact hv
    refine ⟨⟨?_, ?_, ?_, ?_, ?_, ?_, hG⟩, g 2 0 (by omega) s0, g 8 1 (by omega) s1, g 9 2 (by omega) s2, g 10 3 (by omega) s3, g 11 4 (by omega) s4, g 12 5 (by omega) s5, g 13 6 (by omega) s6, fun h0 => ?_⟩
    · rw [u.I (by omega) (by omega)]; exact r0
    · rw [u.I (by omega) (by omega)]; exact r1
    · rw [u.I (by omega) (by omega)]; exact r3
    · rw [u.I (by omega) (by omega)]; exact r4
    · rw [u.I (by omega) (by omega)]; exact r5
    · rw [u.I (by omega) (by omega)]; exact r6
    · rw [E]; exact s7 h0
  · funext j
    rw [uH_2, if_neg (by omega)]
  · rw [uH_2, if_neg (by omega)]
theorem md_cg {B : Ab} {e : Nat} {f g : Nat → Int32} (h : ∀ c, mcB c = true → f c = g c) : md_ B e f = md_ B e g := by
  refine Prod.ext rfl (Prod.ext ?_ rfl)
  funext c j
  rw [md_2, md_2]
  by_cases h1 : j = e ∧ mcB c = true
  · rw [if_pos h1, if_pos h1, h c h1.2]
  · rw [if_neg h1, if_neg h1]
theorem sp_mayChange {m : Nat} {M : Mm} {A : Ab} {x d dy : Int32} {post : Int32 → Mm → Prop} (hM : MS m M A) (hA : WA A) (h : post (b2_ (mCh A x d dy)) M) : PX11_mayChange m x d dy M post := by
  obtain ⟨d1, d2, d3, d4, d5, d6, d7⟩ := id hM
  have h120 := d5.1
  have no : mCh A x d dy = false → post 0 M := fun c => by rw [c] at h; exact h
  refine ⟨d1.1, sp_isEntry d1 d5 (bz (fun c => no (by unfold mCh isB; rw [c]; rfl)) (fun c => ?_))⟩
  obtain ⟨c1, c2⟩ := isE_t c
  obtain ⟨e, el⟩ : ∃ e, e = x.toInt.toNat := ⟨_, rfl⟩
  rw [← el] at c1 c2
  obtain ⟨a1, a2, a3⟩ := d1.f2
  obtain ⟨b1, b2, b3⟩ := d1.f11
  have hin : vp_in (nI e) 130 := nI_in2 (by omega) (by decide)
  obtain ⟨⟨r0, r1, r3, r4, r5, r6, hG⟩, ⟨s0, s1, s2, s3, -⟩⟩ := d5.2.2 e c1
  have hk3 := hG.1
  rw [c2, nI_cl (by omega)]
  refine ⟨d1.1, m + 1, a1, a2, by rw [a3]; exact hin, ?_⟩
  rw [r0, nI_ne0' (by omega)]
  refine ⟨fun z => no (by unfold mCh isB; rw [← el, decide_eq_false z, Bool.and_false, Bool.false_and]), fun z => ⟨m + 10, b1, b2, by rw [b3]; exact hin, ?_⟩⟩
  rw [s3]
  refine ⟨fun z1 => no (by unfold mCh mCq; rw [← el, decide_eq_false z1, Bool.false_and, Bool.and_false]), fun z1 => sp_mayEnd hM hA c1 (bz (fun z2 => no (by unfold mCh mCq; rw [← el, z2, Bool.false_and, Bool.and_false, Bool.and_false])) (fun z2 => sp_in (bz (fun z3 => no ?_) (fun z3 => ?_))))⟩
  · rw [wd_T] at z3
    unfold mCh mCq; rw [show wi_ dy.toInt 0 1000 = false from z3, Bool.and_false, Bool.and_false, Bool.and_false]
  · rw [wd_T] at z3
    have e1 : mCh A x d dy = true := by unfold mCh isB mCq; rw [c, ← el, decide_eq_true z, decide_eq_true z1, z2, show wi_ dy.toInt 0 1000 = true from z3]; rfl
    rw [e1] at h; exact h
section PK
variable {m : Nat} {M : Mm} {A : Ab} {e : Nat} {v : Nat → Nat} {ar : Int32} {days : Nat} {f : Nat → Int32}
theorem sp_parkL {post : Mm → Prop} (hM : MS m M (md_ (B2_ A e v ar) e f)) (hz : m + 33 ≤ ddZ M) (he : e < A.2.2 0) (hnd : A.2.2 0 + nd_ A e (v 3) days ≤ 120) (hG : GW A.1 e) (hk0 : A.1 0 e = 0) (hf : ∀ c, mcB c = true → f c = cf_ A e (v 3) (v 6) c) (hd : v 6 ≤ 20000) (hs : 0 < v 3) (hs2 : v 3 < 1024) (hdy : days ≤ 1000)
    (h : ∀ M1, MS m M1 (nA_ A e v ar days) → Un (fun b _ => m ≤ b ∧ b < m + 33) M M1 → post M1) : PX11_park m (nI e) (nI (v 3)) (nI (mi_ A e (v 3))) (nI (v 6)) (nI days) (A.2.1 1 e) M post := by
  obtain ⟨m1, m2⟩ := nd_mi hnd
  have hmi := mi_le (A := A) (e := e) (v := v)
  rw [md_cg hf] at hM
  have heB2 : e < (md_ (B2_ A e v ar) e (cf_ A e (v 3) (v 6))).2.2 0 := by rw [md_3, B2_n]; omega
  obtain ⟨d1, d2, d3, d4, d5, d6, d7⟩ := id hM
  obtain ⟨a1, a2, a3⟩ := d1.f4
  obtain ⟨b1, b2, b3⟩ := d1.f6
  have hin : vp_in (nI e) 130 := nI_in2 (by omega) (by decide)
  obtain ⟨⟨r0, r1, r3, r4, r5, r6, -⟩, -⟩ := d5.2.2 e heB2
  have q2e : ∀ c, (B2_ A e v ar).1 c e = A.1 c e := fun c => B2_1 (Or.inl he) (by omega)
  rw [md_1, q2e] at r1 r4
  have e45 : A.1 5 e = A.1 4 e := (hG.2.2.2.2.2.2.2.2.2.1 (Or.inl hk0)).2.2.1.symm
  have park : days ≠ 0 → ∀ tl, tl = tl_ (A.2.1 1 e) (v 6) days → BX11_park_32 post m (nI e) (nI (v 3)) (nI (mi_ A e (v 3))) (nI (v 6)) tl M := fun y tl etl => by
    have m2 := m2 y
    unfold BX11_park_32
    rw [nI_cl (by omega)]
    refine ⟨d1.1, m + 3, a1, a2, by rw [a3]; exact hin, m + 5, b1, b2, by rw [b3]; exact hin, by rw [b3]; exact hin, ?_⟩
    rw [r1, r4]
    have hVP := GV_P (s := v 3) (day := v 6) hG hk0 hd hs hs2
    have key : PX11_add m 3 (nI (mi_ A e (v 3))) (nI (A.1 1 e)) (nI (v 3)) (nI (A.1 4 e)) (nI (A.1 5 e)) (nI (v 6)) tl (nI e) M (fun r14 M15 => post M15) := sp_add (v := vP_ A e (v 3) (v 6)) (A := md_ (B2_ A e v ar) e (cf_ A e (v 3) (v 6))) hM hz (by rw [md_3, B2_n]; omega) hVP (fun z => absurd (show (3 : Nat) = 0 from z) (by decide)) (fun M1 g1 g2 => h M1 (by
      rw [md_add (by rw [B2_n]; omega)] at g1
      unfold nA_ B3_
      rw [if_neg y, ← etl]
      exact g1) (g2.wk (fun b k _ z => by omega)))
    rw [e45] at key
    exact key
  unfold PX11_park
  rw [nI_add, nI_ne0' (by omega)]
  refine ⟨fun y => ⟨fun z => park y _ (by unfold tl_; rw [if_pos z]), fun z => ⟨fun z1 => park y _ (by unfold tl_; rw [if_neg z, if_pos z1]), fun z1 => park y _ (by unfold tl_; rw [if_neg z, if_neg z1])⟩⟩, fun y => h M ?_ Un.rf⟩
  unfold nA_ B3_
  rw [if_pos y]
  exact hM
end PK
theorem mn_split {m : Nat} {M : Mm} {A : Ab} {x s p ar d dy : Int32} {post : Int32 → Mm → Prop} (hM : MS m M A) (hA : WA A) (hz : m + 33 ≤ ddZ M) (h : ∀ M1, MS m M1 (nx_spl A x s p ar d dy) → Un (fun b _ => m ≤ b ∧ b < m + 33) M M1 → post (an_spl A x s p ar d dy) M1) : PX11_split m x s p ar d dy M post := by
  obtain ⟨d1, d2, d3, d4, d5, d6, d7⟩ := id hM
  have h120 := d5.1
  have no : ok_split A x s p ar d dy = false → post (-2) M := fun c => by
    rw [(sp_f c).1, (sp_f c).2] at h
    exact h M hM Un.rf
  refine ⟨d1.1, sp_mayChange hM hA (bz (fun c => no ?_) (fun c => ?_))⟩
  · unfold ok_split okq_split
    unfold mCh at c
    rw [Bool.and_eq_false_iff] at c
    rcases c with c | c
    · rw [c]; rfl
    · rw [c, Bool.false_and, Bool.and_false]
  unfold mCh at c
  rw [Bool.and_eq_true] at c
  obtain ⟨cB, cq⟩ := c
  have cB2 := cB
  unfold isB at cB2
  rw [Bool.and_eq_true, decide_eq_true_eq] at cB2
  obtain ⟨c1, c2⟩ := isE_t cB2.1
  have hk0 := cB2.2
  obtain ⟨e, el⟩ : ∃ e, e = x.toInt.toNat := ⟨_, rfl⟩
  rw [← el] at c1 c2 hk0 cq
  have nq : okq_split A e s p ar d dy = false → post (-2) M := fun z => no (by unfold ok_split; rw [← el, z, Bool.and_false])
  obtain ⟨a1, a2, a3⟩ := d1.f5
  obtain ⟨b1, b2, b3⟩ := d1.f6
  obtain ⟨f1, f2, f3⟩ := d1.f4
  have hin : vp_in (nI e) 130 := nI_in2 (by omega) (by decide)
  obtain ⟨⟨r0, r1, r3, r4, r5, r6, hG⟩, ⟨s0, s1, -⟩⟩ := d5.2.2 e c1
  have gs := hG.2.2.2.2.1
  have g2 := hG.2.2.2.1
  have g4 := hG.2.2.2.2.2.1
  have g5 := hG.2.2.2.2.2.2.1
  have gw := hG.w
  have hkl := GW_kl hG hk0
  rw [c2, nI_cl (by omega)]
  refine ⟨fun z => nq ?_, fun z => ⟨d1.1, m + 4, a1, a2, by rw [a3]; exact hin, ?_⟩⟩
  · unfold okq_split
    by_cases hb : s &&& (nI (A.1 3 e) ^^^ -1) = 0
    · obtain ⟨s', hs1, hs2, -⟩ := sub_nat gs hb
      rw [hs2, show (1 : Int32) = nI 1 from rfl, nI_ltI (by omega) (by omega)] at z
      rw [decide_eq_true (show s = 0 by rw [hs2, show s' = 0 by omega]; rfl), Bool.not_true, Bool.false_and, Bool.and_false]
    · rw [decide_eq_false hb, Bool.false_and, Bool.and_false, Bool.and_false]
  rw [r3]
  refine ⟨fun z1 => nq (by unfold okq_split; rw [decide_eq_false z1, Bool.false_and, Bool.and_false, Bool.and_false]), fun z1 => sp_lenI (sp_in (bz (fun z3 => nq ?_) (fun z3 => sp_in (bn (fun z4 => sp_lenI ⟨d1.1, m + 5, b1, b2, by rw [b3]; exact hin, m + 3, f1, f2, by rw [f3]; exact hin, ?_⟩) (fun z4 => nq ?_)))))⟩
  · rw [wd_T] at z3
    unfold okq_split; rw [show wi_ (npI p.toInt).toInt 1 7 = false from z3, Bool.false_and, Bool.and_false, Bool.and_false, Bool.and_false]
  · rw [wd_T] at z3 z4
    have z3 : wi_ (npI p.toInt).toInt 1 7 = true := z3
    have z4 : wi_ ar.toInt 0 15 = true := z4
    obtain ⟨np, y1, y2, y3, y4, y5⟩ := npI_in z3 (by decide)
    have y5 : (np : Int) ≤ 7 := y5
    have enp : np_ p = np := by unfold np_; rw [y3]; exact toNat_nI (by omega)
    rw [r1, r4]
    refine sp_lengthOf (by omega) hG.2.1 (by omega) (fun v33 e33 => ?_)
    rw [y3, nI_add, pk_sub (by omega), show np + A.1 4 e - A.1 2 e = np + (A.1 4 e - A.1 2 e) by omega, ← enp] at e33
    rw [e33]
    refine pk_le (np_ p + (A.1 4 e - A.1 2 e)) 12 (fun y => ⟨d1.1, m + 4, a1, a2, by rw [a3]; exact hin, ?_⟩) (fun y => nq ?_) rfl rfl (by omega) (by omega)
    · have hs0 : ¬ s = 0 := fun q => z (by rw [q]; decide)
      have okq : okq_split A e s p ar d dy = true := by
        unfold okq_split
        rw [cq, decide_eq_false hs0, decide_eq_true z1, z3, z4, decide_eq_true y]; rfl
      have ok : ok_split A x s p ar d dy = true := by unfold ok_split; rw [cB, ← el, okq]; rfl
      obtain ⟨k1, k2, k3, k4, k5, k6, k7, k8, k9, k10, k11, k12, k13⟩ := okq_t hA c1 hk0 hG okq
      obtain ⟨j1, j2, j3, ⟨t, ht, ht2, ht3, ht4, -⟩, ⟨yd, hy1, hy2, hy3⟩⟩ := mCq_t hA c1 hG.2.2.2.2.2.2.2.1 k1
      obtain ⟨v, ev⟩ : ∃ v, v = vS_ A e s p d := ⟨_, rfl⟩
      have v0 : v 0 = 0 := by rw [ev]; unfold vS_; exact vB0
      have v1 : nI (v 1) = p := by rw [ev, show vS_ A e s p d 1 = p.toInt.toNat by unfold vS_; exact vB1]; exact k4.symm
      have v2 : v 2 = np_ p := by rw [ev]; unfold vS_; exact vB2
      have v3 : v 3 = s.toInt.toNat := by rw [ev]; unfold vS_; exact vB3
      have v3' : nI (v 3) = s := by rw [v3]; exact k3.symm
      have v4 : v 4 = np_ p + (A.1 4 e - A.1 2 e) := by rw [ev]; unfold vS_; exact vB4
      have v5 : v 5 = np_ p + (A.1 4 e - A.1 2 e) := by rw [ev]; unfold vS_; exact vB5
      have v6 : nI (v 6) = d := by rw [ev, show vS_ A e s p d 6 = d.toInt.toNat by unfold vS_; exact vB6, ← ht4]; exact ht.symm
      have hV : GV v := by rw [ev]; exact k2
      have gd : v 6 ≤ 20000 := hV.2.2.2.2.2.2.2.1
      rw [r3]
      -- behind the entry of what is left
      have key233 : A.2.2 0 + nd_ A e (v 3) yd ≤ 120 → ∀ M' f, MS m M' (md_ (B1_ A e (v 3) (v 6)) e f) → (∀ c, mcB c = true → c ≠ 6 → f c = cf_ A e (v 3) (v 6) c) → Un (fun b _ => m ≤ b ∧ b < m + 33) M M' → BX11_split_233 post m (nI e) s p ar d dy (nI (np_ p + (A.1 4 e - A.1 2 e))) (A.2.1 1 e) M' := fun hnd M' f hM' hf u' => by
        obtain ⟨m1, m2⟩ := nd_mi hnd
        have hmi := mi_le (A := A) (e := e) (v := v)
        have hz' : m + 33 ≤ ddZ M' := Nat.le_trans hz u'.1
        refine ⟨hM'.1.1, ?_⟩
        have key : PX11_add m (nI (v 0)) ar (nI (v 1)) (nI (v 3)) (nI (v 4)) (nI (v 5)) (nI (v 6)) (A.2.1 1 e) (nI e) M' (fun r90 M91 => ddT M91 m = 12 ∧ (∃ aq93 : Nat, (ddR M91 m 14) = some aq93 ∧ (ddT M91 aq93 = 20 ∧ (vp_in (nI e) (ddN M91 aq93) ∧ (∀ M97 : Mm, M97 = suI M91 aq93 (Int32.toNatClampNeg (nI e)) r90 → (PX11_park m (nI e) s r90 d dy (A.2.1 1 e) M97 (fun M99 => post r90 M99))))))) := sp_add (v := v) hM' hz' (by rw [md_3, B1_n]; omega) hV (fun _ => by rw [v2, v4]; omega) (fun M91 g1 w91 => by
          rw [md_add (by rw [B1_n]; omega)] at g1
          have g1 : MS m M91 (md_ (B2_ A e v ar) e f) := g1
          obtain ⟨o1, o2, o3⟩ := g1.1.f14
          have hz91 : m + 33 ≤ ddZ M91 := Nat.le_trans hz' w91.1
          refine ⟨g1.1.1, m + 13, o1, o2, by rw [o3]; exact hin, fun M97 E97 => ?_⟩
          rw [md_3, B1_n, nI_cl (by omega)] at E97
          rw [md_3, B1_n]
          obtain ⟨g2, w97⟩ := ms_col (c := 6) g1 hz91 (by rw [md_3, B2_n]; omega) (by omega) (by omega) E97
          rw [md_uH (by decide)] at g2
          rw [← v3', ← v6, hy1]
          refine sp_parkL g2 (Nat.le_trans hz91 w97.1) c1 hnd hG hk0 (fun c hc => ?_) gd (by rw [v3]; exact k11) (by rw [v3]; exact k10) hy2 (fun M1 g3 w1 => ?_)
          · by_cases h6 : c = 6
            · rw [if_pos h6, h6]; rfl
            · rw [if_neg h6]; exact hf c hc h6
          · have := hnd
            rw [v3, hy3, el] at this
            rw [(sp_t ok this).1, (sp_t ok this).2, ← el, ← hy3, ← ev, ← v3] at h
            exact h M1 g3 ((((u'.tr w91).tr w97).tr w1).wk (fun b k _ z => by omega)))
        rw [v0, v1, v3', v4, v5, v6] at key
        exact key
      have key138 : ∀ x8 s0 s1 : Int32, x8 = b2_ (decide (rsN (A.1 3 e) (v 3) = 0)) → s0 + s1 = nI (A.2.2 0 + nd_ A e (v 3) yd) → BX11_split_138 post m (nI e) s p ar d dy (nI (np_ p + (A.1 4 e - A.1 2 e))) x8 s0 s1 M := fun x8 sa sb hx8 hsum => by
        unfold BX11_split_138
        rw [hsum, nI_cl (by omega)]
        have hndl : nd_ A e (v 3) yd ≤ 3 := by
          unfold nd_
          split <;> split <;> omega
        obtain ⟨t1, t2, t3⟩ := d1.f9
        refine pk_le (A.2.2 0 + nd_ A e (v 3) yd) 120 (fun hnd => ⟨d1.1, m + 8, t1, t2, by rw [t3]; exact hin, fun v51 e51 => ⟨by rw [t3]; exact hin, fun M53 E53 => ?_⟩⟩) (fun hnd => ?_) rfl rfl (by omega) (by omega)
        · rw [s1] at e51
          subst e51
          obtain ⟨m1, m2⟩ := nd_mi hnd
          have hA0 : MS m M (md_ A e (fun c => A.2.1 c e)) := by rw [md_id]; exact hM
          obtain ⟨q53, w53⟩ := ms_col (c := 1) hA0 hz c1 (by omega) (by omega) E53
          rw [md_uH (by decide)] at q53
          obtain ⟨t4, t5, t6⟩ := q53.1.f11
          have hz53 : m + 33 ≤ ddZ M53 := Nat.le_trans hz w53.1
          refine ⟨m + 10, t4, t5, by rw [t6]; exact hin, fun M58 E58 => ?_⟩
          obtain ⟨q58, w58⟩ := ms_col (c := 3) q53 hz53 c1 (by omega) (by omega) E58
          rw [md_uH (by decide)] at q58
          obtain ⟨t7, t8, t9⟩ := q58.1.f13
          have hz58 : m + 33 ≤ ddZ M58 := Nat.le_trans hz53 w58.1
          refine ⟨m + 12, t7, t8, by rw [t9]; exact hin, fun M63 E63 => ?_⟩
          obtain ⟨q63, w63⟩ := ms_col (c := 5) q58 hz58 c1 (by omega) (by omega) E63
          rw [md_uH (by decide)] at q63
          have hz63 : m + 33 ≤ ddZ M63 := Nat.le_trans hz58 w63.1
          have u63 : Un (fun b _ => m ≤ b ∧ b < m + 33) M M63 := ((w53.tr w58).tr w63).wk (fun b k _ z => by omega)
          rw [hx8]
          refine bn (fun zr => ?_) (fun zr => ?_)
          · have zr : rsN (A.1 3 e) (v 3) = 0 := of_decide_eq_true zr
            have eB1 : B1_ A e (v 3) (v 6) = A := by unfold B1_; rw [if_pos zr]
            refine key233 hnd M63 _ (by rw [eB1]; exact q63) (fun c hc h6 => ?_) u63
            rcases mcB_t.mp hc with y | y | y | y | y
            · subst y; exact v6.symm
            · subst y; exact v6.symm
            · subst y
              show A.2.1 4 e = if rsN (A.1 3 e) (v 3) = 0 then -1 else nI (A.2.2 0)
              rw [if_pos zr, j2]
            · subst y; exact v3'.symm
            · exact absurd y h6
          · have zr : rsN (A.1 3 e) (v 3) ≠ 0 := of_decide_eq_false zr
            have hn1 : A.2.2 0 < 120 := by unfold nd_ at hnd; omega
            have eB1 : B1_ A e (v 3) (v 6) = add_ A (vR_ A e (v 3) (v 6)) (A.2.1 0 e) (A.2.1 1 e) (nI e) := by unfold B1_; rw [if_neg zr]
            obtain ⟨i1, i2, i3⟩ := q63.1.f3
            obtain ⟨i4, i5, i6⟩ := q63.1.f4
            obtain ⟨i7, i8, i9⟩ := q63.1.f5
            obtain ⟨i10, i11, i12⟩ := q63.1.f6
            obtain ⟨⟨x0, x1, x3, x4, x5, x6, -⟩, ⟨y0, -⟩⟩ := q63.2.2.2.2.1.2.2 e c1
            rw [md_1] at x1 x3 x4
            rw [md_2c (by decide)] at y0
            refine ⟨m + 2, i1, i2, by rw [i3]; exact hin, m + 3, i4, i5, by rw [i6]; exact hin, m + 4, i7, i8, by rw [i9]; exact hin, m + 5, i10, i11, by rw [i12]; exact hin, by rw [i12]; exact hin, ?_⟩
            rw [y0, x1, x3, x4, ← v3', rs_int gs, v3']
            have e45 : A.1 5 e = A.1 4 e := (hG.2.2.2.2.2.2.2.2.2.1 (Or.inl hk0)).2.2.1.symm
            have key : PX11_add m 0 (A.2.1 0 e) (nI (A.1 1 e)) (nI (rsN (A.1 3 e) (v 3))) (nI (A.1 4 e)) (nI (A.1 5 e)) (nI (v 6)) (A.2.1 1 e) (nI e) M63 (fun r82 M83 => ∃ aq84 : Nat, (ddR M63 m 12) = some aq84 ∧ (ddT M83 aq84 = 20 ∧ (vp_in (nI e) (ddN M83 aq84) ∧ (∀ M88 : Mm, M88 = suI M83 aq84 e r82 → (BX11_split_233 post m (nI e) s p ar d dy (nI (np_ p + (A.1 4 e - A.1 2 e))) (A.2.1 1 e) M88))))) := sp_add (v := vR_ A e (v 3) (v 6)) q63 hz63 hn1 (GV_R hG hk0 gd zr) (fun _ => hkl) (fun M83 g1 w83 => by
              rw [md_add (by omega), ← eB1] at g1
              obtain ⟨o1, o2, o3⟩ := g1.1.f12
              obtain ⟨o4, -, -⟩ := q63.1.f12
              have hz83 : m + 33 ≤ ddZ M83 := Nat.le_trans hz63 w83.1
              refine ⟨m + 11, o4, o2, by rw [o3]; exact hin, fun M88 E88 => ?_⟩
              obtain ⟨g2, w88⟩ := ms_col (c := 4) g1 hz83 (by rw [md_3, B1_n]; have := mi_le (A := A) (e := e) (v := v); omega) (by omega) (by omega) E88
              rw [md_uH (by decide)] at g2
              refine key233 hnd M88 _ g2 (fun c hc h6 => ?_) ((u63.tr (w83.tr w88)).wk (fun b k _ z => by omega))
              rcases mcB_t.mp hc with y | y | y | y | y
              · subst y; exact v6.symm
              · subst y; exact v6.symm
              · subst y
                show nI (A.2.2 0) = if rsN (A.1 3 e) (v 3) = 0 then -1 else nI (A.2.2 0)
                rw [if_neg zr]
              · subst y; exact v3'.symm
              · exact absurd y h6)
            rw [e45, v6] at key
            exact key
        · have := hnd
          rw [v3, hy3, el] at this
          rw [(sp_u ok this).1, (sp_u ok this).2] at h
          exact h M hM Un.rf
      have key109 : ∀ s0 : Int32, s0 = b2_ (decide (rsN (A.1 3 e) (v 3) = 0)) → BX11_split_109 post m (nI e) s p ar d dy (nI (np_ p + (A.1 4 e - A.1 2 e))) s0 M := fun sa hs0 => by
        unfold BX11_split_109
        rw [d5.2.1]
        refine ⟨d1.1, ?_⟩
        rw [hs0, hy1]
        refine bz (fun zr => pk_le yd 0 (fun y0 => ?_) (fun y0 => ?_) rfl rfl (by omega) (by omega)) (fun zr => pk_le yd 0 (fun y0 => ?_) (fun y0 => ?_) rfl rfl (by omega) (by omega))
        · rw [← hy1]
          refine key138 _ _ _ rfl ?_
          unfold nd_
          rw [if_neg (of_decide_eq_false zr), if_pos (show yd = 0 by omega), nI_1, nI_1]
          exact Int32.add_zero _
        · rw [← hy1]
          refine key138 _ _ _ rfl ?_
          unfold nd_
          rw [if_neg (of_decide_eq_false zr), if_neg (show ¬ yd = 0 by omega), nI_1, nI_1, nI_1]
        · rw [← hy1]
          refine key138 _ _ _ rfl ?_
          unfold nd_
          rw [if_pos (of_decide_eq_true zr), if_pos (show yd = 0 by omega), Int32.add_zero, Int32.add_zero, nI_1]
        · rw [← hy1]
          refine key138 _ _ _ rfl ?_
          unfold nd_
          rw [if_pos (of_decide_eq_true zr), if_neg (show ¬ yd = 0 by omega), Int32.add_zero, nI_1, nI_1]
      have hrs := rs_0 (so := A.1 3 e) (s := v 3) gs (by rw [v3]; exact k12)
      refine ⟨fun q => key109 0 ?_, fun q => key109 1 ?_⟩
      · rw [decide_eq_false (fun z => q (by rw [← v3', hrs.mp z]))]; rfl
      · rw [decide_eq_true (hrs.mpr (nI_inj (by omega) (by rw [v3]; omega) (by rw [v3']; exact q.symm)))]; rfl
    · unfold okq_split; rw [decide_eq_false (by omega : ¬ np_ p + (A.1 4 e - A.1 2 e) ≤ 12), Bool.and_false, Bool.and_false, Bool.and_false, Bool.and_false, Bool.and_false]
  · rw [wd_T] at z4
    unfold okq_split; rw [show wi_ ar.toInt 0 15 = false from z4, Bool.false_and, Bool.and_false, Bool.and_false, Bool.and_false, Bool.and_false]
