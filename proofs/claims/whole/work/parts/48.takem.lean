/-! take: the model -/
theorem mn_take {m : Nat} {M : Mm} {A : Ab} {x : Int32} {post : Int32 → Mm → Prop} (hM : MS m M A) (hA : WA A) (hz : m + 33 ≤ ddZ M) (h : ∀ M1, MS m M1 (nx_take A x) → Un (fun b _ => m ≤ b ∧ b < m + 33) M M1 → post (an_take A x) M1) : PX11_take m x M post := by
  obtain ⟨d1, d2, d3, d4, d5, d6, d7⟩ := id hM
  obtain ⟨m1, m2, m3⟩ := id d7
  have h120 := d5.1
  have w1 := hA.1
  have hk : ddI M m 0 = nI (A.2.2 4) := d2
  have no : ok_take A x = false → post (-2) M := fun c => by
    rw [(tk_f c).1, (tk_f c).2] at h
    exact h M hM Un.rf
  have en3 : (nI (A.2.2 3) - 1).toInt = (A.2.2 3 : Int) - 1 := by
    rw [xi_sub (by rw [nI_T (by omega)]; show (_ : Int) ≤ _ - 1; omega) (by rw [nI_T (by omega)]; show _ - (1 : Int) < _; omega), nI_T (by omega)]
    rfl
  unfold PX11_take
  rw [m2]
  refine ⟨d1.1, sp_in ?_⟩
  rw [wd_T, wd_T, en3]
  refine bz (fun c => no (by unfold ok_take; rw [show isO A x = false from c]; rfl)) (fun c => ?_)
  have c : isO A x = true := c
  obtain ⟨c1, c2⟩ := isO_t c
  obtain ⟨o, eo⟩ : ∃ o, o = x.toInt.toNat := ⟨_, rfl⟩
  rw [← eo] at c1 c2
  obtain ⟨a1, a2, a3⟩ := d1.f8
  obtain ⟨q1, q2, q3, q4⟩ := m3 o c1
  obtain ⟨r0, r1, r3, r4, r5, r6, hG⟩ := id q1
  have g6 := hG.2.2.2.2.2.2.2.1
  have hin : vp_in (nI (121 + o)) 130 := nI_in2 (by omega) (by decide)
  have e121 : ∀ i, (121 : Int32) + nI i = nI (121 + i) := fun i => by rw [show (121 : Int32) = nI 121 from rfl, nI_add]
  rw [c2, e121, nI_cl (by omega), hk, d5.2.1]
  refine ⟨d1.1, m + 7, a1, a2, by rw [a3]; exact hin, ?_⟩
  rw [r6]
  refine pk_le (A.2.2 4) (A.1 6 (121 + o)) (fun y => ?_) (fun y => no (by unfold ok_take; rw [← eo, decide_eq_false (by omega), Bool.and_false])) rfl rfl (by omega) (by omega)
  have ok : ok_take A x = true := by unfold ok_take; rw [c, ← eo, decide_eq_true y]; rfl
  rw [show (120 : Int32) = nI 120 from rfl, nI_eq (by omega) (by omega)]
  refine ⟨fun hn v12 e12 => ?_, fun hn => ?_⟩
  · rw [(tk_t ok hn).1, (tk_t ok hn).2, ← eo] at h
    obtain ⟨b1, b2, b3⟩ := d1.f3
    obtain ⟨f1, f2, f3⟩ := d1.f4
    obtain ⟨i1, i2, i3⟩ := d1.f5
    obtain ⟨j1, j2, j3⟩ := d1.f6
    subst e12
    rw [nI_cl (by omega)]
    refine ⟨m + 2, b1, b2, by rw [b3]; exact hin, m + 3, f1, f2, by rw [f3]; exact hin, m + 4, i1, i2, by rw [i3]; exact hin, m + 5, j1, j2, by rw [j3]; exact hin, by rw [j3]; exact hin, by rw [a3]; exact hin, ?_⟩
    have hV : GV (vT_ A o) := GW_tr (fun c _ => rfl) hG
    have e45 : vT_ A o 5 = vT_ A o 4 := (hG.2.2.2.2.2.2.2.2.2.1 (Or.inl q3)).2.2.1.symm
    have key : PX11_add m (nI (vT_ A o 0)) (A.2.1 0 (121 + o)) (nI (vT_ A o 1)) (nI (vT_ A o 3)) (nI (vT_ A o 4)) (nI (vT_ A o 5)) (nI (vT_ A o 6)) (-1) (-1) M (fun r31 M32 => ddT M32 m = 12 ∧ (∀ M34 : Mm, M34 = suI M32 m 35 ((ddI M32 m 35) - 1) → (∃ fu : Nat, DX11_take_109 post fu m r31 (nI o) M34))) := sp_add hM hz (by omega) hV (fun _ => GW_kl hG q3) (fun M32 sM w32 => by
      have sM : MS m M32 (tB_ A o) := sM
      have hz32 : m + 33 ≤ ddZ M32 := Nat.le_trans hz w32.1
      obtain ⟨t1, t2, t3, t4, t5, t6, t7⟩ := id sM
      obtain ⟨s1, s2, s3⟩ := id t7
      rw [tB_3] at s1 s2 s3
      refine ⟨t1.1, fun M34 E34 => ?_⟩
      rw [s2, show nI (A.2.2 3) - 1 = nI (A.2.2 3 - 1) from pk_sub (b := 1) (by omega)] at E34
      obtain ⟨B, eB⟩ : ∃ B, B = tB_ A o := ⟨_, rfl⟩
      have eB3 : B.2.2 3 = A.2.2 3 := by rw [eB]; exact tB_3
      rw [← eB] at sM t5 s3 h
      have sM := sM
      have sh0 : shA B o o = B := by
        refine Prod.ext ?_ (Prod.ext ?_ rfl)
        · funext c j
          rw [sh_1, if_neg (by omega), if_neg (by omega)]
        · funext c j
          rw [sh_2, if_neg (by omega)]
      refine pk_loop (fun fu i (s : Mm) => DX11_take_109 post fu m (nI (A.2.2 0)) (nI i) s) (fun i s => o ≤ i ∧ Un (fun b j => (m + 1 ≤ b ∧ b < m + 15 ∧ 121 ≤ j) ∨ (b = m ∧ j = 35) ∨ b = m + 31) M32 s ∧ ddI s m 35 = nI (A.2.2 3 - 1) ∧ ∀ j, j < A.2.2 3 → MR m s (shA B o i).1 (121 + j) ∧ HR m s (shA B o i) (121 + j) ∧ (shA B o i).1 0 (121 + j) = 0 ∧ ddI s (m + 31) j = nI ((shA B o i).1 50 j)) (A.2.2 3 - 1) o M34 (by omega) ⟨by omega, by rw [E34]; exact Un.sI.wk (fun b j _ z => by omega), by rw [E34, gI_I, if_pos ⟨rfl, rfl⟩], fun j hj => ?_⟩ (fun fu s hs => ?_) (fun fu i s hi hs hk2 => ?_)
      · rw [sh0]
        have w34 : Un (fun b j => b = m ∧ j = 35) M32 M34 := by rw [E34]; exact Un.sI
        obtain ⟨y1, y2, y3, y4⟩ := s3 j hj
        exact ⟨MR_keep2 y1 hz32 w34 (fun o _ _ z => by omega), HR_keep y2 hz32 w34 (fun o _ _ z => by omega), y3, by rw [w34.I (by omega) (by omega)]; exact y4⟩
      · obtain ⟨i1, i2, i3, i4⟩ := hs
        show BX11_take_109 (DX11_take_109 post fu) post m (nI (A.2.2 0)) (nI (A.2.2 3 - 1)) s
        unfold BX11_take_109
        rw [i3]
        refine ⟨by rw [i2.T (by omega)]; exact t1.1, pk_le (A.2.2 3 - 1) (A.2.2 3 - 1) (fun _ => ?_) (fun z => by omega) rfl rfl (by omega) (by omega)⟩
        have W1 : (wdA B o).1 = (shA B o (A.2.2 3 - 1)).1 := by rw [eB]; exact wd_1
        have W2 : (wdA B o).2.1 = (shA B o (A.2.2 3 - 1)).2.1 := by rw [eB]; exact wd_2
        have W3 : (wdA B o).2.2 3 = A.2.2 3 - 1 := by rw [eB]; exact wd_3
        have W3n : ∀ i, i ≠ 3 → (wdA B o).2.2 i = B.2.2 i := fun i hi => by rw [eB]; exact wd_3n hi
        have B0 : B.2.2 0 ≤ 120 := t5.1
        refine h s (MS_asm sM hz32 i2 (fun b k z => by omega) ⟨by rw [W3n 0 (by omega)]; exact t5.1, by rw [W3n 0 (by omega), i2.I (by omega) (by omega)]; exact t5.2.1, fun e he => ?_⟩ ⟨by rw [W3]; omega, by rw [W3]; exact i3, fun j hj => ?_⟩ (fun c h1 h2 => by rw [W1]; exact sh_1c h1 h2) (fun c hc => by rw [W2]; exact sh_2c hc) (fun i _ hi => W3n i hi)) ((w32.tr i2).wk (fun b k _ z => by omega))
        · rw [W3n 0 (by omega)] at he
          obtain ⟨y1, y2⟩ := t5.2.2 e he
          exact ⟨MR_cg (fun c hc => by rw [W1]; exact sh_1n hc (by omega)) (MR_keep2 y1 hz32 i2 (fun o _ _ z => by omega)), HR_cg (fun c hc => by rw [W1]; exact sh_1n hc (by omega)) (fun c hc => by rw [W2]; exact sh_2n (by omega)) (HR_keep y2 hz32 i2 (fun o _ _ z => by omega))⟩
        · rw [W3] at hj
          obtain ⟨y1, y2, y3, y4⟩ := i4 j (by omega)
          rw [W1]
          exact ⟨y1, HR_cg (fun c hc => by rw [W1]) (fun c hc => by rw [W2]) y2, y3, y4⟩
      · obtain ⟨i1, i2, i3, i4⟩ := hs
        show BX11_take_109 (DX11_take_109 post fu) post m (nI (A.2.2 0)) (nI i) s
        have hzs : m + 33 ≤ ddZ s := Nat.le_trans hz32 i2.1
        have Ws : MW m s := MW_keep t1 hz32 i2 (fun k h1 h2 h3 h4 h5 h6 z => by omega)
        obtain ⟨b1, b2, b3⟩ := Ws.f3
        obtain ⟨f1, f2, f3⟩ := Ws.f4
        obtain ⟨k1, k2, k3⟩ := Ws.f5
        obtain ⟨j1, j2, j3⟩ := Ws.f6
        obtain ⟨l1, l2, l3⟩ := Ws.f8
        have hin2 : vp_in (nI (121 + (i + 1))) 130 := nI_in2 (by omega) (by decide)
        obtain ⟨⟨x0, x1, x3, x4, x5, x6, xG⟩, ⟨y0, -⟩, yk, -⟩ := i4 (i + 1) (by omega)
        have row : ∀ c, c < 7 → (shA B o i).1 c (121 + (i + 1)) = B.1 c (121 + (i + 1)) := fun c hc => sh_1n hc (by omega)
        have row2 : (shA B o i).2.1 0 (121 + (i + 1)) = B.2.1 0 (121 + (i + 1)) := sh_2n (by omega)
        unfold BX11_take_109
        rw [i3, nI_1, e121]
        refine ⟨Ws.1, pk_le (A.2.2 3 - 1) i (fun z => by omega) (fun _ v37 e37 => ?_) rfl rfl (by omega) (by omega)⟩
        rw [nI_1, show 121 + i + 1 = 121 + (i + 1) by omega] at e37
        subst e37
        rw [nI_cl (by omega)]
        refine ⟨m + 2, b1, b2, by rw [b3]; exact hin2, m + 3, f1, f2, by rw [f3]; exact hin2, m + 4, k1, k2, by rw [k3]; exact hin2, m + 5, j1, j2, by rw [j3]; exact hin2, by rw [j3]; exact hin2, m + 7, l1, l2, by rw [l3]; exact hin2, ?_⟩
        rw [y0, x1, x3, x4, x6, row2, row 1 (by omega), row 3 (by omega), row 4 (by omega), row 6 (by omega)]
        obtain ⟨v, ev⟩ : ∃ v : Nat → Nat, v = fun c => B.1 c (121 + (i + 1)) := ⟨_, rfl⟩
        have xB : GW B.1 (121 + (i + 1)) := GW_cg (fun c hc => (row c hc).symm) xG
        have hVv : GV v := by rw [ev]; exact GW_tr (fun c _ => rfl) xB
        rw [row 0 (by omega)] at yk
        have v0 : v 0 = 0 := by rw [ev]; exact yk
        have v45 : v 5 = v 4 := by rw [ev]; exact (xB.2.2.2.2.2.2.2.2.2.1 (Or.inl yk)).2.2.1.symm
        have key2 : PX11_put m (nI (121 + i)) (nI (v 0)) (B.2.1 0 (121 + (i + 1))) (nI (v 1)) (nI (v 3)) (nI (v 4)) (nI (v 5)) (nI (v 6)) (-1) s (fun r59 M60 => ddT M60 m = 12 ∧ (∃ aq62 : Nat, (ddR M60 m 36) = some aq62 ∧ (ddT M60 aq62 = 20 ∧ (vp_in (nI (i + 1)) (ddN M60 aq62) ∧ (vp_in (nI i) (ddN M60 aq62) ∧ (∀ M67 : Mm, M67 = suI M60 aq62 (Int32.toNatClampNeg (nI i)) (ddI M60 aq62 (Int32.toNatClampNeg (nI (i + 1)))) → (DX11_take_109 post fu m (nI (A.2.2 0)) (nI (i + 1)) M67))))))) := sp_put (A := shA B o i) Ws hzs (by omega) hVv (fun _ => by rw [ev]; exact GW_kl xB yk) (fun M60 u60 z60 hR hH => by
          obtain ⟨n1, n2, n3⟩ := Ws.f36
          refine ⟨by rw [u60.T (by omega)]; exact Ws.1, m + 31, by rw [u60.R (by omega) (by omega)]; exact n1, by rw [u60.T (by omega)]; exact n2, by rw [u60.N (by omega), n3]; exact nI_in2 (by omega) (by decide), by rw [u60.N (by omega), n3]; exact nI_in2 (by omega) (by decide), fun M67 E67 => ?_⟩
          rw [nI_cl (by omega), nI_cl (by omega)] at E67
          have c60 : ddI M60 (m + 31) (i + 1) = nI (B.1 50 (i + 1)) := by
            rw [u60.I (by omega) (by omega), (i4 (i + 1) (by omega)).2.2.2, sh_50, if_neg (by omega)]
          rw [c60] at E67
          have u67 : Un (fun b j => b = m + 31 ∧ j = i) M60 M67 := by rw [E67]; exact Un.sI
          have hz60 : m + 33 ≤ ddZ M60 := by omega
          have us : Un (fun b j => (m + 1 ≤ b ∧ b < m + 15 ∧ j = 121 + i) ∨ (b = m + 31 ∧ j = i)) s M67 := u60.tr u67
          refine hk2 M67 ⟨by omega, (i2.tr us).wk (fun b k _ z => by omega), by rw [us.I (by omega) (by omega)]; exact i3, fun j hj => ?_⟩
          by_cases hji : j = i
          · subst hji
            have eE : ∀ c, c < 7 → (shA B o (j + 1)).1 c (121 + j) = (ent_ (shA B o j) (121 + j) v (B.2.1 0 (121 + (j + 1))) (-1)).1 c (121 + j) := fun c hc => by rw [et_1 hc, sh_1s hc i1 (by omega), ev]
            have eH : ∀ c, c < 7 → (shA B o (j + 1)).2.1 c (121 + j) = (ent_ (shA B o j) (121 + j) v (B.2.1 0 (121 + (j + 1))) (-1)).2.1 c (121 + j) := fun c hc => by
              have t1 : (shA B o (j + 1)).2.1 c (121 + j) = (if c = 0 then B.2.1 0 (121 + j + 1) else if c = 1 then -1 else if c = 5 then 0 else -1) := by rw [sh_2]; exact if_pos (by omega)
              have t2 : (ent_ (shA B o j) (121 + j) v (B.2.1 0 (121 + (j + 1))) (-1)).2.1 c (121 + j) = (if c = 0 then B.2.1 0 (121 + j + 1) else if c = 1 then -1 else if c = 5 then 0 else -1) := if_pos ⟨rfl, hc⟩
              rw [t1, t2]
            refine ⟨MR_cg eE (MR_keep2 hR hz60 u67 (fun o _ _ z => by omega)), HR_cg eE eH (HR_keep hH hz60 u67 (fun o _ _ z => by omega)), by rw [eE 0 (by omega), et_1 (by omega)]; exact v0, ?_⟩
            rw [E67, gI_I, if_pos ⟨rfl, rfl⟩, sh_50, if_pos (by omega)]
          · obtain ⟨y1, y2, y3, y4⟩ := i4 j hj
            have eE : ∀ c, c < 7 → (shA B o (i + 1)).1 c (121 + j) = (shA B o i).1 c (121 + j) := fun c hc => by
              rw [sh_1, sh_1]
              by_cases hr : o ≤ j ∧ j < i
              · rw [if_pos (by omega), if_pos (by omega)]
              · rw [if_neg (by omega), if_neg (by omega), if_neg (by omega), if_neg (by omega)]
            have eH : ∀ c, c < 7 → (shA B o (i + 1)).2.1 c (121 + j) = (shA B o i).2.1 c (121 + j) := fun c hc => by
              rw [sh_2, sh_2]
              by_cases hr : o ≤ j ∧ j < i
              · exact (if_pos (by omega)).trans (if_pos (by omega)).symm
              · exact (if_neg (by omega)).trans (if_neg (by omega)).symm
            refine ⟨MR_cg eE (MR_keep2 y1 hzs us (fun o _ _ z => by omega)), HR_cg eE eH (HR_keep y2 hzs us (fun o _ _ z => by omega)), by rw [eE 0 (by omega)]; exact y3, ?_⟩
            rw [us.I (by omega) (by omega), y4, sh_50, sh_50]
            by_cases hr : o ≤ j ∧ j < i
            · rw [if_pos hr, if_pos (by omega)]
            · rw [if_neg hr, if_neg (by omega)])
        rw [v45, v0, ev] at key2
        exact key2)
    rw [e45] at key
    rw [q2.1, r1, r3, r4, r6]
    have k0 : nI (vT_ A o 0) = 0 := by rw [show vT_ A o 0 = 0 from q3]; rfl
    rw [k0] at key
    exact key
  · rw [(tk_u ok hn).1, (tk_u ok hn).2] at h
    exact h M hM Un.rf
theorem wa_take {A : Ab} {x : Int32} (hA : WA A) (h120 : A.2.2 0 ≤ 120) (h8 : A.2.2 3 ≤ 8) (hk0 : ∀ o, o < A.2.2 3 → A.1 0 (121 + o) = 0) : WA (nx_take A x) := by
  unfold nx_take
  split
  · next hc =>
    rw [Bool.and_eq_true] at hc
    have hn : A.2.2 0 ≠ 120 := by simpa using hc.2
    have hc1 := hc.1
    unfold ok_take at hc1
    rw [Bool.and_eq_true] at hc1
    obtain ⟨c1, -⟩ := isO_t hc1.1
    obtain ⟨o, eo⟩ : ∃ o, o = x.toInt.toNat := ⟨_, rfl⟩
    rw [← eo] at c1 ⊢
    obtain ⟨y1, y2, y3⟩ := hA.2.2.2.2.2.2.2 o c1
    have hB : WA (tB_ A o) := wa_add hA (by omega) (Or.inl rfl) (fun _ => y2) (fun q => by
      have : A.1 0 (121 + o) = 3 := q
      have := hk0 o c1
      omega)
    have n0 : (tB_ A o).2.2 0 = A.2.2 0 + 1 := ad_3
    obtain ⟨w1, w2, w3, w4, w5, w6, w7, w8⟩ := hB
    have c1' : ∀ c, 7 ≤ c → c ≠ 50 → (wdA (tB_ A o) o).1 c = (tB_ A o).1 c := fun c h1 h2 => by rw [wd_1]; exact sh_1c h1 h2
    have cj : ∀ c j, j < 121 → c < 7 → (wdA (tB_ A o) o).1 c j = (tB_ A o).1 c j := fun c j hj hc => by rw [wd_1]; exact sh_1n hc (by omega)
    have c2 : ∀ c j, j < 121 → (wdA (tB_ A o) o).2.1 c j = (tB_ A o).2.1 c j := fun c j hj => by rw [wd_2]; exact sh_2n (by omega)
    have c2c : ∀ c, 7 ≤ c → (wdA (tB_ A o) o).2.1 c = (tB_ A o).2.1 c := fun c hc => by rw [wd_2]; exact sh_2c hc
    refine ⟨by rw [wd_3n (by omega)]; exact w1, ?_, ?_, fun e he => ?_, fun l' hl => ?_, ?_, ?_, fun j hj => ?_⟩
    · rw [c1' 40 (by omega) (by omega), c1' 41 (by omega) (by omega)]; exact w2
    · rw [c1' 30 (by omega) (by omega), c1' 31 (by omega) (by omega), c1' 32 (by omega) (by omega), c1' 33 (by omega) (by omega), c1' 34 (by omega) (by omega)]; exact w3
    · rw [wd_3n (by omega)] at he
      obtain ⟨y1, y2, y3, y4⟩ := w4 e he
      rw [wd_3n (by omega), cj 0 e (by omega) (by omega), cj 6 e (by omega) (by omega), cj 3 e (by omega) (by omega), cj 4 e (by omega) (by omega), cj 2 e (by omega) (by omega), c2 0 e (by omega), c2 1 e (by omega), c2 3 e (by omega), c2 4 e (by omega), c2 5 e (by omega), c2 6 e (by omega)]
      refine ⟨y1, y2, ?_, fun z => ?_⟩
      · rcases y3 with y3 | ⟨y0, dd, o, ss, q1, q2, q3, q4, q5, q6, q7, q8, q9, q10, q11, q12⟩
        · exact Or.inl y3
        · refine Or.inr ⟨y0, dd, o, ss, q1, q2, q3, q4, q5, q6, q7, by rw [cj 0 o (by omega) (by omega)]; exact q8, by rw [cj 3 o (by omega) (by omega)]; exact q9, by rw [cj 6 o (by omega) (by omega)]; exact q10, by rw [cj 4 o (by omega) (by omega), cj 2 o (by omega) (by omega)]; exact q11, ?_⟩
          rcases q12 with q12 | ⟨r, t1, t2, t3, t4, t5, t6, t7⟩
          · exact Or.inl q12
          · exact Or.inr ⟨r, t1, t2, t3, by rw [cj 0 r (by omega) (by omega)]; exact t4, by rw [cj 6 r (by omega) (by omega)]; exact t5, by rw [cj 4 r (by omega) (by omega), cj 2 r (by omega) (by omega)]; exact t6, by rw [cj 3 r (by omega) (by omega)]; exact t7⟩
      · obtain ⟨b, t1, t2, t3, t4, t5, t6⟩ := y4 z
        exact ⟨b, t1, t2, by rw [cj 0 b (by omega) (by omega)]; exact t3, by rw [cj 3 b (by omega) (by omega)]; exact t4, by rw [cj 6 b (by omega) (by omega)]; exact t5, by rw [cj 4 b (by omega) (by omega), cj 2 b (by omega) (by omega)]; exact t6⟩
    · rw [wd_3n (by omega)] at hl
      have hb := (w5 l' hl).1
      rw [c1' 10 (by omega) (by omega), c1' 11 (by omega) (by omega), c1' 12 (by omega) (by omega), c2c 10 (by omega), wd_3n (i := 0) (by omega), wd_3n (i := 4) (by omega), cj 0 _ (by omega) (by omega), cj 6 _ (by omega) (by omega), cj 3 _ (by omega) (by omega), cj 4 _ (by omega) (by omega), cj 2 _ (by omega) (by omega)]
      exact w5 l' hl
    · rw [wd_3n (i := 2) (by omega), wd_3n (i := 1) (by omega), wd_3n (i := 4) (by omega), c1' 20 (by omega) (by omega), c1' 21 (by omega) (by omega), c1' 22 (by omega) (by omega)]; exact w6
    · rw [wd_3n (i := 2) (by omega), c1' 21 (by omega) (by omega)]; exact w7
    · rw [wd_3] at hj
      rw [tB_3] at w8
      rw [wd_1, wd_2, sh_50]
      by_cases hoj : o ≤ j
      · rw [if_pos ⟨hoj, hj⟩, sh_2, if_pos (by omega), if_pos rfl, sh_2, if_pos (by omega), if_neg (by omega), if_pos rfl]
        obtain ⟨z1, z2, z3⟩ := w8 (j + 1) (by omega)
        exact ⟨z1, z2, rfl⟩
      · rw [if_neg (by omega), sh_2n (by omega), sh_2n (by omega)]
        exact w8 j (by omega)
  · exact hA
