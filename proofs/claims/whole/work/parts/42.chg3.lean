/-! the desk's change -/
theorem CS_fin {a : Nat} {M M' M43 : Mm} {A : Ab} {e q r : Nat} {v : Nat → Nat} {ar : Int32} {days : Nat} {ro : Option Nat} {post : Int32 → Mm → Prop} (hS : SS a M A) (he : e < A.2.2 0) (hq : EH a M A e q) (hnd : A.2.2 0 + nd_ A e (v 3) days ≤ 120)
    (h : CS a M (A.2.2 0) e q (A.2.1 1 e) ro M' (B3_ A e v ar days)) (hr : ddR M' (a + 2) (mi_ A e (v 3)) = some r) (hr9 : ddI M' r 9 = nI (mi_ A e (v 3))) (hro : pt_ a M' (cf_ A e (v 3) (v 6) 4) = ro) (hrT : ddT M' r = 3) (E43 : M43 = suI (suI (suR M' q 13 (some r)) q 12 (nI (v 6))) q 10 (nI (v 6)))
    (h1 : ∀ M1, DS a M1 (nA_ A e v ar days) → MS (a + 32) M1 A → post (nI (mi_ A e (v 3))) M1) : ddT M43 r = 3 ∧ post (ddI M43 r 9) M43 := by
  obtain ⟨hD, hM, hA⟩ := hS
  have hz := hD.1.2.2.2.2
  have hDE := hD.2.2.2.2.1
  obtain ⟨m1, m2⟩ := nd_mi hnd
  have hmi := mi_le (A := A) (e := e) (v := v)
  have hen : e < (B3_ A e v ar days).2.2 0 := by rw [B3_n]; omega
  obtain ⟨q1, q2, q3, q4, q5⟩ := CS_q h hen
  obtain ⟨c1, c2, c3, c4, c5, c6, c7, c8, c9⟩ := h
  have hz' := c1.2.2.2.2
  have q65 := q1.1
  have u : Un (fun b k => b = q ∧ (k = 10 ∨ k = 12 ∨ k = 13)) M' M43 := by
    rw [E43]
    exact ((Un.sR.tr Un.sI).tr Un.sI).wk (fun b k _ z => by omega)
  have r43 : ddI M43 r 9 = nI (mi_ A e (v 3)) := by rw [E43, gI_I, if_neg (by omega), gI_I, if_neg (by omega)]; exact hr9
  have R2 : ∀ j, ddR M43 (a + 2) j = ddR M' (a + 2) j := fun j => u.R (by omega) (by omega)
  have ptR : ∀ x, pt_ a M43 x = pt_ a M' x := fun x => pt_keep hz' u (fun i z => by omega)
  have X43 : DEx a M43 (md_ (B3_ A e v ar days) e (cf_ A e (v 3) (v 6))) e := DEx_md (DEx_keep c2 hz' hen u (fun b k z => by
    rw [z.1]
    exact ⟨q1, q2, Or.inl ⟨c7, by omega⟩⟩))
  have hE : DE a M43 (nA_ A e v ar days) := by
    unfold nA_
    refine DE_fin X43 (by rw [R2]; exact c7) ?_ ?_ ?_ ?_
    · rw [md_2e (by decide), E43, gI_I, if_pos ⟨rfl, rfl⟩]; rfl
    · rw [md_2e (by decide), E43, gI_I, if_neg (by omega), gI_I, if_pos ⟨rfl, rfl⟩]; rfl
    · rw [md_2e (by decide), ptR, E43]
      show ddR (suR M' q 13 (some r)) q 13 = _
      rw [gR_R, if_pos ⟨rfl, rfl⟩]
      show some r = pt_ a M' (nI (mi_ A e (v 3)))
      unfold pt_
      rw [if_neg (nI_m1 (by omega)), nI_cl (by omega), hr]
    · rw [md_2e (by decide), ptR, hro, u.R q1.2 (by omega)]; exact c9
  rw [r43]
  refine ⟨by rw [E43]; exact hrT, ?_⟩
  have ut : Un (QP a M (A.2.2 0)) M M43 := (c4.tr u).wk (fun b k hb z => by
    rcases z with z | z
    · exact z
    · exact Or.inr (Or.inr ⟨by omega, e, he, by rw [z.1]; exact hq.1⟩))
  have ent : ∀ b, (∃ j, j < A.2.2 0 ∧ ddR M (a + 2) j = some b) → nw_ a M b ∧ ddT M b = 3 ∧ ddI M b 9 ≠ -1 := fun b ⟨j, hj, hb⟩ => by
    obtain ⟨p, y1, y2, y3, y4, y5⟩ := hDE.2.2 j hj
    rw [hb] at y1
    cases y1
    exact ⟨y2, y4.1, by rw [y5.2.1]; exact nI_m1 (by omega)⟩
  refine h1 M43 (DS_E hD ut (fun b k z => ?_) hE (fun l hl => (hA.2.2.2.2.1 l hl).1) (fun c hc => ?_) (fun c hc j hj => ?_) (fun c hc => ?_) (fun c hc j hj => ?_) (fun i hi => B3_3 hi)) (MS_keep hM hz ut (fun b k z => ?_))
  · rcases z with z | z | ⟨-, z⟩
    · exact Or.inl z
    · exact Or.inr (Or.inl z)
    · exact Or.inr (Or.inr (ent b z))
  · funext j
    exact B3_1 (Or.inr (Or.inr hc)) hnd
  · exact B3_1 (by omega) hnd
  · funext j
    have hc0 : mcB c = false := by
      cases hb : mcB c with
      | false => rfl
      | true => have := mcB_t.mp hb; omega
    show (md_ _ e _).2.1 c j = _
    rw [md_2c hc0]
    exact B3_2 (Or.inr (Or.inr hc)) hnd
  · show (md_ _ e _).2.1 c j = _
    rw [md_2n (by omega)]
    exact B3_2 (by omega) hnd
  · rcases z with z | z | ⟨-, z⟩
    · omega
    · omega
    · exact Or.inr (ent b z).1.1
theorem se_change {a : Nat} {M M33 : Mm} {A : Ab} {e q : Nat} {v : Nat → Nat} {ar : Int32} {days : Nat} {post : Int32 → Mm → Prop} (hS : SS a M A) (he : e < A.2.2 0) (hk0 : A.1 0 e = 0) (hq : EH a M A e q) (hch : A.2.1 4 e = -1) (hV : GV v) (hv0 : v 0 = 0) (hN : NE M M33 (fun c _ => v c) 0 ar) (hdays : days ≤ 1000)
    (h0 : 120 < A.2.2 0 + nd_ A e (v 3) days → ∀ M1, DS a M1 A → MS (a + 32) M1 A → post (-3) M1) (h1 : A.2.2 0 + nd_ A e (v 3) days ≤ 120 → ∀ M1, DS a M1 (nA_ A e v ar days) → MS (a + 32) M1 A → post (nI (mi_ A e (v 3))) M1) : PX6_change (a + 1) (some q) (some (ddZ M)) (nI days) M33 post := by
  obtain ⟨hD, hM, hA⟩ := id hS
  have hz := hD.1.2.2.2.2
  have hDE := hD.2.2.2.2.1
  have h120 := hDE.1
  have hO := hq.2.2.2.1
  have hG := hO.2.2.2.2.2.2.2.2.1
  have gs := hG.2.2.2.2.1
  have gd : v 6 ≤ 20000 := hV.2.2.2.2.2.2.2.1
  have gv3 : v 3 < 1024 := hV.2.2.2.2.1
  have gv3p : 0 < v 3 := (hV.2.2.2.2.2.2.2.2.2.1 (Or.inl hv0)).1
  obtain ⟨x1, x9, x10, x11, x12, x13, x14, x15, xk⟩ := id hq.2.2.2.2
  have hD0 : ∀ j b, j < A.2.2 0 → ddR M (a + 2) j = some b → a + 65 ≤ b := fun j b hj hb => by
    obtain ⟨p, y1, y2, -⟩ := hDE.2.2 j hj
    rw [hb] at y1
    cases y1
    exact y2.1
  have ptn : ∀ M', pt_ a M' (-1) = none := fun M' => by unfold pt_; rw [if_pos rfl]
  have hCS : CS a M (A.2.2 0) e q (A.2.1 1 e) none M A := ⟨hD.1, DEx_of hDE, ptk_WA hA, Un.rf, Nat.le_refl _, fun j b y1 y2 => by omega, hq.1, x10, by rw [x14, hch]; exact ptn M⟩
  obtain ⟨h33, hO33, r10, r11, r15⟩ := CS_new hCS he hz hq.1 hN
  have u33 := hN.1
  have D33 : DS a M33 A := DS_scr hD u33 (fun b k z => z.elim)
  have M33S : MS (a + 32) M33 A := MS_keep hM hz u33 (fun b k z => z.elim)
  obtain ⟨q1, q2, q3, q4, q5⟩ := CS_q h33 he
  have s33 := h33.2.1.2.1
  -- the rest of the way, behind the entry of what is left
  have key105 : A.2.2 0 + nd_ A e (v 3) days ≤ 120 → ∀ M' ro, CS a M (A.2.2 0) e q (A.2.1 1 e) ro M' (B1_ A e (v 3) (v 6)) → NO a M M' (ddZ M) v ar → ddR M' (ddZ M) 15 = none → pt_ a M' (cf_ A e (v 3) (v 6) 4) = ro → BX6_change_105 post (a + 1) (some q) (some (ddZ M)) (nI days) (nI (v 6)) M' := by
    intro hnd M' ro hC hNO hn15 hro
    obtain ⟨m1, m2⟩ := nd_mi hnd
    have hmi := mi_le (A := A) (e := e) (v := v)
    have cf4 : cf_ A e (v 3) (v 6) 4 = -1 ∨ ∃ o, cf_ A e (v 3) (v 6) 4 = nI o ∧ o < mi_ A e (v 3) := by
      show (if rsN (A.1 3 e) (v 3) = 0 then (-1 : Int32) else nI (A.2.2 0)) = -1 ∨ _
      by_cases hz0 : rsN (A.1 3 e) (v 3) = 0
      · exact Or.inl (if_pos hz0)
      · refine Or.inr ⟨A.2.2 0, if_neg hz0, ?_⟩
        unfold mi_
        rw [if_neg hz0]; omega
    have heB1 : e < (B1_ A e (v 3) (v 6)).2.2 0 := by rw [B1_n]; omega
    obtain ⟨p1, p2, p3, p4, p5⟩ := CS_q hC heB1
    refine ⟨q, rfl, p2, DW_T hC.1 (by decide), ?_⟩
    rw [hC.2.2.2.2.2.2.2.1]
    refine CS_app hC he hz hq.1 hD0 (by rw [B1_n]; omega) hNO (by rw [hv0, if_neg (by omega)]; exact hn15) (fun z => by omega) (fun M38 hC38 hr38 hi38 u38 => ?_)
    rw [B1_n] at hr38 hi38 u38
    have hC38 : CS a M (A.2.2 0) e q (A.2.1 1 e) ro M38 (B2_ A e v ar) := hC38
    have heB2 : e < (B2_ A e v ar).2.2 0 := by rw [B2_n]; omega
    obtain ⟨t1, t2, t3, t4, t5⟩ := CS_q hC38 heB2
    have rT38 : ddT M38 (ddZ M) = 3 := by rw [u38.T hNO.2.1.2]; exact hNO.2.2.2.1.1
    have z38 := u38.1
    have zM' := hC.1.2.2.2.2
    have noA2 : ∀ j, j ≠ mi_ A e (v 3) → ¬ PA a M' (ddZ M) (mi_ A e (v 3)) (a + 2) j := fun j hj z => by
      rcases z with z | z | z | ⟨-, i, hi, z⟩
      · omega
      · omega
      · omega
      · obtain ⟨p, y1, y2, -⟩ := hC.2.1.2.2 i (by rw [B1_n]; exact hi)
        rw [z] at y1
        cases y1
        have := y2.1
        omega
    have pt38 : pt_ a M38 (cf_ A e (v 3) (v 6) 4) = ro := by
      rw [pt_lt (n := mi_ A e (v 3)) (by omega) zM' u38 (fun j hj => noA2 j (by omega)) cf4]
      exact hro
    refine pk_le days 0 (fun y => ⟨t2, fun M41 E41 M42 E42 M43 E43 => ?_⟩) (fun y n47 e47 M48 E48 => ?_) rfl rfl (by omega) (by omega)
    · have y : days = 0 := by omega
      have eB3 : B3_ A e v ar days = B2_ A e v ar := by unfold B3_; rw [if_pos y]
      rw [← eB3] at hC38
      obtain ⟨f1, f2⟩ := CS_fin (M43 := M43) hS he hq hnd hC38 hr38 hi38 pt38 rT38 (by rw [E43, E42, E41]) (h1 hnd)
      exact ⟨ddZ M, rfl, f1, f2⟩
    · have hd0 : days ≠ 0 := by omega
      have m2 := m2 hd0
      subst e47
      have qz : q < ddZ M38 := t1.2
      have rz : ddZ M < ddZ M38 := by have := hNO.2.1.2; omega
      have eI : ∀ b k, b < ddZ M38 → ddI M48 b k = ddI M38 b k := fun b k hb => by rw [E48, gI_N, if_neg (by omega)]
      have eT : ∀ b, b < ddZ M38 → ddT M48 b = ddT M38 b := fun b hb => by rw [E48, gT_N, if_neg (by omega)]
      obtain ⟨p, y1, y2, y3, y4, -⟩ := hC38.2.1.2.2 (mi_ A e (v 3)) (by rw [B2_n]; omega)
      rw [hr38] at y1
      cases y1
      have b3 : (B2_ A e v ar).1 3 (mi_ A e (v 3)) = v 3 := by
        have := ad_1s (A := B1_ A e (v 3) (v 6)) (v := v) (ar := ar) (en := A.2.1 1 e) (of' := nI e) (c := 3) (by omega)
        rw [B1_n] at this
        exact this
      have q2e : ∀ c, (B2_ A e v ar).1 c e = A.1 c e := fun c => B2_1 (Or.inl he) (by omega)
      refine ⟨ddZ M, rfl, by rw [eT _ rz]; exact rT38, by rw [eT _ qz]; exact t2, ?_⟩
      rw [eI _ _ rz, eI _ _ rz, eI _ _ qz, eI _ _ qz, eI _ _ qz, hi38, t4.2.2.1, y4.2.2.2.2.1, t4.2.2.2.2.2.1, t4.2.2.2.2.2.2.1, q2e, q2e, q2e, b3, E48]
      have hVP := GV_P (s := v 3) (day := v 6) hG hk0 gd gv3p gv3
      refine se_init (G := fun c _ => vP_ A e (v 3) (v 6) c) (j := 0) hVP (fun M54 hN54 => ?_)
      obtain ⟨h54, hO54, -, -, k15⟩ := CS_new hC38 he hz hq.1 hN54
      have u54 := hN54.1
      have rT54 := hO54.2.2.2.1.1
      refine ⟨rT54, fun M56 E56 => ?_⟩
      have n54 := hO54.2.1
      have z3865 := hC38.1.2.2.2.2
      have u56 : Un (fun b k => b = ddZ M38 ∧ k = 15) M54 M56 := by rw [E56]; exact Un.sR
      obtain ⟨s1, s2, s3, s4, s5⟩ := CS_q h54 heB2
      have h56 := CS_keep (ro' := ro) h54 he hz hq.1 u56 (fun b k z => by rw [z.1]; exact ⟨n54, rT54, Or.inr ⟨hO54.2.2.2.2.2.1, hO54.1⟩⟩) (by rw [u56.R s1.2 (by omega)]; exact h54.2.2.2.2.2.2.2.2)
      have hO56 := NO_keep hO54 u56 (fun k k1 k2 k3 z => by omega) (fun f k hf ht z => by rw [z.1, rT54] at ht; cases ht)
      have R54 : ∀ j, ddR M54 (a + 2) j = ddR M38 (a + 2) j := fun j => u54.R (by omega) (fun z => z)
      have R56 : ∀ j, ddR M56 (a + 2) j = ddR M38 (a + 2) j := fun j => by rw [u56.R (by have := u54.1; omega) (by omega), R54]
      have ptm : pt_ a M56 (nI (mi_ A e (v 3))) = some (ddZ M) := by
        unfold pt_
        rw [if_neg (nI_m1 (by omega)), nI_cl (by omega), R56]; exact hr38
      have k15' : ddR M56 (ddZ M38) 15 = if vP_ A e (v 3) (v 6) 0 = 3 then pt_ a M56 (nI (mi_ A e (v 3))) else none := by
        rw [ptm, E56, gR_R, if_pos ⟨rfl, rfl⟩]; rfl
      have pt56 : pt_ a M56 (cf_ A e (v 3) (v 6) 4) = ro := by
        rw [← pt38]
        unfold pt_
        split
        · rfl
        · rw [R56]
      obtain ⟨w1, w2, w3, w4, w5⟩ := CS_q h56 heB2
      have tail : ∀ en2, en2 = tl_ (A.2.1 1 e) (v 6) days → ddT M56 (a + 1) = 7 ∧ PX6_appendFrom (a + 1) (some q) (some (ddZ M38)) en2 M56 (fun M63 => ddT M63 q = 3 ∧ (∀ M65 : Mm, M65 = suR M63 q 13 (some (ddZ M)) → (∀ M66 : Mm, M66 = suI M65 q 12 (nI (v 6)) → (∀ M67 : Mm, M67 = suI M66 q 10 (nI (v 6)) → (ddT M67 (ddZ M) = 3 ∧ (post (ddI M67 (ddZ M) 9) M67)))))) := fun en2 een => by
        refine ⟨DW_T h56.1 (by decide), CS_app h56 he hz hq.1 hD0 (by rw [B2_n]; omega) hO56 k15' (fun _ => Or.inr ⟨mi_ A e (v 3), rfl, by rw [B2_n]; omega⟩) (fun M63 hC63 hr63 hi63 u63 => ?_)⟩
        rw [B2_n] at hr63 hi63 u63
        have eB3 : B3_ A e v ar days = add_ (B2_ A e v ar) (vP_ A e (v 3) (v 6)) (nI (mi_ A e (v 3))) en2 (nI e) := by unfold B3_; rw [if_neg hd0, een]
        rw [← eB3] at hC63
        obtain ⟨j1, j2, -⟩ := CS_q hC63 (by rw [B3_n]; omega)
        have z56 := h56.1.2.2.2.2
        have noA2' : ∀ j, j ≠ mi_ A e (v 3) + 1 → ¬ PA a M56 (ddZ M38) (mi_ A e (v 3) + 1) (a + 2) j := fun j hj z => by
          rcases z with z | z | z | ⟨-, i, hi, z⟩
          · omega
          · omega
          · omega
          · obtain ⟨p, y1, y2, -⟩ := h56.2.1.2.2 i (by rw [B2_n]; exact hi)
            rw [z] at y1
            cases y1
            have := y2.1
            omega
        have r56 : ddZ M < ddZ M56 := by have := u54.1; have := u56.1; omega
        have i56 : ddI M56 (ddZ M) 9 = nI (mi_ A e (v 3)) := by rw [u56.I (by have := u54.1; omega) (by omega), u54.I rz (fun z => z)]; exact hi38
        have i63 : ddI M63 (ddZ M) 9 = nI (mi_ A e (v 3)) := by
          rw [u63.I r56 (fun z => ?_)]
          · exact i56
          · rcases z with z | z | z | ⟨z, -⟩
            · omega
            · omega
            · omega
            · omega
        have r63 : ddR M63 (a + 2) (mi_ A e (v 3)) = some (ddZ M) := by
          rw [u63.R (by omega) (noA2' _ (by omega)), R56]; exact hr38
        have t63 : ddT M63 (ddZ M) = 3 := by rw [u63.T r56, u56.T (by have := u54.1; omega), u54.T rz]; exact rT38
        have pt63 : pt_ a M63 (cf_ A e (v 3) (v 6) 4) = ro := by
          rw [pt_lt (n := mi_ A e (v 3)) (by omega) z56 u63 (fun j hj => noA2' j (by omega)) cf4]
          exact pt56
        refine ⟨j2, fun M65 E65 M66 E66 M67 E67 => ?_⟩
        exact CS_fin (M43 := M67) hS he hq hnd hC63 r63 i63 pt63 t63 (by rw [E67, E66, E65]) (h1 hnd)
      refine ⟨w2, ?_⟩
      rw [h56.2.2.2.2.2.2.2.1, nI_add]
      refine ⟨fun z => ?_, fun z => tail _ (by unfold tl_; rw [if_pos z])⟩
      unfold PJ9_min_7cf53
      refine ⟨fun z1 => tail _ ?_, fun z1 => tail _ ?_⟩
      · unfold tl_
        rw [if_neg z, if_pos (by rw [xi_lt] at z1; rw [xi_le]; omega)]
      · unfold tl_
        rw [if_neg z]
        split
        · next z2 =>
          apply Int32.toInt_inj.mp
          rw [xi_lt] at z1
          rw [xi_le] at z2
          omega
        · rfl
  have key : ∀ s0 s1 : Int32, s0 + s1 = nI (nd_ A e (v 3) days) → BX6_change_34 post (a + 1) (some q) (some (ddZ M)) (nI days) (nI (rsN (A.1 3 e) (v 3))) s0 s1 M33 := by
    intro s0 s1 hs v11 e11
    have hT7 : ddT M33 (a + 1) = 7 := DW_T h33.1 (by decide)
    have hndl : nd_ A e (v 3) days ≤ 3 := by
      unfold nd_
      split <;> split <;> omega
    refine ⟨hT7, hT7, ?_⟩
    rw [s33, e11, hs, nI_add]
    refine pk_lt 120 (A.2.2 0 + nd_ A e (v 3) days) (fun y => ⟨fun z => absurd rfl z, fun _ => h0 y M33 D33 M33S⟩) (fun y => ⟨fun _ => ⟨ddZ M, rfl, hO33.2.2.2.1.1, fun v19 e19 => ?_⟩, fun z => absurd z (by decide)⟩) rfl rfl (by omega) (by omega)
    rw [hO33.2.2.2.1.2.2.2.2.2.2.2.1] at e19
    rw [e19, nI_ne0' (by have := rs_lt (s := v 3) gs; omega)]
    refine ⟨fun z => ?_, fun z n21 e21 M22 E22 => ?_⟩
    · have eB1 : B1_ A e (v 3) (v 6) = A := by unfold B1_; rw [if_pos z]
      refine key105 y M33 none (by rw [eB1]; exact h33) hO33 r15 ?_
      show pt_ a M33 (if rsN (A.1 3 e) (v 3) = 0 then (-1 : Int32) else nI (A.2.2 0)) = none
      rw [if_pos z]; exact ptn M33
    · subst e21
      have eI : ∀ k, ddI M22 q k = ddI M33 q k := fun k => by rw [E22, gI_N, if_neg (by have := q1.2; omega)]
      have eB1 : B1_ A e (v 3) (v 6) = add_ A (vR_ A e (v 3) (v 6)) (A.2.1 0 e) (A.2.1 1 e) (nI e) := by unfold B1_; rw [if_neg z]
      refine ⟨q, rfl, by rw [E22, gT_N, if_neg (by have := q1.2; omega)]; exact q2, ?_⟩
      rw [eI, eI, eI, eI, q5, q4.2.2.1, q4.2.2.2.2.2.1, q4.2.2.2.2.2.2.1, E22]
      refine se_init (G := fun c _ => vR_ A e (v 3) (v 6) c) (j := 0) (GV_R hG hk0 gd z) (fun M27 hN27 => ?_)
      obtain ⟨h27, hO27, -, -, k15⟩ := CS_new h33 he hz hq.1 hN27
      have u27 := hN27.1
      obtain ⟨o1, o2, o3, o4, o5⟩ := CS_q h27 he
      have hOr27 : NO a M M27 (ddZ M) v ar := NO_keep hO33 u27 (fun k _ _ _ z => z) (fun f k _ _ z => z)
      have k15r : ddR M27 (ddZ M) 15 = none := by rw [u27.R hO33.2.1.2 (fun z => z)]; exact r15
      refine ⟨o2, fun M29 E29 => ?_⟩
      have u29 : Un (fun b k => b = q ∧ k = 14) M27 M29 := by rw [E29]; exact Un.sR
      have r14 : ddR M29 q 14 = some (ddZ M33) := by rw [E29, gR_R, if_pos ⟨rfl, rfl⟩]
      have h29 := CS_keep (ro' := some (ddZ M33)) h27 he hz hq.1 u29 (fun b k z => by rw [z.1]; exact ⟨o1, o2, Or.inl ⟨rfl, z.2⟩⟩) r14
      have nq : ∀ r v' ar', NO a M M27 r v' ar' → r ≠ q := fun r v' ar' hh y => by
        have := hh.2.2.2.2.2.1
        rw [y, o3] at this
        exact nI_m1 (n := e) (by omega) this
      have f20 : ∀ f k, nw_ a M27 f → ddT M27 f = 20 → ¬ (f = q ∧ k = 14) := fun f k hf ht z => by rw [z.1, o2] at ht; cases ht
      have hO29 := NO_keep hO27 u29 (fun k _ _ _ z => nq _ _ _ hO27 z.1) f20
      have hOr29 := NO_keep hOr27 u29 (fun k _ _ _ z => nq _ _ _ hOr27 z.1) f20
      have k29 : ddR M29 (ddZ M33) 15 = none := by rw [u29.R hO27.2.1.2 (fun z => nq _ _ _ hO27 z.1)]; exact k15
      have k29r : ddR M29 (ddZ M) 15 = none := by rw [u29.R hOr27.2.1.2 (fun z => nq _ _ _ hOr27 z.1)]; exact k15r
      refine ⟨DW_T h29.1 (by decide), ?_⟩
      rw [r14, h29.2.2.2.2.2.2.2.1]
      have hndp : A.2.2 0 < 120 := by unfold nd_ at y; omega
      refine CS_app h29 he hz hq.1 hD0 hndp hO29 (by rw [show vR_ A e (v 3) (v 6) 0 = 0 from rfl, if_neg (by decide)]; exact k29) (fun z => absurd (show (0 : Nat) = 3 from z) (by decide)) (fun M32 hC32 hr32 hi32 u32 => ?_)
      rw [← eB1] at hC32
      have nr : ddZ M ≠ ddZ M33 := by have := hO33.2.1.2; omega
      have noP : ∀ k, ¬ PA a M29 (ddZ M33) (A.2.2 0) (ddZ M) k := fun k z => by
        rcases z with z | z | z | ⟨-, i, hi, z⟩
        · omega
        · omega
        · omega
        · obtain ⟨p, y1, y2, y3, y4, -, y9, -⟩ := h29.2.1.2.2 i hi
          rw [z] at y1
          cases y1
          rw [hOr29.2.2.2.2.2.1] at y9
          exact nI_m1 (n := i) (by omega) y9.symm
      refine key105 y M32 (some (ddZ M33)) hC32 (NO_keep hOr29 u32 (fun k _ _ _ => noP k) (fun f k hf ht z => ?_)) (by rw [u32.R hOr29.2.1.2 (noP 15)]; exact k29r) ?_
      · have f65 := hf.1
        rcases z with z | z | z | ⟨-, i, hi, z⟩
        · omega
        · omega
        · rw [z.1, hO29.2.2.2.1.1] at ht; cases ht
        · obtain ⟨p, y1, y2, y3, y4, -⟩ := h29.2.1.2.2 i hi
          rw [z] at y1
          cases y1
          rw [y4.1] at ht; cases ht
      · show pt_ a M32 (if rsN (A.1 3 e) (v 3) = 0 then (-1 : Int32) else nI (A.2.2 0)) = _
        rw [if_neg z]
        unfold pt_
        rw [if_neg (nI_m1 (by omega)), nI_cl (by omega)]
        exact hr32
  refine ⟨q, rfl, q2, ddZ M, rfl, hO33.2.2.2.1.1, fun v7 e7 => ?_⟩
  rw [q4.2.2.2.2.1, hO33.2.2.2.1.2.2.2.2.1, rs_int gs] at e7
  have rl := rs_lt (s := v 3) gs
  rw [e7, nI_ne0' (n := rsN (A.1 3 e) (v 3)) (by omega)]
  have nd0 : ∀ a b : Nat, rsN (A.1 3 e) (v 3) = 0 ∧ a = 1 ∨ rsN (A.1 3 e) (v 3) ≠ 0 ∧ a = 2 → days = 0 ∧ b = 0 ∨ days ≠ 0 ∧ b = 1 → a + b = nd_ A e (v 3) days := fun a b ha hb => by
    unfold nd_
    rcases ha with ⟨ha, ha2⟩ | ⟨ha, ha2⟩ <;> rcases hb with ⟨hb, hb2⟩ | ⟨hb, hb2⟩ <;> simp only [ha, hb, if_true, if_false, ha2, hb2]
  refine ⟨fun z => pk_le days 0 (fun y => key _ _ ?_) (fun y => key _ _ ?_) rfl rfl (by omega) (by omega), fun z => pk_le days 0 (fun y => key _ _ ?_) (fun y => key _ _ ?_) rfl rfl (by omega) (by omega)⟩
  · rw [← nd0 1 0 (Or.inl ⟨z, rfl⟩) (Or.inl ⟨by omega, rfl⟩)]; rfl
  · rw [← nd0 1 1 (Or.inl ⟨z, rfl⟩) (Or.inr ⟨by omega, rfl⟩)]; rfl
  · rw [← nd0 2 0 (Or.inr ⟨z, rfl⟩) (Or.inl ⟨by omega, rfl⟩)]; rfl
  · rw [← nd0 2 1 (Or.inr ⟨z, rfl⟩) (Or.inr ⟨by omega, rfl⟩)]; rfl
