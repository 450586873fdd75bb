/-! what holds of the numbers stays -/
theorem uN_c {A : Ab} {c j v c' : Nat} (h : c' ≠ c) : (uN_ A c j v).1 c' = A.1 c' := by funext k; rw [uN_1, if_neg (fun z => h z.1)]
theorem uH_c {A : Ab} {c j c' : Nat} {v : Int32} (h : c' ≠ c) : (uH_ A c j v).2.1 c' = A.2.1 c' := by funext k; rw [uH_2, if_neg (fun z => h z.1)]
theorem wa_now {A : Ab} {x : Int32} (hA : WA A) : WA (nx_now A x) := by
  unfold nx_now
  split
  · next hc =>
    have hx := wi_t.mp hc
    obtain ⟨w1, w2, w3, w4, w5, w6, w7, w8⟩ := hA
    have e4 : (uC_ A 4 x.toInt.toNat).2.2 4 = x.toInt.toNat := rfl
    have en : ∀ i, i ≠ 4 → (uC_ A 4 x.toInt.toNat).2.2 i = A.2.2 i := fun i hi => by rw [uC_3, if_neg hi]
    refine ⟨by rw [e4]; omega, w2, w3, ?_, fun l hl => ?_, fun k hk => ?_, ?_, ?_⟩
    · rw [en 0 (by omega)]; exact w4
    · rw [en 1 (by omega)] at hl
      rw [en 0 (by omega), e4]
      obtain ⟨y1, y2, y3, y4, y5, y6, y7, y8⟩ := w5 l hl
      exact ⟨y1, y2, y3, y4, y5, y6, by show A.1 12 l ≤ _; omega, y8⟩
    · rw [en 2 (by omega)] at hk
      rw [en 1 (by omega), e4]
      obtain ⟨y1, y2, y3⟩ := w6 k hk
      exact ⟨by show A.1 21 k ≤ _; omega, y2, y3⟩
    · rw [en 2 (by omega)]; exact w7
    · rw [en 3 (by omega)]; exact w8
  · exact hA
theorem wa_demand {A : Ab} {x y z : Int32} (hA : WA A) : WA (nx_demand A x y z) := by
  unfold nx_demand
  split
  · next hc =>
    unfold ok_demand at hc
    rw [Bool.and_eq_true, Bool.and_eq_true] at hc
    have hy := wi_t.mp hc.2.1
    have hz := wi_t.mp hc.2.2
    obtain ⟨w1, w2, w3, w4, w5, w6, w7, w8⟩ := hA
    obtain ⟨B, eB⟩ : ∃ B, B = uN_ (uN_ A 40 x.toInt.toNat y.toInt.toNat) 41 x.toInt.toNat z.toInt.toNat := ⟨_, rfl⟩
    have c1 : ∀ c, c ≠ 40 → c ≠ 41 → B.1 c = A.1 c := fun c h1 h2 => by rw [eB, uN_c h2, uN_c h1]
    have c2 : B.2 = A.2 := by rw [eB]; rfl
    rw [← eB]
    refine ⟨by rw [c2]; exact w1, fun j hj => ?_, ?_, ?_, ?_, ?_, ?_, ?_⟩
    · obtain ⟨y1, y2⟩ := w2 j hj
      rw [eB, uN_1, if_neg (by omega), uN_1, uN_1, uN_1]
      constructor
      · split <;> omega
      · split
        · omega
        · rw [if_neg (by omega)]; exact y2
    · rw [c1 30 (by omega) (by omega), c1 31 (by omega) (by omega), c1 32 (by omega) (by omega), c1 33 (by omega) (by omega), c1 34 (by omega) (by omega)]; exact w3
    · rw [c2, c1 0 (by omega) (by omega), c1 6 (by omega) (by omega), c1 3 (by omega) (by omega), c1 4 (by omega) (by omega), c1 2 (by omega) (by omega)]; exact w4
    · rw [c2, c1 0 (by omega) (by omega), c1 6 (by omega) (by omega), c1 3 (by omega) (by omega), c1 4 (by omega) (by omega), c1 2 (by omega) (by omega), c1 10 (by omega) (by omega), c1 11 (by omega) (by omega), c1 12 (by omega) (by omega)]; exact w5
    · rw [c2, c1 20 (by omega) (by omega), c1 21 (by omega) (by omega), c1 22 (by omega) (by omega)]; exact w6
    · rw [c2, c1 21 (by omega) (by omega)]; exact w7
    · rw [c2, c1 50 (by omega) (by omega)]; exact w8
  · exact hA
theorem wa_calls {A B : Ab} (hA : WA A) (c1 : ∀ c, c < 30 ∨ 35 ≤ c → B.1 c = A.1 c) (c2 : ∀ c, c ≠ 30 → B.2.1 c = A.2.1 c) (c3 : B.2.2 = A.2.2) (h : ∀ k, k < 4 → B.1 30 k ≤ 1 ∧ B.1 31 k ≤ 1 ∧ B.1 32 k ≤ 20000 ∧ B.1 33 k ≤ 15 ∧ (B.1 30 k = 1 → 10 ^ B.1 33 k ≤ B.1 34 k ∧ B.1 34 k < 2 * 10 ^ B.1 33 k) ∧ (B.1 33 k = 15 → B.1 31 k = 1) ∧ (B.1 30 k = 0 → B.1 33 k = 0)) : WA B := by
  obtain ⟨w1, w2, w3, w4, w5, w6, w7, w8⟩ := hA
  refine ⟨by rw [c3]; exact w1, ?_, h, ?_, ?_, ?_, ?_, ?_⟩
  · rw [c1 40 (by omega), c1 41 (by omega)]; exact w2
  · rw [c3, c1 0 (by omega), c1 6 (by omega), c1 3 (by omega), c1 4 (by omega), c1 2 (by omega), c2 0 (by omega), c2 1 (by omega), c2 3 (by omega), c2 4 (by omega), c2 5 (by omega), c2 6 (by omega)]; exact w4
  · rw [c3, c1 0 (by omega), c1 6 (by omega), c1 3 (by omega), c1 4 (by omega), c1 2 (by omega), c1 10 (by omega), c1 11 (by omega), c1 12 (by omega), c2 10 (by omega)]; exact w5
  · rw [c3, c1 20 (by omega), c1 21 (by omega), c1 22 (by omega)]; exact w6
  · rw [c3, c1 21 (by omega)]; exact w7
  · rw [c3, c1 50 (by omega), c2 0 (by omega), c2 1 (by omega)]; exact w8
theorem wa_call {A : Ab} {x : Int32} (hA : WA A) : WA (nx_call A x) := by
  unfold nx_call
  split
  · refine wa_calls hA (fun c hc => ?_) (fun c hc => ?_) bg_3 (fun k hk => ?_)
    · funext k
      rw [bg_1]
      split
      · rw [if_neg (by omega), if_neg (by omega), if_neg (by omega), if_neg (by omega), if_neg (by omega)]
      · rfl
    · funext k
      rw [bg_2, if_neg (fun z => hc z.1)]
    · have w1 := hA.1
      have w3 := hA.2.2.1 k hk
      rw [bg_1, bg_1, bg_1, bg_1, bg_1]
      by_cases hkx : k = x.toInt.toNat
      · simp only [hkx, if_true, Nat.reduceEqDiff, if_false]
        refine ⟨by omega, by omega, by omega, by omega, fun _ => by simp, fun z => absurd z (by simp), fun z => absurd z (by simp)⟩
      · simp only [hkx, if_false]
        exact w3
  · exact hA
theorem wa_waits {A : Ab} {x : Int32} (hA : WA A) : WA (nx_waits A x) := by
  unfold nx_waits
  split
  · refine wa_calls hA (fun c hc => uN_c (by omega)) (fun c hc => rfl) rfl (fun k hk => ?_)
    obtain ⟨y1, y2, y3, y4, y5, y6, y7⟩ := hA.2.2.1 k hk
    rw [uN_c (c' := 30) (by omega), uN_c (c' := 32) (by omega), uN_c (c' := 33) (by omega), uN_c (c' := 34) (by omega), uN_1]
    refine ⟨y1, ?_, y3, y4, y5, fun z => ?_, y7⟩
    · split <;> omega
    · split
      · rfl
      · exact y6 z
  · exact hA
theorem wa_finish {A : Ab} {x d : Int32} (hA : WA A) (hGW : ∀ e, e < A.2.2 0 → GW A.1 e) (h120 : A.2.2 0 ≤ 120) : WA (nx_finish A x d) := by
  unfold nx_finish
  split
  · next hc =>
    unfold ok_finish mEnd isD ins_ at hc
    simp only [Bool.and_eq_true, Bool.not_eq_true', decide_eq_false_iff_not] at hc
    obtain ⟨cE, -, h2, h3, -⟩ := hc
    obtain ⟨c1, -⟩ := isE_t cE
    have h2 := wi_t.mp h2
    have g6 := (hGW _ c1).2.2.2.2.2.2.2.1
    rw [xi_le, nI_T (by omega)] at h3
    obtain ⟨w1, w2, w3, w4, w5, w6, w7, w8⟩ := hA
    refine ⟨w1, w2, w3, fun e he => ?_, ?_, w6, w7, ?_⟩
    · obtain ⟨y1, y2, y3, y4⟩ := w4 e he
      rw [uH_c (c' := 0) (by omega), uH_c (c' := 3) (by omega), uH_c (c' := 4) (by omega), uH_c (c' := 5) (by omega), uH_c (c' := 6) (by omega)]
      refine ⟨?_, y2, y3, y4⟩
      rw [uH_2]
      split
      · next hz =>
        refine Or.inr ⟨d.toInt.toNat, (nI_toNat (by omega)).symm, ?_, by omega⟩
        rw [hz.2]
        show A.1 6 x.toInt.toNat < _
        omega
      · exact y1
    · rw [uH_c (c' := 10) (by omega)]; exact w5
    · intro o ho
      rw [uH_c (c' := 0) (by omega), uH_2, if_neg (fun z => by have := z.2; omega)]
      exact w8 o ho
  · exact hA
/-! the law's loop -/
theorem ss_next {a : Nat} {M1 M2 : Mm} {A : Ab} (hD : DS a M1 A) (hM : MS (a + 32) M2 A) (u : Un (fun b _ => a + 32 ≤ b ∧ b < a + 32 + 33) M1 M2) (hA : WA A) : SS a M2 A := ⟨DS_keep hD u (fun b k z => by omega), hM, hA⟩
set_option maxRecDepth 100000 in
set_option maxHeartbeats 40000000 in
theorem law_lp {L : Nat} {xs : Nat → Int32} {a : Nat} (hL : L ≤ 3584) : ∀ (fu i : Nat) (M : Mm) (A : Ab), i + fu = 513 → 7 * i ≤ L ∨ i = 0 → SS a M A → DL_law_18 L xs (fun r _ => r = 1) fu (some a) (some (a + 32)) (nI (7 * i)) M := by
  intro fu
  induction fu with
  | zero => intro i M A h1 h2; omega
  | succ fu ih =>
    intro i M A h1 h2 hS
    obtain ⟨hD, hM, hA⟩ := id hS
    have hz : a + 32 + 33 ≤ ddZ M := hD.1.2.2.2.2
    have h120 := hD.2.2.2.2.1.1
    have h8 := hD.2.2.2.2.2.2.1
    have hGW := GW_E hD.2.2.2.2.1
    have hk0 : ∀ o, o < A.2.2 3 → A.1 0 (121 + o) = 0 := fun o ho => (hM.2.2.2.2.2.2.2.2 o ho).2.2.1
    have hT0 : ddT M a = 11 := DW_T hD.1 (i := 0) (by decide)
    have hT1 : ddT M (a + 32) = 12 := hM.1.1
    show BL_law_18 L xs (DL_law_18 L xs (fun r _ => r = 1) fu) (fun r _ => r = 1) (some a) (some (a + 32)) (nI (7 * i)) M
    have e7 : (Int32.ofNat L - 7).toInt = (L : Int) - 7 := pk_sub_toInt (a := L) (b := 7) (by omega) (by omega)
    unfold BL_law_18
    refine ⟨fun _ => rfl, fun c => ?_⟩
    rw [xi_lt, e7, nI_T (by omega)] at c
    have hi7 : 7 * i + 7 ≤ L := by omega
    have vp : ∀ t : Nat, t < 7 → vp_in (nI (7 * i) + nI t) L := fun t ht => by rw [nI_add]; exact nI_in2 (by omega) (by omega)
    have nx : ∀ M2 A2, SS a M2 A2 → DL_law_18 L xs (fun r _ => r = 1) fu (some a) (some (a + 32)) (nI (7 * i) + 7) M2 := fun M2 A2 h5 => by
      have := ih (i + 1) M2 A2 (by omega) (Or.inl (by omega)) h5
      rw [show nI (7 * i) + 7 = nI (7 * (i + 1)) by rw [show (7 : Int32) = nI 7 from rfl, nI_add, Nat.mul_succ]]
      exact this
    have v1 := vp 1 (by omega)
    have v2 := vp 2 (by omega)
    have v3 := vp 3 (by omega)
    have v4 := vp 4 (by omega)
    have v5 := vp 5 (by omega)
    have v6 := vp 6 (by omega)
    have v0 : vp_in (nI (7 * i)) L := nI_in2 (by omega) (by omega)
    have z1 : ∀ M1, DS a M1 A → a + 32 + 33 ≤ ddZ M1 := fun M1 h => h.1.2.2.2.2
    refine ⟨v0, fun _ => ?_, fun _ => ?_, fun _ => ?_, fun _ => ?_, fun _ => ?_, fun _ => ?_, fun _ => ?_, fun _ => ?_, fun _ => ?_, fun _ => ?_, fun _ => ?_, fun _ => ?_, fun _ => ?_, fun _ => ?_, fun _ => ?_, fun _ => ?_, fun _ => ?_, fun _ => ?_, fun _ => ?_, fun _ => ?_, fun _ => ?_, fun _ => ?_, fun _ => ?_, fun _ => ?_, fun _ => ?_, fun _ => ?_, fun _ => ?_, fun _ => ?_⟩
    · exact ⟨v1, a, rfl, hT0, dn_now hS (fun M1 hD1 hM1 => ⟨v1, a + 32, rfl, hM1.1.1, mn_now hM1 hA (hD1.1.2.2.2.2) (fun M2 hM2 u => ⟨fun _ => nx M2 _ (ss_next hD1 hM2 u (wa_now hA)), fun q => absurd rfl q⟩)⟩)⟩
    · exact ⟨v1, v2, v3, v4, v5, a, rfl, hT0, dn_block hS (fun M1 hD1 hM1 => ⟨v1, v2, v3, v4, v5, a + 32, rfl, hM1.1.1, mn_block hM1 hA (hD1.1.2.2.2.2) (fun M2 hM2 u => ⟨fun _ => nx M2 _ (ss_next hD1 hM2 u (wa_block hA h120)), fun q => absurd rfl q⟩)⟩)⟩
    · exact ⟨v1, v2, v3, a, rfl, hT0, dn_serv hS (fun M1 hD1 hM1 => ⟨v1, v2, v3, a + 32, rfl, hM1.1.1, mn_serv hM1 hA (hD1.1.2.2.2.2) (fun M2 hM2 u => ⟨fun _ => nx M2 _ (ss_next hD1 hM2 u (wa_serv hA h120)), fun q => absurd rfl q⟩)⟩)⟩
    · exact ⟨v1, v2, v3, v4, a, rfl, hT0, dn_forg hS (fun M1 hD1 hM1 => ⟨v1, v2, v3, v4, a + 32, rfl, hM1.1.1, mn_forg hM1 hA (hD1.1.2.2.2.2) (fun M2 hM2 u => ⟨fun _ => nx M2 _ (ss_next hD1 hM2 u (wa_forg hA h120)), fun q => absurd rfl q⟩)⟩)⟩
    · exact ⟨v1, v2, a, rfl, hT0, dn_finish hS (fun M1 hD1 hM1 => ⟨v1, v2, a + 32, rfl, hM1.1.1, mn_finish hM1 hA (hD1.1.2.2.2.2) (fun M2 hM2 u => ⟨fun _ => nx M2 _ (ss_next hD1 hM2 u (wa_finish hA hGW h120)), fun q => absurd rfl q⟩)⟩)⟩
    · exact ⟨v1, v2, v3, v4, v5, v6, a, rfl, hT0, dn_split hS (fun M1 hD1 hM1 => ⟨v1, v2, v3, v4, v5, v6, a + 32, rfl, hM1.1.1, mn_split hM1 hA (hD1.1.2.2.2.2) (fun M2 hM2 u => ⟨fun _ => nx M2 _ (ss_next hD1 hM2 u (wa_split hA hGW)), fun q => absurd rfl q⟩)⟩)⟩
    · exact ⟨v1, v2, v3, v4, a, rfl, hT0, dn_len hS (fun M1 hD1 hM1 => ⟨v1, v2, v3, v4, a + 32, rfl, hM1.1.1, mn_len hM1 hA (hD1.1.2.2.2.2) (fun M2 hM2 u => ⟨fun _ => nx M2 _ (ss_next hD1 hM2 u (wa_len hA hGW)), fun q => absurd rfl q⟩)⟩)⟩
    · exact ⟨v1, v2, a, rfl, hT0, dn_entry hS ⟨v1, v2, a + 32, rfl, hT1, mn_entry hM  ⟨fun _ => nx M _ hS, fun q => absurd rfl q⟩⟩⟩
    · exact ⟨v1, a, rfl, hT0, dn_pairs hS (fun M1 hD1 hM1 => ⟨v1, a + 32, rfl, hM1.1.1, mn_pairs hM1 ⟨fun _ => nx M1 _ ⟨hD1, hM1, hA⟩, fun q => absurd rfl q⟩⟩)⟩
    · exact ⟨v1, v2, v3, a, rfl, hT0, dn_pair hS (fun M1 hD1 hM1 => ⟨v1, v2, v3, a + 32, rfl, hM1.1.1, mn_pair hM1 ⟨fun _ => nx M1 _ ⟨hD1, hM1, hA⟩, fun q => absurd rfl q⟩⟩)⟩
    · exact ⟨v1, v2, a, rfl, hT0, dn_line hS (fun M1 hD1 hM1 => ⟨v1, v2, a + 32, rfl, hM1.1.1, mn_line hM1 hA (hD1.1.2.2.2.2) (fun M2 hM2 u => ⟨fun _ => nx M2 _ (ss_next hD1 hM2 u (wa_line hA hGW)), fun q => absurd rfl q⟩)⟩)⟩
    · exact ⟨v1, a, rfl, hT0, dn_drop hS (fun M1 hD1 hM1 => ⟨v1, a + 32, rfl, hM1.1.1, mn_drop hM1 (hD1.1.2.2.2.2) (fun M2 hM2 u => ⟨fun _ => nx M2 _ (ss_next hD1 hM2 u (wa_drop hA)), fun q => absurd rfl q⟩)⟩)⟩
    · exact ⟨v1, v2, a, rfl, hT0, dn_port hS (fun M1 hD1 hM1 => ⟨v1, v2, a + 32, rfl, hM1.1.1, mn_port hM1 hA (hD1.1.2.2.2.2) (fun M2 hM2 u => ⟨fun _ => nx M2 _ (ss_next hD1 hM2 u (wa_port hA)), fun q => absurd rfl q⟩)⟩)⟩
    · exact ⟨v1, v2, a, rfl, hT0, dn_num hS ⟨v1, v2, a + 32, rfl, hT1, mn_num hM hA ⟨fun _ => nx M _ hS, fun q => absurd ((lg_cmp_eq _ _).mpr rfl) q⟩⟩⟩
    · exact ⟨v1, v2, v3, a, rfl, hT0, dn_lineAt hS ⟨v1, v2, v3, a + 32, rfl, hT1, mn_lineAt hM hA ⟨fun _ => nx M _ hS, fun q => absurd rfl q⟩⟩⟩
    · exact ⟨v1, a, rfl, hT0, dn_call hS (fun M1 hD1 hM1 => ⟨v1, a + 32, rfl, hM1.1.1, mn_call hM1 (hD1.1.2.2.2.2) (fun M2 hM2 u => ⟨fun _ => nx M2 _ (ss_next hD1 hM2 u (wa_call hA)), fun q => absurd rfl q⟩)⟩)⟩
    · exact ⟨v1, v2, a, rfl, hT0, dn_figure hS (fun M1 hD1 hM1 => ⟨v1, v2, a + 32, rfl, hM1.1.1, mn_figure hM1 hA (hD1.1.2.2.2.2) (fun M2 hM2 u => ⟨fun _ => nx M2 _ (ss_next hD1 hM2 u (wa_figure hA hGW)), fun q => absurd rfl q⟩)⟩)⟩
    · exact ⟨v1, a, rfl, hT0, dn_waits hS (fun M1 hD1 hM1 => ⟨v1, a + 32, rfl, hM1.1.1, mn_waits hM1 hA (hD1.1.2.2.2.2) (fun M2 hM2 u => ⟨fun _ => nx M2 _ (ss_next hD1 hM2 u (wa_waits hA)), fun q => absurd rfl q⟩)⟩)⟩
    · exact ⟨v1, v2, a, rfl, hT0, dn_told hS (fun M1 hD1 hM1 => ⟨v1, v2, a + 32, rfl, hM1.1.1, mn_told hM1 hA (hD1.1.2.2.2.2) (fun M2 hM2 u => ⟨fun _ => nx M2 _ (ss_next hD1 hM2 u hA), fun q => absurd rfl q⟩)⟩)⟩
    · exact ⟨v1, v2, v3, a, rfl, hT0, dn_leads hS ⟨v1, v2, v3, a + 32, rfl, hT1, mn_leads hM hA hz (fun M2 hM2 u => ⟨fun _ => nx M2 _ (ss_next hD hM2 u hA), fun q => absurd rfl q⟩)⟩⟩
    · exact ⟨v1, v2, v3, a, rfl, hT0, dn_demand hS (fun M1 hD1 hM1 => ⟨v1, v2, v3, a + 32, rfl, hM1.1.1, mn_demand hM1 (hD1.1.2.2.2.2) (fun M2 hM2 u => ⟨fun _ => nx M2 _ (ss_next hD1 hM2 u (wa_demand hA)), fun q => absurd rfl q⟩)⟩)⟩
    · exact ⟨v1, v2, a, rfl, hT0, dn_room hS ⟨v1, v2, a + 32, rfl, hT1, mn_room hM  ⟨fun _ => nx M _ hS, fun q => absurd ((lg_cmp_eq _ _).mpr rfl) q⟩⟩⟩
    · exact ⟨v1, a, rfl, hT0, dn_short hS ⟨v1, a + 32, rfl, hT1, mn_short hM hA hz (fun M2 hM2 u => ⟨fun _ => nx M2 _ (ss_next hD hM2 u hA), fun q => absurd rfl q⟩)⟩⟩
    · exact ⟨v1, v2, v3, v4, v5, v6, a, rfl, hT0, dn_might hS (fun M1 hD1 hM1 => ⟨v1, v2, v3, v4, v5, v6, a + 32, rfl, hM1.1.1, mn_might hM1 hA (hD1.1.2.2.2.2) (fun M2 hM2 u => ⟨fun _ => nx M2 _ (ss_next hD1 hM2 u (wa_might hA h120)), fun q => absurd rfl q⟩)⟩)⟩
    · exact ⟨v1, v2, a, rfl, hT0, dn_rel hS (fun M1 hD1 hM1 => ⟨v1, v2, a + 32, rfl, hM1.1.1, mn_rel hM1 hA (hD1.1.2.2.2.2) (fun M2 hM2 u => ⟨fun _ => nx M2 _ (ss_next hD1 hM2 u hA), fun q => absurd rfl q⟩)⟩)⟩
    · exact ⟨v1, a, rfl, hT0, dn_take hS (fun M1 hD1 hM1 => ⟨v1, a + 32, rfl, hM1.1.1, mn_take hM1 hA (hD1.1.2.2.2.2) (fun M2 hM2 u => ⟨fun _ => nx M2 _ (ss_next hD1 hM2 u (wa_take hA h120 h8 hk0)), fun q => absurd rfl q⟩)⟩)⟩
    · exact ⟨v1, a, rfl, hT0, dn_count hS ⟨v1, a + 32, rfl, hT1, mn_count hM hA ⟨fun _ => nx M _ hS, fun q => absurd rfl q⟩⟩⟩
    · exact nx M _ hS
