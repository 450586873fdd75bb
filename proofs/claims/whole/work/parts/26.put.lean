/-! the same numbers at another place -/
section TR
variable {G G' : Nat → Nat → Nat} {j j' : Nat}
theorem mayN_tr (h : ∀ c, c < 7 → G' c j' = G c j) (i : Nat) : mayN G' j' i = mayN G j i := by
  unfold mayN; rw [h 1 (by omega), h 2 (by omega), h 3 (by omega)]
theorem GW_tr (h : ∀ c, c < 7 → G' c j' = G c j) (hG : GW G j) : GW G' j' := by
  unfold GW; rw [h 0 (by omega), h 1 (by omega), h 2 (by omega), h 3 (by omega), h 4 (by omega), h 5 (by omega), h 6 (by omega)]; exact hG
theorem nu_tr (h : ∀ c, c < 7 → G' c j' = G c j) : nu_ G' j' = nu_ G j := by
  unfold nu_; rw [h 2 (by omega), h 3 (by omega), h 4 (by omega)]
theorem EO_tr {M : Mm} {q : Nat} (h : ∀ c, c < 7 → G' c j' = G c j) (hE : EO M q G j) : EO M q G' j' := by
  obtain ⟨hT, e0, e2, e3, e4, e5, e6, e7, hG, f, f1, f2, f3, f4⟩ := hE
  refine ⟨hT, ?_, ?_, ?_, ?_, ?_, ?_, ?_, GW_tr h hG, f, f1, f2, f3, fun i hi => by rw [mayN_tr h]; exact f4 i hi⟩
  · rw [h 0 (by omega)]; exact e0
  · rw [h 1 (by omega)]; exact e2
  · rw [h 2 (by omega)]; exact e3
  · rw [h 3 (by omega)]; exact e4
  · rw [h 4 (by omega)]; exact e5
  · rw [h 5 (by omega)]; exact e6
  · rw [h 6 (by omega)]; exact e7
end TR
def GV (v : Nat → Nat) : Prop := GW (fun c _ => v c) 0
/-! a bit of a number -/
theorem sm32 : ∀ f, f < 31 → ((nI f &&& 31).toBitVec.smod 32).toNat = f := by decide +kernel
theorem sh_bit {s f : Nat} (hs : s < 2 ^ 31) (hf : f < 31) : (nI s >>> (nI f &&& 31)) &&& 1 = b2_ (s.testBit f) := by
  rw [pk_shrN hs _ f (sm32 f hf), pk_andN (Nat.lt_of_le_of_lt (Nat.div_le_self _ _) (by omega)) 1 (by rfl)]
  rw [Nat.testBit_eq_decide_div_mod_eq]
  have h2 : s / 2 ^ f % 2 = 0 ∨ s / 2 ^ f % 2 = 1 := by omega
  show nI (s / 2 ^ f % 2) = _
  rcases h2 with h | h
  · rw [h]; rfl
  · rw [h]; rfl
theorem b2_1 (b : Bool) : b2_ b = 1 ↔ b = true := by cases b <;> simp [b2_]
theorem b2_n1 (b : Bool) : ¬ b2_ b = 1 ↔ b = false := by cases b <;> simp [b2_]
theorem b2_nat (b : Bool) : b2_ b = nI (if b then 1 else 0) := by cases b <;> rfl
theorem fl_ct (f : Nat → Bool) : ∀ n, ((List.range n).filter f).length = ct_ f n
  | 0 => rfl
  | n + 1 => by
    rw [List.range_succ, List.filter_append, List.length_append, fl_ct f n]
    show _ = ct_ f n + _
    congr 1
    cases h : f n <;> simp [h]
/-! numbersOf -/
theorem sp_numbersOf {m : Nat} {M : Mm} {G : Nat → Nat → Nat} {j : Nat} {post : Int64 → Mm → Prop} (hM : MW m M) (hR : MR m M G j) (hj : j < 130) (h0 : G 2 j < G 4 j) (h : post (lN (nu_ G j)) M) : PX11_numbersOf m (nI j) M post := by
  obtain ⟨r0, r1, r3, r4, r5, r6, hG⟩ := hR
  have hw := hG.w
  have g7 := hG.2.2.2.1
  have g3 := hG.2.2.2.2.1
  have g5 := hG.2.2.2.2.2.2.1
  have g4 := hG.2.2.2.2.2.1
  obtain ⟨a1, a2, a3⟩ := hM.f4
  obtain ⟨b1, b2, b3⟩ := hM.f5
  obtain ⟨c1, c2, c3⟩ := hM.f6
  refine pk_loop (fun fu i (s : Int64) => DX11_numbersOf_5 post fu m (nI j) s (nI i) M) (fun i s => s = lN (ct_ (fun f => (G 3 j).testBit f) i)) 10 0 0 (by omega) rfl (fun fu s hs => ?_) (fun fu i s hi hs hk => ?_)
  · show BX11_numbersOf_5 (DX11_numbersOf_5 post fu) post m (nI j) s (nI 10) M
    unfold BX11_numbersOf_5
    refine ⟨fun _ => ⟨hM.1, m + 3, a1, a2, by rw [a3]; exact nI_in2 hj (by decide), ?_⟩, fun z => absurd (Int32.le_refl _) z⟩
    rw [nI_cl (by omega), r1]
    refine sp_lengthOf (by omega) hG.2.1 (by omega) (fun v9 e9 => ?_)
    rw [nI_1] at e9
    subst e9
    refine pk_loop (fun fu i (s : Int64) => DX11_numbersOf_46 post fu m (nI j) s (nI i) M) (fun i s => G 2 j + 1 ≤ i ∧ s = lN (ct_ (fun f => (G 3 j).testBit f) 10 * 10 ^ (i - G 2 j - 1))) (G 4 j) (G 2 j + 1) s (by omega) ⟨by omega, by rw [hs]; simp⟩ (fun fu s hs => ?_) (fun fu i s hi hs hk => ?_)
    · show BX11_numbersOf_46 (DX11_numbersOf_46 post fu) post m (nI j) s (nI (G 4 j)) M
      unfold BX11_numbersOf_46
      rw [nI_cl (by omega)]
      refine ⟨hM.1, m + 5, c1, c2, by rw [c3]; exact nI_in2 hj (by decide), ?_⟩
      rw [r4]
      refine ⟨fun _ => ?_, fun z => absurd (Int32.le_refl _) z⟩
      rw [hs.2]
      unfold nu_ at h
      rw [fl_ct] at h
      exact h
    · show BX11_numbersOf_46 (DX11_numbersOf_46 post fu) post m (nI j) s (nI i) M
      unfold BX11_numbersOf_46
      rw [nI_cl (by omega)]
      refine ⟨hM.1, m + 5, c1, c2, by rw [c3]; exact nI_in2 hj (by decide), ?_⟩
      rw [r4]
      refine pk_le (G 4 j) i (fun c => by omega) (fun c v22 e22 => ?_) rfl rfl (by omega) (by omega)
      rw [nI_1]
      obtain ⟨hi2, hs⟩ := hs
      refine hk v22 ⟨by omega, ?_⟩
      rw [e22, hs, show (10 : Int64) = lN 10 from rfl, lN_mul, show i + 1 - G 2 j - 1 = (i - G 2 j - 1) + 1 by omega, Nat.pow_succ, Nat.mul_left_comm, Nat.mul_comm 10]
  · show BX11_numbersOf_5 (DX11_numbersOf_5 post fu) post m (nI j) s (nI i) M
    unfold BX11_numbersOf_5
    refine pk_le 10 i (fun c => by omega) (fun c => ⟨hM.1, m + 4, b1, b2, by rw [b3]; exact nI_in2 hj (by decide), fun v15 e15 => ?_⟩) rfl rfl (by omega) (by omega)
    rw [nI_cl (by omega), r3, sh_bit (by omega) (by omega), b2_nat, i2l_nI (by split <;> omega), hs, lN_add] at e15
    rw [nI_1]
    exact hk v15 e15
/-! put, add -/
theorem et_1 {A : Ab} {k : Nat} {v : Nat → Nat} {ar en : Int32} {c : Nat} (h : c < 7) : (ent_ A k v ar en).1 c k = v c := by show (if k = k ∧ c < 7 then _ else _) = _; rw [if_pos ⟨rfl, h⟩]
theorem sp_put {m : Nat} {M : Mm} {A : Ab} {k : Nat} {v : Nat → Nat} {ar en : Int32} {post : Int32 → Mm → Prop} (hM : MW m M) (hz : m + 33 ≤ ddZ M) (hk : k < 130) (hV : GV v) (hv : v 0 = 0 → v 2 < v 4) (h : ∀ M1, Un (fun b j => m + 1 ≤ b ∧ b < m + 15 ∧ j = k) M M1 → ddZ M1 = ddZ M → MR m M1 (ent_ A k v ar en).1 k → HR m M1 (ent_ A k v ar en) k → post (nI k) M1) : PX11_put m (nI k) (nI (v 0)) ar (nI (v 1)) (nI (v 3)) (nI (v 4)) (nI (v 5)) (nI (v 6)) en M post := by
  have hG : GW (ent_ A k v ar en).1 k := GW_tr (fun c hc => et_1 hc) hV
  have hin : vp_in (nI k) 130 := nI_in2 hk (by decide)
  obtain ⟨a1, a2, a3⟩ := hM.f2
  obtain ⟨b1, b2, b3⟩ := hM.f3
  obtain ⟨c1, c2, c3⟩ := hM.f4
  obtain ⟨d1, d2, d3⟩ := hM.f5
  obtain ⟨e1, e2, e3⟩ := hM.f6
  obtain ⟨f1, f2, f3⟩ := hM.f7
  obtain ⟨g1, g2, g3⟩ := hM.f8
  obtain ⟨i1, i2, i3⟩ := hM.f9
  obtain ⟨j1, j2, j3⟩ := hM.f10
  obtain ⟨k1, k2, k3⟩ := hM.f11
  obtain ⟨l1, l2, l3⟩ := hM.f12
  obtain ⟨m1, m2, m3⟩ := hM.f13
  obtain ⟨n1, n2, n3⟩ := hM.f14
  obtain ⟨o1, o2, o3⟩ := hM.f15
  unfold PX11_put
  rw [nI_cl (by omega)]
  refine ⟨hM.1, m + 1, a1, a2, by rw [a3]; exact hin, fun M1 E1 => ⟨m + 2, by subst E1; exact b1, by subst E1; exact b2, by subst E1; show vp_in _ (ddN M _); rw [b3]; exact hin, fun M2 E2 => ⟨m + 3, by subst E2 E1; exact c1, by subst E2 E1; exact c2, by subst E2 E1; show vp_in _ (ddN M _); rw [c3]; exact hin, fun M3 E3 => ⟨m + 4, by subst E3 E2 E1; exact d1, by subst E3 E2 E1; exact d2, by subst E3 E2 E1; show vp_in _ (ddN M _); rw [d3]; exact hin, fun M4 E4 => ⟨m + 5, by subst E4 E3 E2 E1; exact e1, by subst E4 E3 E2 E1; exact e2, by subst E4 E3 E2 E1; show vp_in _ (ddN M _); rw [e3]; exact hin, fun M5 E5 => ⟨m + 6, by subst E5 E4 E3 E2 E1; exact f1, by subst E5 E4 E3 E2 E1; exact f2, by subst E5 E4 E3 E2 E1; show vp_in _ (ddN M _); rw [f3]; exact hin, fun M6 E6 => ?_⟩⟩⟩⟩⟩⟩
  have R6 : ∀ x y, ddR M6 x y = ddR M x y := fun x y => by subst E6 E5 E4 E3 E2 E1; rfl
  have T6 : ∀ x, ddT M6 x = ddT M x := fun x => by subst E6 E5 E4 E3 E2 E1; rfl
  have N6 : ∀ x, ddN M6 x = ddN M x := fun x => by subst E6 E5 E4 E3 E2 E1; rfl
  refine ⟨m + 7, by rw [R6]; exact g1, by rw [T6]; exact g2, by rw [N6, g3]; exact hin, fun M7 E7 => ⟨m + 8, by subst E7; show ddR M6 _ _ = _; rw [R6]; exact i1, by subst E7; show ddT M6 _ = _; rw [T6]; exact i2, by subst E7; show vp_in _ (ddN M6 _); rw [N6, i3]; exact hin, fun M8 E8 => ⟨m + 9, by subst E8 E7; show ddR M6 _ _ = _; rw [R6]; exact j1, by subst E8 E7; show ddT M6 _ = _; rw [T6]; exact j2, by subst E8 E7; show vp_in _ (ddN M6 _); rw [N6, j3]; exact hin, fun M9 E9 => ⟨m + 10, by subst E9 E8 E7; show ddR M6 _ _ = _; rw [R6]; exact k1, by subst E9 E8 E7; show ddT M6 _ = _; rw [T6]; exact k2, by subst E9 E8 E7; show vp_in _ (ddN M6 _); rw [N6, k3]; exact hin, fun M10 E10 => ?_⟩⟩⟩⟩
  have R10 : ∀ x y, ddR M10 x y = ddR M x y := fun x y => by subst E10 E9 E8 E7; exact R6 x y
  have T10 : ∀ x, ddT M10 x = ddT M x := fun x => by subst E10 E9 E8 E7; exact T6 x
  have N10 : ∀ x, ddN M10 x = ddN M x := fun x => by subst E10 E9 E8 E7; exact N6 x
  refine ⟨m + 11, by rw [R10]; exact l1, by rw [T10]; exact l2, by rw [N10, l3]; exact hin, fun M11 E11 => ⟨m + 12, by subst E11; show ddR M10 _ _ = _; rw [R10]; exact m1, by subst E11; show ddT M10 _ = _; rw [T10]; exact m2, by subst E11; show vp_in _ (ddN M10 _); rw [N10, m3]; exact hin, fun M12 E12 => ⟨m + 13, by subst E12 E11; show ddR M10 _ _ = _; rw [R10]; exact n1, by subst E12 E11; show ddT M10 _ = _; rw [T10]; exact n2, by subst E12 E11; show vp_in _ (ddN M10 _); rw [N10, n3]; exact hin, fun M13 E13 => ?_⟩⟩⟩
  have R13 : ∀ x y, ddR M13 x y = ddR M x y := fun x y => by subst E13 E12 E11; exact R10 x y
  have T13 : ∀ x, ddT M13 x = ddT M x := fun x => by subst E13 E12 E11; exact T10 x
  have N13 : ∀ x, ddN M13 x = ddN M x := fun x => by subst E13 E12 E11; exact N10 x
  have Z13 : ddZ M13 = ddZ M := by subst E13 E12 E11 E10 E9 E8 E7 E6 E5 E4 E3 E2 E1; rfl
  have I13 : ∀ x y, ddI M13 x y = if y = k then (if x = m + 13 then -1 else if x = m + 12 then 0 else if x = m + 11 then -1 else if x = m + 10 then -1 else if x = m + 9 then -1 else if x = m + 8 then en else if x = m + 7 then nI (v 6) else if x = m + 6 then nI (v 5) else if x = m + 5 then nI (v 4) else if x = m + 4 then nI (v 3) else if x = m + 3 then nI (v 1) else if x = m + 2 then ar else if x = m + 1 then nI (v 0) else ddI M x y) else ddI M x y := fun x y => by
    subst E13 E12 E11 E10 E9 E8 E7 E6 E5 E4 E3 E2 E1
    simp only [gI_I]
    by_cases hy : y = k
    · simp only [hy, and_true, if_true]
    · simp only [hy, and_false, if_false]
  have L13 : ∀ x y, ddL M13 x y = ddL M x y := fun x y => by subst E13 E12 E11 E10 E9 E8 E7 E6 E5 E4 E3 E2 E1; rfl
  clear E13 E12 E11 E10 E9 E8 E7 E6 E5 E4 E3 E2 E1 R6 T6 N6 R10 T10 N10
  have u : Un (fun b j => m + 1 ≤ b ∧ b < m + 15 ∧ j = k) M M13 := ⟨by rw [Z13]; exact Nat.le_refl _, fun b _ => ⟨T13 b, N13 b, fun j hj => ⟨by
    rw [I13]
    by_cases hy : j = k
    · rw [if_pos hy, if_neg (by omega), if_neg (by omega), if_neg (by omega), if_neg (by omega), if_neg (by omega), if_neg (by omega), if_neg (by omega), if_neg (by omega), if_neg (by omega), if_neg (by omega), if_neg (by omega), if_neg (by omega), if_neg (by omega)]
    · rw [if_neg hy], L13 b j, R13 b j⟩⟩⟩
  have hM13 : MW m M13 := ⟨by rw [T13]; exact hM.1, fun q hq => by rw [R13, T13, N13]; exact hM.2 q hq⟩
  have hR13 : MR m M13 (ent_ A k v ar en).1 k := by
    unfold MR
    rw [et_1 (by omega), et_1 (by omega), et_1 (by omega), et_1 (by omega), et_1 (by omega), et_1 (by omega)]
    simp only [I13, if_true]
    simp
    exact hG
  have fin : ∀ w : Int64, (v 0 = 0 → w = lN (nu_ (ent_ A k v ar en).1 k)) → post (nI k) (suL M13 (m + 14) k w) := fun w hw => by
    refine h _ ((u.tr Un.sL).wk (fun b j _ q => by omega)) Z13 hR13 ?_
    have eh : ∀ c, c < 7 → (ent_ A k v ar en).2.1 c k = (if c = 0 then ar else if c = 1 then en else if c = 5 then 0 else -1) := fun c hc => by
      show (if k = k ∧ c < 7 then _ else _) = _
      rw [if_pos ⟨rfl, hc⟩]
    unfold HR
    rw [eh 0 (by omega), eh 1 (by omega), eh 2 (by omega), eh 3 (by omega), eh 4 (by omega), eh 5 (by omega), eh 6 (by omega), et_1 (by omega)]
    simp only [gI_L, I13, if_true]
    refine ⟨by simp, by simp, by simp, by simp, by simp, by simp, by simp, fun h0 => ?_⟩
    rw [gL_L, if_pos ⟨rfl, rfl⟩]
    exact hw h0
  have r15 : ddR M13 m 15 = some (m + 14) := by rw [R13]; exact o1
  have h03 := hV.1
  refine ⟨fun c0 => ⟨m + 14, r15, by rw [T13]; exact o2, by rw [N13, o3]; exact hin, fun M14 E14 => ?_⟩, fun c0 => sp_numbersOf hM13 hR13 hk ?_ ⟨m + 14, r15, by rw [T13]; exact o2, by rw [N13, o3]; exact hin, fun M14 E14 => ?_⟩⟩
  · subst E14
    refine fin 0 (fun q => absurd ?_ c0)
    rw [q]; rfl
  · rw [nI_ne0' (by have : v 0 ≤ 3 := h03; omega)] at c0
    rw [et_1 (by omega), et_1 (by omega)]
    exact hv c0
  · subst E14
    exact fin _ (fun _ => rfl)
theorem sp_add {m : Nat} {M : Mm} {A : Ab} {v : Nat → Nat} {ar en of' : Int32} {post : Int32 → Mm → Prop} (hM : MS m M A) (hz : m + 33 ≤ ddZ M) (hn : A.2.2 0 < 120) (hV : GV v) (hv : v 0 = 0 → v 2 < v 4) (h : ∀ M1, MS m M1 (add_ A v ar en of') → Un (fun b j => (m + 1 ≤ b ∧ b < m + 15 ∧ j = A.2.2 0) ∨ (b = m ∧ j = 1)) M M1 → post (nI (A.2.2 0)) M1) : PX11_add m (nI (v 0)) ar (nI (v 1)) (nI (v 3)) (nI (v 4)) (nI (v 5)) (nI (v 6)) en of' M post := by
  have hE := hM.2.2.2.2.1
  obtain ⟨j1, j2, j3⟩ := hM.1.f10
  unfold PX11_add
  rw [hE.2.1]
  refine ⟨hM.1.1, sp_put (A := A) hM.1 hz (by omega) hV hv (fun M1 u uz hR hH => ⟨by rw [u.T (by omega)]; exact hM.1.1, m + 9, by rw [u.R (by omega) (by omega)]; exact j1, by rw [u.T (by omega)]; exact j2, by rw [u.N (by omega), j3]; exact nI_in2 (by omega) (by decide), fun M9 E9 M10 E10 => ?_⟩)⟩
  rw [nI_cl (by omega)] at E9
  have z1 : ddI M9 m 1 = nI (A.2.2 0) := by
    subst E9
    rw [gI_I, if_neg (by omega), u.I (by omega) (by omega)]
    exact hE.2.1
  rw [z1, nI_1] at E10
  have w : Un (fun b j => (m + 1 ≤ b ∧ b < m + 15 ∧ j = A.2.2 0) ∨ (b = m ∧ j = 1)) M M10 := by
    subst E10 E9
    exact ((u.tr Un.sI).tr Un.sI).wk (fun b k _ q => by omega)
  refine h M10 (MS_E hM hz w (fun b k q => by omega) ⟨by rw [ad_3]; omega, ?_, fun e he => ?_⟩ (fun c hc => ad_1c hc) (fun c hc j hj => ad_1n (by omega)) (fun c hc => ad_2c hc) (fun c hc j hj => ad_2n (by omega)) (fun i hi => ad_3n hi)) w
  · rw [ad_3]; subst E10; rw [gI_I, if_pos ⟨rfl, rfl⟩]
  · rw [ad_3] at he
    rcases Nat.lt_or_ge e (A.2.2 0) with q | q
    · obtain ⟨k1, k2⟩ := hE.2.2 e q
      exact ⟨MR_cg (fun c _ => ad_1n (by omega)) (MR_keep2 k1 hz w (fun o _ _ z => by omega)), HR_cg (fun c _ => ad_1n (by omega)) (fun c _ => ad_2n (by omega)) (HR_keep k2 hz w (fun o _ _ z => by omega))⟩
    · have he2 : e = A.2.2 0 := by omega
      subst he2
      have I10 : ∀ o, o ≠ 9 → o ≠ 0 → ddI M10 (m + o) (A.2.2 0) = ddI M1 (m + o) (A.2.2 0) := fun o h1 h2 => by
        subst E10 E9
        rw [gI_I, if_neg (by omega), gI_I, if_neg (by omega)]
      have L10 : ∀ x y, ddL M10 x y = ddL M1 x y := fun x y => by subst E10 E9; rfl
      have hR2 : MR m M10 (ent_ A (A.2.2 0) v ar en).1 (A.2.2 0) := by
        unfold MR at hR ⊢
        rw [I10 1 (by omega) (by omega), I10 3 (by omega) (by omega), I10 4 (by omega) (by omega), I10 5 (by omega) (by omega), I10 6 (by omega) (by omega), I10 7 (by omega) (by omega)]
        exact hR
      refine ⟨hR2, ?_⟩
      obtain ⟨s0, s1, s2, s3, s4, s5, s6, s7⟩ := hH
      refine ⟨?_, ?_, ?_, ?_, ?_, ?_, ?_, ?_⟩
      · rw [I10 2 (by omega) (by omega)]; exact s0
      · rw [I10 8 (by omega) (by omega)]; exact s1
      · rw [ad_2, if_pos ⟨rfl, rfl⟩]
        subst E10 E9
        rw [gI_I, if_neg (by omega), gI_I, if_pos ⟨rfl, rfl⟩]
      · rw [I10 10 (by omega) (by omega)]; exact s3
      · rw [I10 11 (by omega) (by omega)]; exact s4
      · rw [I10 12 (by omega) (by omega)]; exact s5
      · rw [I10 13 (by omega) (by omega)]; exact s6
      · rw [L10]; exact s7
