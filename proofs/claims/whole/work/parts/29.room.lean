/-! in force; room -/
def inF (A : Ab) (e : Nat) (d : Int32) : Bool := inB (nI (A.1 6 e)) (A.2.1 1 e) d
theorem se_inF {a : Nat} {M : Mm} {A : Ab} {e q : Nat} {d : Int32} {post : Int32 → Mm → Prop} (hq : EH a M A e q) (h : post (b2_ (inF A e d)) M) : PX2_isInForce q d M post := by
  refine se_isInForce hq.T ?_
  rw [hq.2.2.2.1.2.2.2.2.2.2.2.1, hq.2.2.2.2.2.2.1]
  exact h
theorem sp_inF {m : Nat} {M : Mm} {A : Ab} {e : Nat} {d : Int32} {post : Int32 → Mm → Prop} (hM : MW m M) (hE : ME m M A) (he : e < A.2.2 0) (h : post (b2_ (inF A e d)) M) : PX11_isForce m (nI e) d M post := by
  obtain ⟨⟨r0, r1, r3, r4, r5, r6, -⟩, ⟨s0, s1, s2, -⟩⟩ := hE.2.2 _ he
  refine sp_isForce hM (by have := hE.1; omega) ?_
  rw [r6, s1]
  exact h
theorem se_inForceOn {a : Nat} {M : Mm} {A : Ab} {d : Int32} {post : Int32 → Mm → Prop} (hW : DW a M) (hD : DE a M A) (h : post (nI (ct_ (fun e => inF A e d) (A.2.2 0))) M) : PX6_inForceOn (a + 1) d M post := by
  have h1 := hD.1
  have t7 : ddT M (a + 1) = 7 := DW_T hW (by decide)
  refine pk_loop (fun fu i (s : Int32) => DX6_inForceOn_4 post fu (a + 1) d s (nI i) M) (fun i s => s = nI (ct_ (fun e => inF A e d) i)) (A.2.2 0) 0 0 (by omega) rfl (fun fu s hs => ?_) (fun fu i s hi hs hk => ?_)
  · show BX6_inForceOn_4 (DX6_inForceOn_4 post fu) post (a + 1) d s (nI (A.2.2 0)) M
    refine ⟨t7, pk_le (A.2.2 0) (A.2.2 0) (fun _ => by rw [hs]; exact h) (fun c => by omega) hD.2.1 rfl (by omega) (by omega)⟩
  · show BX6_inForceOn_4 (DX6_inForceOn_4 post fu) post (a + 1) d s (nI i) M
    unfold BX6_inForceOn_4
    rw [nI_1]
    refine ⟨t7, pk_le (A.2.2 0) i (fun c => by omega) (fun _ => se_entryI hW hD hi fun q hq => co_some q ⟨hq.T, se_inF hq (bz (fun c => hk _ ?_) (fun c => hk _ ?_))⟩ rfl) hD.2.1 rfl (by omega) (by omega)⟩
    · rw [hs, ct_f c]
    · rw [hs, ct_t c, nI_1]
theorem sp_count4 {m : Nat} {M : Mm} {A : Ab} {post : Int32 → Mm → Prop} (hM : MW m M) (hE : ME m M A) (hK : MK m M A) (h : post (nI (ct_ (fun e => inF A e (nI (A.2.2 4))) (A.2.2 0))) M) : ∃ fu, DX11_count_62 post fu m 0 0 M := by
  have h1 := hE.1
  refine pk_loop (fun fu i (s : Int32) => DX11_count_62 post fu m s (nI i) M) (fun i s => s = nI (ct_ (fun e => inF A e (nI (A.2.2 4))) i)) (A.2.2 0) 0 0 (by omega) rfl (fun fu s hs => ?_) (fun fu i s hi hs hk => ?_)
  · show BX11_count_62 (DX11_count_62 post fu) post m s (nI (A.2.2 0)) M
    refine ⟨hM.1, pk_le (A.2.2 0) (A.2.2 0) (fun _ => by rw [hs]; exact h) (fun c => by omega) hE.2.1 rfl (by omega) (by omega)⟩
  · show BX11_count_62 (DX11_count_62 post fu) post m s (nI i) M
    unfold BX11_count_62
    rw [nI_1, show ddI M m 0 = nI (A.2.2 4) from hK]
    refine ⟨hM.1, pk_le (A.2.2 0) i (fun c => by omega) (fun _ => sp_inF hM hE hi (bz (fun c v e => hk _ ?_) (fun c v e => hk _ ?_))) hE.2.1 rfl (by omega) (by omega)⟩
    · rw [e, hs, ct_f c]
      exact Int32.add_zero _
    · rw [e, hs, ct_t c, nI_1]
/-! Integer.bitCount of few bits -/
def bc32 (a1 : Int32) : Int32 :=
  let v1 := (a1 - ((a1.toUInt32 >>> (Int32.toUInt32 1 &&& Int32.toUInt32 31)).toInt32 &&& 1431655765))
  let v2 := ((v1 &&& 858993459) + ((v1.toUInt32 >>> (Int32.toUInt32 2 &&& Int32.toUInt32 31)).toInt32 &&& 858993459))
  let v3 := ((v2 + (v2.toUInt32 >>> (Int32.toUInt32 4 &&& Int32.toUInt32 31)).toInt32) &&& 252645135)
  let v4 := (v3 + (v3.toUInt32 >>> (Int32.toUInt32 8 &&& Int32.toUInt32 31)).toInt32)
  let v5 := (v4 + (v4.toUInt32 >>> (Int32.toUInt32 16 &&& Int32.toUInt32 31)).toInt32)
  (v5 &&& 63)
theorem bc32_ct : ∀ s, s < 1024 → bc32 (nI s) = nI (ct_ (fun f => s.testBit f) 10) := by decide +kernel
theorem sj_bitCount {s : Nat} {M : Mm} {post : Int32 → Mm → Prop} (hs : s < 1024) (h : post (nI (ct_ (fun f => s.testBit f) 10)) M) : PJ6_bitCount_0f7a4 (nI s) M post := by
  intro v1 e1 v2 e2 v3 e3 v4 e4 v5 e5
  subst e1 e2 e3 e4 e5
  rw [← bc32_ct s hs] at h
  exact h
theorem se_roomOn {M : Mm} {q : Nat} {G : Nat → Nat → Nat} {j : Nat} {d : Int32} {post : Int64 → Mm → Prop} (hE : EO M q G j) (h0 : G 2 j < G 4 j) (h : post (if inB (nI (G 6 j)) (ddI M q 10) d then lN (nu_ G j) else lN 0) M) : PX2_roomOn q d M post := by
  obtain ⟨hT, e0, e2, e3, e4, e5, e6, e7, hG, -⟩ := hE
  have g3 := hG.2.2.2.2.1
  have g5 := hG.2.2.2.2.2.2.1
  have g4 := hG.2.2.2.2.2.1
  refine ⟨hT, se_isInForce hT ?_⟩
  rw [e7]
  refine bz (fun c => ?_) (fun c => ⟨hT, ?_⟩)
  · rw [c] at h
    exact h
  · rw [e4]
    refine sj_bitCount g3 ⟨hT, hT, ?_⟩
    rw [e5, e3, pk_sub (by omega)]
    show PX10_tens (nI (G 4 j - G 2 j) - nI 1) M _
    rw [pk_sub (by omega)]
    refine sp_tens (by omega) ?_
    rw [c, if_pos rfl] at h
    rw [i2l_nI (Nat.lt_of_le_of_lt (ct_le 10) (by omega)), lN_mul]
    unfold nu_ at h
    rw [fl_ct] at h
    exact h
def sm_ (f : Nat → Nat) : Nat → Nat
  | 0 => 0
  | n + 1 => sm_ f n + f n
def rm_ (A : Ab) (x d : Int32) (e : Nat) : Nat := if A.1 0 e = 0 ∧ A.2.1 0 e = x ∧ inF A e d = true then nu_ A.1 e else 0
theorem sm_s {f : Nat → Nat} {i : Nat} : sm_ f (i + 1) = sm_ f i + f i := rfl
theorem GW_kl {G : Nat → Nat → Nat} {j : Nat} (h : GW G j) (h0 : G 0 j = 0) : G 2 j < G 4 j := (h.2.2.2.2.2.2.2.2.2.1 (Or.inl h0)).2.1
theorem se_roomOf {a : Nat} {M : Mm} {A : Ab} {x d : Int32} {post : Int64 → Mm → Prop} (hW : DW a M) (hD : DE a M A) (h : post (lN (sm_ (rm_ A x d) (A.2.2 0))) M) : PX6_roomOf (a + 1) x d M post := by
  have h1 := hD.1
  have t7 : ddT M (a + 1) = 7 := DW_T hW (by decide)
  refine pk_loop (fun fu i (s : Int64) => DX6_roomOf_5 post fu (a + 1) x d s (nI i) M) (fun i s => s = lN (sm_ (rm_ A x d) i)) (A.2.2 0) 0 0 (by omega) rfl (fun fu s hs => ?_) (fun fu i s hi hs hk => ?_)
  · show BX6_roomOf_5 (DX6_roomOf_5 post fu) post (a + 1) x d s (nI (A.2.2 0)) M
    refine ⟨t7, pk_le (A.2.2 0) (A.2.2 0) (fun _ => by rw [hs]; exact h) (fun c => by omega) hD.2.1 rfl (by omega) (by omega)⟩
  · show BX6_roomOf_5 (DX6_roomOf_5 post fu) post (a + 1) x d s (nI i) M
    unfold BX6_roomOf_5
    rw [nI_1]
    have no : rm_ A x d i = 0 → DX6_roomOf_5 post fu (a + 1) x d s (nI (i + 1)) M := fun z => hk s (by rw [hs, sm_s, z, Nat.add_zero])
    refine ⟨t7, pk_le (A.2.2 0) i (fun c => by omega) (fun _ => se_blockI hW hD hi (fun c => co_none (no (by unfold rm_; rw [if_neg (fun z => c z.1)])) rfl) (fun c q hq => co_some q ⟨hq.T, ?_⟩ rfl)) hD.2.1 rfl (by omega) (by omega)⟩
    have ho := hq.2.2.2.1
    have hG := ho.2.2.2.2.2.2.2.2.1
    rw [hq.2.2.2.2.1]
    refine ⟨fun c1 => no (by unfold rm_; rw [if_neg (fun z => c1 z.2.1)]), fun c1 => se_roomOn ho (GW_kl hG c) (fun v e => hk v ?_)⟩
    rw [e, hs, hq.2.2.2.2.2.2.1, sm_s]
    unfold rm_
    have ei : inB (nI (A.1 6 i)) (A.2.1 1 i) d = inF A i d := rfl
    rw [ei]
    cases hf : inF A i d with
    | false => rw [if_neg (by decide), if_neg (by simp), lN_add]
    | true => rw [if_pos rfl, if_pos ⟨c, c1, rfl⟩, lN_add]
theorem sp_roomAt {m : Nat} {M : Mm} {A : Ab} {x d : Int32} {post : Int64 → Mm → Prop} (hM : MW m M) (hE : ME m M A) (h : post (lN (sm_ (rm_ A x d) (A.2.2 0))) M) : PX11_roomAt m x d M post := by
  have h1 := hE.1
  obtain ⟨a1, a2, a3⟩ := hM.f2
  obtain ⟨b1, b2, b3⟩ := hM.f3
  obtain ⟨o1, o2, o3⟩ := hM.f15
  refine pk_loop (fun fu i (s : Int64) => DX11_roomAt_5 post fu m x d s (nI i) M) (fun i s => s = lN (sm_ (rm_ A x d) i)) (A.2.2 0) 0 0 (by omega) rfl (fun fu s hs => ?_) (fun fu i s hi hs hk => ?_)
  · show BX11_roomAt_5 (DX11_roomAt_5 post fu) post m x d s (nI (A.2.2 0)) M
    refine ⟨hM.1, pk_le (A.2.2 0) (A.2.2 0) (fun _ => by rw [hs]; exact h) (fun c => by omega) hE.2.1 rfl (by omega) (by omega)⟩
  · show BX11_roomAt_5 (DX11_roomAt_5 post fu) post m x d s (nI i) M
    unfold BX11_roomAt_5
    obtain ⟨⟨r0, r1, r3, r4, r5, r6, hG⟩, ⟨s0, s1, s2, s3, s4, s5, s6, s7⟩⟩ := hE.2.2 _ hi
    have hk3 := hG.1
    have hin : vp_in (nI i) 130 := nI_in2 (by omega) (by decide)
    rw [nI_1, nI_cl (by omega)]
    have no : rm_ A x d i = 0 → DX11_roomAt_5 post fu m x d s (nI (i + 1)) M := fun z => hk s (by rw [hs, sm_s, z, Nat.add_zero])
    refine ⟨hM.1, pk_le (A.2.2 0) i (fun c => by omega) (fun _ => ⟨m + 1, a1, a2, by rw [a3]; exact hin, ?_⟩) hE.2.1 rfl (by omega) (by omega)⟩
    rw [r0, nI_ne0' (by omega)]
    refine ⟨fun c => no (by unfold rm_; rw [if_neg (fun z => c z.1)]), fun c => ⟨m + 2, b1, b2, by rw [b3]; exact hin, ?_⟩⟩
    rw [s0]
    refine ⟨fun c1 => no (by unfold rm_; rw [if_neg (fun z => c1 z.2.1)]), fun c1 => sp_inF hM hE hi (bz (fun c2 => no (by unfold rm_; rw [if_neg (fun z => by rw [c2] at z; exact absurd z.2.2 (by decide))])) (fun c2 => ⟨hM.1, m + 14, o1, o2, by rw [o3]; exact hin, fun v e => hk v ?_⟩))⟩
    rw [e, hs, s7 c, lN_add, sm_s]
    unfold rm_
    rw [if_pos ⟨c, c1, c2⟩]
def an_room (A : Ab) (x d : Int32) : Int64 := if wi_ x.toInt 0 15 && wi_ d.toInt 0 20000 then lN (sm_ (rm_ A x d) (A.2.2 0)) else -2
theorem se_isDay {d : Int32} {M : Mm} {post : Int32 → Mm → Prop} (h : post (b2_ (wi_ d.toInt 0 20000)) M) : PX10_isDay d M post := se_within ⟨b2_01 _, h⟩
theorem sp_isDay {d : Int32} {M : Mm} {post : Int32 → Mm → Prop} (h : post (b2_ (wi_ d.toInt 0 20000)) M) : PX11_isDay d M post := sp_in ⟨b2_01 _, by rw [wd_T]; exact h⟩
theorem dn_room {a : Nat} {M : Mm} {A : Ab} {x d : Int32} {post : Int64 → Mm → Prop} (hS : SS a M A) (h : post (an_room A x d) M) : PX10_room a x d M post := by
  obtain ⟨hD, hM, hW⟩ := hS
  have hT0 : ddT M a = 11 := DW_T hD.1 (i := 0) (by decide)
  unfold an_room at h
  refine se_within (bz (fun c => ?_) (fun c => se_isDay (bn (fun c1 => ⟨hT0, a + 1, DW_R hD.1 (i := 0) (by decide), DW_T hD.1 (by decide), se_roomOf hD.1 hD.2.2.2.2.1 ?_⟩) (fun c1 => ?_))))
  · rw [show wi_ x.toInt 0 15 = false from c] at h
    exact h
  · rw [show wi_ x.toInt 0 15 = true from c, c1] at h
    exact h
  · rw [c1, Bool.and_false] at h
    exact h
theorem mn_room {m : Nat} {M : Mm} {A : Ab} {x d : Int32} {post : Int64 → Mm → Prop} (hM : MS m M A) (h : post (an_room A x d) M) : PX11_room m x d M post := by
  unfold an_room at h
  refine sp_in (bz (fun c => ?_) (fun c => sp_isDay (bz (fun c1 => ?_) (fun c1 => ⟨hM.1.1, sp_roomAt hM.1 hM.2.2.2.2.1 ?_⟩))))
  · rw [wd_T] at c
    rw [show wi_ x.toInt 0 15 = false from c] at h
    exact h
  · rw [c1, Bool.and_false] at h
    exact h
  · rw [wd_T] at c
    rw [show wi_ x.toInt 0 15 = true from c, c1] at h
    exact h
