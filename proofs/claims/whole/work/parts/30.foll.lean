/-! where a line of a block is on a day -/
def nxt_ (A : Ab) (f b : Nat) : Nat := if ((A.2.1 5 b).toInt.toNat).testBit f then (A.2.1 6 b).toInt.toNat else (A.2.1 4 b).toInt.toNat
def fo_ (A : Ab) (f : Nat) (d : Int32) : Nat → Nat → Option Nat
  | 0, _ => none
  | k + 1, b => if A.2.1 1 b = -1 then some b else if d < A.2.1 1 b then some b else if A.2.1 3 b = A.2.1 1 b then fo_ A f d k (nxt_ A f b) else none
def Fk (A : Ab) (f : Nat) (d : Int32) (c b : Nat) : Prop := b < A.2.2 0 ∧ A.1 0 b = 0 ∧ (A.1 3 b).testBit f = true ∧ (A.1 6 b : Int) ≤ d.toInt ∧ A.1 4 b - A.1 2 b = c
theorem fo_step {A : Ab} {f : Nat} {d : Int32} {c b : Nat} (hW : WA A) (h120 : A.2.2 0 ≤ 120) (hf : f < 10) (hb : Fk A f d c b) (h1 : ¬ A.2.1 1 b = -1) (h2 : ¬ d < A.2.1 1 b) (h3 : A.2.1 3 b = A.2.1 1 b) : ∃ s o, A.2.1 5 b = nI s ∧ s < 1024 ∧ A.2.1 6 b = nI o ∧ o < A.2.2 0 ∧ A.1 3 o = s ∧ b < nxt_ A f b ∧ Fk A f d c (nxt_ A f b) ∧ (s.testBit f = true → nxt_ A f b = o) ∧ (s.testBit f = false → A.2.1 4 b = nI (nxt_ A f b)) := by
  obtain ⟨b1, b2, b3, b4, b5⟩ := hb
  obtain ⟨k1, -, k3, -⟩ := hW.2.2.2.1 b b1
  rcases k3 with ⟨k3, -⟩ | ⟨g0, dd, o, s, g1, g2, g3, g4, g5, g6, g7, g8, g9, g10, g11, g12⟩
  · rw [k3] at h3
    exact absurd h3.symm h1
  · have hd : (dd : Int) ≤ d.toInt := by
      rw [← h3, g1, xi_lt, nI_T (by omega)] at h2
      omega
    have es : (A.2.1 5 b).toInt.toNat = s := by rw [g6, toNat_nI (by omega)]
    have eo : (A.2.1 6 b).toInt.toNat = o := by rw [g3, toNat_nI (by omega)]
    refine ⟨s, o, g6, g7, g3, g5, g9, ?_⟩
    cases hs : s.testBit f with
    | true =>
      have en : nxt_ A f b = o := by unfold nxt_; rw [es, hs, if_pos rfl, eo]
      rw [en]
      exact ⟨g4, ⟨g5, g8, by rw [g9]; exact hs, by rw [g10]; exact hd, by rw [g11]; exact b5⟩, fun _ => rfl, fun z => (by cases z)⟩
    | false =>
      rcases g12 with ⟨-, g12⟩ | ⟨r, r1, r2, r3, r4, r5, r6, r7⟩
      · rw [g12] at b3
        rw [hs] at b3
        cases b3
      · have en : nxt_ A f b = r := by unfold nxt_; rw [es, hs, if_neg (by decide), r1, toNat_nI (by omega)]
        rw [en]
        exact ⟨r2, ⟨r3, r4, by rw [r7 f hf, b3, hs]; rfl, by rw [r5]; exact hd, by rw [r6]; exact b5⟩, fun z => (by cases z), fun _ => r1⟩
theorem fo_ok {A : Ab} {f : Nat} {d : Int32} {c : Nat} (hW : WA A) (h120 : A.2.2 0 ≤ 120) (hf : f < 10) : ∀ (k b b' : Nat), Fk A f d c b → fo_ A f d k b = some b' → Fk A f d c b'
  | 0, _, _, _, h => by cases h
  | k + 1, b, b', hb, h => by
    unfold fo_ at h
    split at h
    · cases h; exact hb
    · next h1 =>
      split at h
      · cases h; exact hb
      · next h2 =>
        split at h
        · next h3 =>
          obtain ⟨s, o, -, -, -, -, -, -, hF, -⟩ := fo_step hW h120 hf hb h1 h2 h3
          exact fo_ok hW h120 hf k _ b' hF h
        · cases h
def pO (a : Nat) (M : Mm) (o : Option Nat) : Option Nat := o.bind (fun b => ddR M (a + 2) b)
theorem pO_s {a : Nat} {M : Mm} {b : Nat} : pO a M (some b) = ddR M (a + 2) b := rfl
theorem pO_n {a : Nat} {M : Mm} : pO a M none = none := rfl
def pM (o : Option Nat) : Int32 := match o with | none => -1 | some b => nI b
theorem se_follow_lp {a : Nat} {M : Mm} {A : Ab} {f c : Nat} {d : Int32} {post : Option Nat → Mm → Prop} (hD : DE a M A) (hA : WA A) (hf : f < 10) : ∀ (k i b : Nat), i + k = 120 → i ≤ b → Fk A f d c b → post (pO a M (fo_ A f d k b)) M → DX2_followedTo_5 post (k + 1) (nI (2 ^ f)) d (ddR M (a + 2) b) (nI i) M := by
  have h120 := hD.1
  intro k
  induction k with
  | zero => intro i b h1 h2 hb; have := hb.1; omega
  | succ k ih =>
    intro i b h1 h2 hb h
    have hbn := hb.1
    obtain ⟨q, hq⟩ := hD.at hb.1
    show BX2_followedTo_5 (DX2_followedTo_5 post (k + 1)) post (nI (2 ^ f)) d (ddR M (a + 2) b) (nI i) M
    unfold BX2_followedTo_5
    unfold fo_ at h
    obtain ⟨x1, x9, x10, x11, x12, x13, x14, x15, -⟩ := hq.2.2.2.2
    rw [nI_1]
    refine pk_le 120 i (fun c => by omega) (fun _ => ⟨fun z => ?_, fun q' z => ?_⟩) rfl rfl (by omega) (by omega)
    · rw [hq.1] at z; cases z
    · have e : q' = q := by rw [hq.1] at z; exact (Option.some.inj z).symm
      subst e
      rw [x10]
      refine ⟨hq.T, fun c1 => ?_, fun c1 => ⟨fun c2 => ?_, fun c2 => ?_⟩⟩
      · rw [if_pos c1] at h; exact h
      · have c3 : ¬ d < A.2.1 1 b := by rw [xi_le] at c2; rw [xi_lt]; omega
        rw [if_neg c1, if_neg c3] at h
        unfold PX2_nextFor
        rw [x13, x10, x12]
        by_cases h3 : A.2.1 3 b = A.2.1 1 b
        · rw [if_pos h3] at h
          obtain ⟨s, o, s1, s2, s3, s4, s5, s6, s7, s8, s9⟩ := fo_step hA h120 hf hb c1 c3 h3
          have ep : pt_ a M (A.2.1 6 b) = ddR M (a + 2) o := by unfold pt_; rw [s3, if_neg (nI_m1 (by omega)), nI_cl (by omega)]
          obtain ⟨q2, hq2⟩ := hD.at s4
          rw [ep, hq2.1]
          refine ⟨hq.T, fun z => (by cases z), fun q3 e3 => ⟨fun _ => ?_, fun z => absurd h3.symm z⟩⟩
          cases e3
          rw [hq2.2.2.2.1.2.2.2.2.1, s5, ands_tb s2 hf]
          refine ⟨hq2.T, fun z => ?_, fun z => ?_⟩
          · have e4 : ddR M q' 14 = ddR M (a + 2) (nxt_ A f b) := by
              have := s7.1
              rw [x14, s9 z]
              unfold pt_
              rw [if_neg (nI_m1 (by omega)), nI_cl (by omega)]
            rw [e4]
            exact ih (i + 1) _ (by omega) (by omega) s7 h
          · have hs : s.testBit f = true := by simpa using z
            have e4 := s8 hs
            rw [← hq2.1, ← e4]
            exact ih (i + 1) _ (by omega) (by omega) s7 h
        · rw [if_neg h3] at h
          refine ⟨hq.T, fun z => ?_, fun q3 e3 => ⟨fun z => absurd z.symm h3, fun _ => ?_⟩⟩
          · show DX2_followedTo_5 post (k + 1) (nI (2 ^ f)) d none (nI (i + 1)) M
            exact pk_le 120 (i + 1) (fun _ => h) (fun _ => ⟨fun _ => h, fun _ z => by cases z⟩) rfl rfl (by omega) (by omega)
          · show DX2_followedTo_5 post (k + 1) (nI (2 ^ f)) d none (nI (i + 1)) M
            exact pk_le 120 (i + 1) (fun _ => h) (fun _ => ⟨fun _ => h, fun _ z => by cases z⟩) rfl rfl (by omega) (by omega)
      · have c3 : d < A.2.1 1 b := by rw [xi_le] at c2; rw [xi_lt]; omega
        rw [if_neg c1, if_pos c3] at h; exact h
theorem se_follow {a : Nat} {M : Mm} {A : Ab} {f c b q : Nat} {d : Int32} {post : Option Nat → Mm → Prop} (hD : DE a M A) (hA : WA A) (hf : f < 10) (hb : Fk A f d c b) (hq : ddR M (a + 2) b = some q) (h : post (pO a M (fo_ A f d 120 b)) M) : PX2_followedTo q (nI (2 ^ f)) d M post := by
  have := se_follow_lp hD hA hf 120 0 b (by omega) (by omega) hb h
  rw [hq] at this
  exact ⟨121, this⟩
theorem sp_follow_lp {m : Nat} {M : Mm} {A : Ab} {w c : Nat} {d : Int32} {post : Int32 → Mm → Prop} (hM : MW m M) (hE : ME m M A) (hA : WA A) (hw : w < 2 ^ 63) (hF : isF w c) (hc : 0 < c) (hc2 : c < 100) : ∀ (k i b : Nat), i + k = 120 → i ≤ b → Fk A (dg_ w c 0) d c b → post (pM (fo_ A (dg_ w c 0) d k b)) M → DX11_follow_3 post (k + 1) m (lN w) d (nI b) M := by
  have h120 := hE.1
  have hf := dg_lt w c 0
  obtain ⟨g1, g2, g3⟩ := hM.f8
  obtain ⟨i1, i2, i3⟩ := hM.f9
  obtain ⟨k1, k2, k3⟩ := hM.f11
  obtain ⟨l1, l2, l3⟩ := hM.f12
  obtain ⟨m1, m2, m3⟩ := hM.f13
  obtain ⟨n1, n2, n3⟩ := hM.f14
  intro k
  induction k with
  | zero => intro i b h1 h2 hb; have := hb.1; omega
  | succ k ih =>
    intro i b h1 h2 hb h
    have hbn := hb.1
    obtain ⟨⟨r0, r1, r3, r4, r5, r6, hG⟩, ⟨s0, s1, s2, s3, s4, s5, s6, s7⟩⟩ := hE.2.2 _ hb.1
    have hin : vp_in (nI b) 130 := nI_in2 (by omega) (by decide)
    have hd6 : ¬ d < nI (A.1 6 b) := by
      have := hG.2.2.2.2.2.2.2.1
      rw [xi_lt, nI_T (by omega)]
      have := hb.2.2.2.1
      omega
    show BX11_follow_3 (DX11_follow_3 post (k + 1)) post m (lN w) d (nI b) M
    unfold BX11_follow_3
    unfold fo_ at h
    rw [nI_cl (by omega)]
    refine ⟨hM.1, m + 8, i1, i2, by rw [i3]; exact hin, ?_⟩
    rw [s1, i3]
    refine ⟨fun c1 => ⟨m + 7, g1, g2, by rw [g3]; exact hin, ?_⟩, fun c1 => ⟨hin, fun c2 => ⟨m + 7, g1, g2, by rw [g3]; exact hin, ?_⟩, fun c2 => ⟨m + 10, k1, k2, by rw [k3]; exact hin, hin, ?_⟩⟩⟩
    · rw [if_pos c1] at h
      rw [r6]
      exact ⟨fun z => absurd z hd6, fun _ => h⟩
    · rw [if_neg c1, if_pos c2] at h
      rw [r6]
      exact ⟨fun z => absurd z hd6, fun _ => h⟩
    · rw [if_neg c1, if_neg c2] at h
      rw [s3]
      refine ⟨fun c3 => ⟨m + 12, m1, m2, by rw [m3]; exact hin, ?_⟩, fun c3 => ?_⟩
      · rw [if_pos c3] at h
        obtain ⟨s, o, t1, t2, t3, t4, t5, t6, t7, t8, t9⟩ := fo_step hA h120 hf hb c1 c2 c3
        refine sp_figureAt (i := 0) hw hF (by omega) hc ?_
        have ed : w / 10 ^ (c - 1 - 0) % 10 = dg_ w c 0 := rfl
        rw [ed, s5, t1, sh_bit (by omega) (by omega)]
        refine ⟨fun z => ⟨hM.1, m + 11, l1, l2, by rw [l3]; exact hin, fun v e => ?_⟩, fun z => ⟨hM.1, m + 13, n1, n2, by rw [n3]; exact hin, fun v e => ?_⟩⟩
        · rw [e, s4, t9 ((b2_n1 _).mp z)]
          exact ih (i + 1) _ (by omega) (by omega) t7 h
        · rw [e, s6, t3, ← t8 ((b2_1 _).mp z)]
          exact ih (i + 1) _ (by omega) (by omega) t7 h
      · rw [if_neg c3] at h
        exact h
theorem sp_follow {m : Nat} {M : Mm} {A : Ab} {w c b : Nat} {d : Int32} {post : Int32 → Mm → Prop} (hM : MW m M) (hE : ME m M A) (hA : WA A) (hw : w < 2 ^ 63) (hF : isF w c) (hc : 0 < c) (hc2 : c < 100) (hb : Fk A (dg_ w c 0) d c b) (h : post (pM (fo_ A (dg_ w c 0) d 120 b)) M) : PX11_follow m (nI b) (lN w) d M post :=
  ⟨121, sp_follow_lp hM hE hA hw hF hc hc2 120 0 b (by omega) (by omega) hb h⟩
/-! the block of a line on a day -/
def lc_ (A : Ab) (l : Nat) : Nat := A.1 4 (A.1 10 l) - A.1 2 (A.1 10 l)
def lf_ (A : Ab) (l : Nat) : Nat := dg_ (A.1 11 l) (lc_ A l) 0
def bo_ (A : Ab) (l : Nat) (d : Int32) : Option Nat := if d < nI (A.1 12 l) then none else if A.2.1 10 l = -1 then fo_ A (lf_ A l) d 120 (A.1 10 l) else if d < A.2.1 10 l then fo_ A (lf_ A l) d 120 (A.1 10 l) else none
theorem lF {A : Ab} {l : Nat} {d : Int32} (hA : WA A) (hl : l < A.2.2 1) (hd : ¬ d < nI (A.1 12 l)) : Fk A (lf_ A l) d (lc_ A l) (A.1 10 l) := by
  obtain ⟨w1, w2, w3, w4, w5, w6, w7, w8⟩ := hA.2.2.2.2.1 l hl
  have := hA.1
  rw [xi_lt, nI_T (by omega)] at hd
  exact ⟨w1, w2, w5, by omega, rfl⟩
theorem bo_ok {A : Ab} {l b : Nat} {d : Int32} (hA : WA A) (h120 : A.2.2 0 ≤ 120) (hl : l < A.2.2 1) (h : bo_ A l d = some b) : Fk A (lf_ A l) d (lc_ A l) b := by
  unfold bo_ at h
  split at h
  · cases h
  · next hd =>
    have := lF hA hl hd
    split at h
    · exact fo_ok hA h120 (dg_lt _ _ _) _ _ _ this h
    · split at h
      · exact fo_ok hA h120 (dg_lt _ _ _) _ _ _ this h
      · cases h
theorem se_blockOn {a : Nat} {M : Mm} {A : Ab} {l q : Nat} {d : Int32} {post : Option Nat → Mm → Prop} (hD : DE a M A) (hA : WA A) (hl : l < A.2.2 1) (hq : LO a M q A l) (h : post (pO a M (bo_ A l d)) M) : PX3_blockOn q d M post := by
  obtain ⟨l1, l2, l3, l4, l5, l6, l7, l8⟩ := hq
  obtain ⟨r, hr⟩ := hD.at (hA.2.2.2.2.1 l hl).1
  unfold PX3_blockOn
  rw [l3, hr.1, l6, l7, l5]
  unfold bo_ at h
  refine ⟨l2, fun z => (by cases z), fun r' e => ⟨fun c => ?_, fun c => ⟨fun c1 => ⟨?_, ?_⟩, fun c1 => ⟨fun c2 => ⟨?_, ?_⟩, fun c2 => ?_⟩⟩⟩⟩
  · rw [if_pos c] at h; exact h
  · cases e; exact hr.T
  · cases e
    rw [if_neg c, if_pos c1] at h
    exact se_follow hD hA (dg_lt _ _ _) (lF hA hl c) hr.1 h
  · cases e; exact hr.T
  · cases e
    rw [if_neg c, if_neg c1, if_pos c2] at h
    exact se_follow hD hA (dg_lt _ _ _) (lF hA hl c) hr.1 h
  · rw [if_neg c, if_neg c1, if_neg c2] at h; exact h
theorem sp_blockOf {m : Nat} {M : Mm} {A : Ab} {l : Nat} {d : Int32} {post : Int32 → Mm → Prop} (hM : MW m M) (hE : ME m M A) (hL : ML m M A) (hA : WA A) (hl : l < A.2.2 1) (h : post (pM (bo_ A l d)) M) : PX11_blockOf m (nI l) d M post := by
  obtain ⟨m1, m2, m3, m4, m5, m6⟩ := hL
  obtain ⟨e1, e2, e3, e4⟩ := m5 l hl
  obtain ⟨w1, w2, w3, w4, w5, w6, w7, w8⟩ := hA.2.2.2.2.1 l hl
  obtain ⟨a1, a2, a3⟩ := hM.f17
  obtain ⟨b1, b2, b3⟩ := hM.f18
  obtain ⟨c1, c2, c3⟩ := hM.f19
  obtain ⟨d1, d2, d3⟩ := hM.f20
  have hin : vp_in (nI l) 300 := nI_in2 (by omega) (by decide)
  have hG := (hE.2.2 _ w1).1.2.2.2.2.2.2
  have hc0 : 0 < lc_ A l := by have := GW_kl hG w2; unfold lc_; omega
  have hc1 : lc_ A l < 100 := by have := hG.2.2.2.2.2.2.1; have := hG.2.2.2.2.2.1; unfold lc_; omega
  unfold PX11_blockOf
  rw [nI_cl (by omega)]
  unfold bo_ at h
  refine ⟨hM.1, m + 17, c1, c2, by rw [c3]; exact hin, ?_⟩
  rw [e3]
  refine ⟨fun c => ?_, fun c => ⟨m + 18, d1, d2, by rw [d3]; exact hin, ?_⟩⟩
  · rw [if_pos c] at h; exact h
  · rw [e4]
    refine ⟨fun z1 => ⟨m + 15, a1, a2, by rw [a3]; exact hin, m + 16, b1, b2, by rw [b3]; exact hin, ?_⟩, fun z1 => ⟨by rw [d3]; exact hin, fun z2 => ⟨m + 15, a1, a2, by rw [a3]; exact hin, m + 16, b1, b2, by rw [b3]; exact hin, ?_⟩, fun z2 => ?_⟩⟩
    · rw [if_neg c, if_pos z1] at h
      rw [e1, e2]
      exact sp_follow hM hE hA (by omega) w4 hc0 hc1 (lF hA hl c) h
    · rw [if_neg c, if_neg z1, if_pos z2] at h
      rw [e1, e2]
      exact sp_follow hM hE hA (by omega) w4 hc0 hc1 (lF hA hl c) h
    · rw [if_neg c, if_neg z1, if_neg z2] at h; exact h
/-! the line's carrier -/
def cr_ (A : Ab) (l : Nat) (d : Int32) : Nat → Int32
  | 0 => -1
  | k + 1 => if A.1 20 k = l ∧ ¬ d < nI (A.1 21 k) then nI (A.1 22 k) else cr_ A l d k
theorem se_carrier_lp {a : Nat} {M : Mm} {A : Ab} {l : Nat} {d : Int32} {post : Int32 → Mm → Prop} : ∀ (k : Nat) (o : Option Nat) (fu i : Nat), ch_ a M A l k o → i + k ≤ 500 → k < fu → post (cr_ A l d k) M → DX3_carrierOn_7 post fu d o (nI i) M
  | 0, o, fu + 1, i, hc, hi, hf, h => by
    show BX3_carrierOn_7 (DX3_carrierOn_7 post fu) post d o (nI i) M
    have : o = none := hc
    subst this
    exact pk_le 500 i (fun _ => h) (fun _ => ⟨fun _ => h, fun _ z => by cases z⟩) rfl rfl (by omega) (by omega)
  | k + 1, o, fu + 1, i, hc, hi, hf, h => by
    unfold ch_ at hc
    unfold cr_ at h
    by_cases hl : A.1 20 k = l
    · rw [if_pos hl] at hc
      obtain ⟨p, p1, p2, p3, p4, p5, p6⟩ := hc
      subst p1
      show BX3_carrierOn_7 (DX3_carrierOn_7 post fu) post d (some p) (nI i) M
      unfold BX3_carrierOn_7
      rw [nI_1]
      refine pk_le 500 i (fun c => by omega) (fun _ => co_some p ⟨p3, ?_⟩ rfl) rfl rfl (by omega) (by omega)
      rw [p5, p4]
      refine ⟨fun c => ?_, fun c => ?_⟩
      · rw [if_neg (fun z => z.2 c)] at h
        exact se_carrier_lp k _ fu (i + 1) p6 (by omega) (by omega) h
      · rw [if_pos ⟨hl, c⟩] at h
        exact h
    · rw [if_neg hl] at hc
      rw [if_neg (fun z => hl z.1)] at h
      exact se_carrier_lp k o (fu + 1) i hc (by omega) (by omega) h
  | _, _, 0, _, _, _, hf, _ => by omega
theorem se_carrier {a : Nat} {M : Mm} {A : Ab} {l q : Nat} {d : Int32} {post : Int32 → Mm → Prop} (hq : LO a M q A l) (h5 : A.2.2 2 ≤ 500) (h : post (cr_ A l d (A.2.2 2)) M) : PX3_carrierOn q d M post :=
  ⟨hq.2.1, 501, se_carrier_lp (A.2.2 2) _ 501 0 hq.2.2.2.2.2.2.2 (by omega) (by omega) h⟩
theorem sp_carrier {m : Nat} {M : Mm} {A : Ab} {l : Nat} {d : Int32} {post : Int32 → Mm → Prop} (hM : MW m M) (hL : ML m M A) (hA : WA A) (hl : l < A.2.2 1) (h : post (cr_ A l d (A.2.2 2)) M) : PX11_carrierOf m (nI l) d M post := by
  obtain ⟨m1, m2, m3, m4, m5, m6⟩ := hL
  obtain ⟨a1, a2, a3⟩ := hM.f22
  obtain ⟨b1, b2, b3⟩ := hM.f23
  obtain ⟨c1, c2, c3⟩ := hM.f24
  refine pk_loop (fun fu i (s : Int32) => DX11_carrierOf_5 post fu m (nI l) d s (nI i) M) (fun i s => s = cr_ A l d i) (A.2.2 2) 0 (-1) (by omega) rfl (fun fu s hs => ?_) (fun fu i s hi hs hk => ?_)
  · show BX11_carrierOf_5 (DX11_carrierOf_5 post fu) post m (nI l) d s (nI (A.2.2 2)) M
    exact ⟨hM.1, pk_le (A.2.2 2) (A.2.2 2) (fun _ => by rw [hs]; exact h) (fun c => by omega) m4 rfl (by omega) (by omega)⟩
  · show BX11_carrierOf_5 (DX11_carrierOf_5 post fu) post m (nI l) d s (nI i) M
    obtain ⟨e1, e2, e3⟩ := m6 i hi
    obtain ⟨w1, w2, w3⟩ := hA.2.2.2.2.2.1 i hi
    have hin : vp_in (nI i) 500 := nI_in2 (by omega) (by decide)
    unfold BX11_carrierOf_5
    rw [nI_1, nI_cl (by omega)]
    refine ⟨hM.1, pk_le (A.2.2 2) i (fun c => by omega) (fun _ => ⟨m + 19, a1, a2, by rw [a3]; exact hin, ?_⟩) m4 rfl (by omega) (by omega)⟩
    rw [e1, nI_eq (by omega) (by omega)]
    refine ⟨fun c => hk s ?_, fun c => ⟨m + 20, b1, b2, by rw [b3]; exact hin, ?_⟩⟩
    · rw [hs]; conv => rhs; unfold cr_
      rw [if_neg (fun z => c z.1)]
    · rw [e2]
      refine ⟨fun z => hk s ?_, fun z => ⟨m + 21, c1, c2, by rw [c3]; exact hin, fun v e => hk v ?_⟩⟩
      · rw [hs]; conv => rhs; unfold cr_
        rw [if_neg (fun y => y.2 z)]
      · rw [e, e3]; unfold cr_
        rw [if_pos ⟨c, z⟩]
