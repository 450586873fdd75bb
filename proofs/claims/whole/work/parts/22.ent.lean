/-! branches, counts, finds -/
theorem bz {b : Bool} {A B : Prop} (f : b = false → A) (g : b = true → B) : (b2_ b = 0 → A) ∧ (¬ b2_ b = 0 → B) := ⟨fun h => f ((b2_0 b).mp h), fun h => g ((b2_n b).mp h)⟩
theorem bn {b : Bool} {A B : Prop} (g : b = true → B) (f : b = false → A) : (¬ b2_ b = 0 → B) ∧ (b2_ b = 0 → A) := ⟨fun h => g ((b2_n b).mp h), fun h => f ((b2_0 b).mp h)⟩
def ct_ (f : Nat → Bool) : Nat → Nat
  | 0 => 0
  | i + 1 => ct_ f i + (if f i then 1 else 0)
theorem ct_le {f : Nat → Bool} : ∀ n, ct_ f n ≤ n
  | 0 => Nat.le_refl _
  | n + 1 => by
    have := ct_le (f := f) n
    show ct_ f n + _ ≤ _
    split <;> omega
theorem ct_t {f : Nat → Bool} {i : Nat} (h : f i = true) : ct_ f (i + 1) = ct_ f i + 1 := by show _ + (if _ then _ else _) = _; rw [if_pos h]
theorem ct_f {f : Nat → Bool} {i : Nat} (h : f i = false) : ct_ f (i + 1) = ct_ f i := by show _ + (if _ then _ else _) = _; rw [if_neg (by rw [h]; decide)]; rfl
theorem ct_cg {f g : Nat → Bool} : ∀ {n : Nat}, (∀ i, i < n → f i = g i) → ct_ f n = ct_ g n
  | 0, _ => rfl
  | n + 1, h => by
    show ct_ f n + _ = ct_ g n + _
    rw [ct_cg (n := n) (fun i hi => h i (by omega)), h n (by omega)]
def ff_ (f : Nat → Bool) : Nat → Int32
  | 0 => -1
  | n + 1 => if ff_ f n = -1 then (if f n then nI n else -1) else ff_ f n
theorem nI_m1 {n : Nat} (h : n < 2 ^ 31) : ¬ nI n = -1 := by
  intro q
  have := congrArg Int32.toInt q
  rw [nI_T h] at this
  have : (n : Int) = -1 := this
  omega
theorem ff_none {f : Nat → Bool} : ∀ {n : Nat}, (∀ j, j < n → f j = false) → ff_ f n = -1
  | 0, _ => rfl
  | n + 1, h => by
    show (if ff_ f n = -1 then (if f n then nI n else -1) else ff_ f n) = -1
    rw [if_pos (ff_none fun j hj => h j (by omega)), h n (by omega)]
    rfl
theorem ff_some {f : Nat → Bool} : ∀ {n k : Nat}, n < 2 ^ 31 → k < n → f k = true → (∀ j, j < k → f j = false) → ff_ f n = nI k
  | 0, k, _, h, _, _ => by omega
  | n + 1, k, hn, hk, h1, h2 => by
    show (if ff_ f n = -1 then (if f n then nI n else -1) else ff_ f n) = nI k
    rcases Nat.lt_or_ge k n with q | q
    · rw [ff_some (by omega) q h1 h2, if_neg (nI_m1 (by omega))]
    · have e : k = n := by omega
      subst e
      rw [if_pos (ff_none h2), if_pos h1]
theorem ff_cases {f : Nat → Bool} {n : Nat} (hn : n < 2 ^ 31) : (ff_ f n = -1 ∧ ∀ j, j < n → f j = false) ∨ ∃ k, k < n ∧ ff_ f n = nI k ∧ f k = true ∧ ∀ j, j < k → f j = false := by
  by_cases h : ∃ k, k < n ∧ f k = true
  · obtain ⟨k, ⟨h1, h2⟩, h3⟩ := pk_least (fun k => k < n ∧ f k = true) h
    have h4 : ∀ j, j < k → f j = false := fun j hj => by
      cases hf : f j with
      | false => rfl
      | true => exact absurd ⟨by omega, hf⟩ (h3 j hj)
    exact Or.inr ⟨k, h1, ff_some hn h1 h2 h4, h2, h4⟩
  · have h4 : ∀ j, j < n → f j = false := fun j hj => by
      cases hf : f j with
      | false => rfl
      | true => exact absurd ⟨j, hj, hf⟩ h
    exact Or.inl ⟨ff_none h4, h4⟩
/-! an entry's number -/
def isE (A : Ab) (x : Int32) : Bool := wi_ x.toInt 0 ((A.2.2 0 : Int) - 1)
theorem isE_t {A : Ab} {x : Int32} (h : isE A x = true) : x.toInt.toNat < A.2.2 0 ∧ x = nI x.toInt.toNat := by
  have := wi_t.mp h
  exact ⟨by omega, (nI_toNat (by omega)).symm⟩
theorem isE_nI {A : Ab} {e : Nat} (he : e < A.2.2 0) (h2 : e < 2 ^ 31) : isE A (nI e) = true := wi_t.mpr (by rw [nI_T h2]; omega)
theorem toNat_nI {e : Nat} (h2 : e < 2 ^ 31) : (nI e).toInt.toNat = e := by rw [nI_T h2]; omega
def EH (a : Nat) (M : Mm) (A : Ab) (e q : Nat) : Prop := ddR M (a + 2) e = some q ∧ nw_ a M q ∧ fx_ a M q ∧ EO M q A.1 e ∧ EX a M q A e
theorem EH.T {a : Nat} {M : Mm} {A : Ab} {e q : Nat} (h : EH a M A e q) : ddT M q = 3 := h.2.2.2.1.1
theorem EH.one {a : Nat} {M : Mm} {A : Ab} {e e' q : Nat} (h : EH a M A e q) (h' : EH a M A e' q) (h1 : e < 2 ^ 31) (h2 : e' < 2 ^ 31) : e = e' := nI_inj h1 h2 (h.2.2.2.2.2.1.symm.trans h'.2.2.2.2.2.1)
theorem DE.at {a : Nat} {M : Mm} {A : Ab} {e : Nat} (h : DE a M A) (he : e < A.2.2 0) : ∃ q, EH a M A e q := h.2.2 e he
theorem se_entryI {a : Nat} {M : Mm} {A : Ab} {i : Nat} {post : Option Nat → Mm → Prop} (hW : DW a M) (hD : DE a M A) (hi : i < A.2.2 0) (h : ∀ q, EH a M A i q → post (some q) M) : PX6_entryAt (a + 1) (nI i) M post := by
  have h1 := hD.1
  obtain ⟨q, hq⟩ := hD.at hi
  refine pk_lt i 0 (fun c => by omega) (fun _ => ⟨DW_T hW (by decide), ?_⟩) rfl rfl (by omega) (by omega)
  refine pk_le (A.2.2 0) i (fun c => by omega) (fun _ => ⟨a + 2, DW_R hW (by decide), DW_T hW (by decide), ?_⟩) hD.2.1 rfl (by omega) (by omega)
  rw [DW_N hW (i := 2) (n := 120) (by decide)]
  refine pk_le 120 i (fun c => by omega) (fun _ => ⟨nI_in2 (by omega) (by decide), ?_⟩) rfl rfl (by omega) (by omega)
  rw [nI_cl (by omega), hq.1]
  exact h q hq
theorem se_entryAt {a : Nat} {M : Mm} {A : Ab} {x : Int32} {post : Option Nat → Mm → Prop} (hW : DW a M) (hD : DE a M A) (h1 : isE A x = false → post none M) (h2 : ∀ e q, isE A x = true → e = x.toInt.toNat → e < A.2.2 0 → x = nI e → EH a M A e q → post (some q) M) : PX6_entryAt (a + 1) x M post := by
  have h0 := hD.1
  rcases pk_ix x (n := A.2.2 0) (by omega) with c | c | ⟨j, hj, e⟩
  · have : isE A x = false := wi_f.mpr (by have := (xi_lt x 0).mp c; have : x.toInt < 0 := this; omega)
    exact ⟨fun _ => h1 this, fun z => absurd c z⟩
  · have : isE A x = false := wi_f.mpr (by have := (xi_le _ _).mp c; rw [nI_T (by omega)] at this; omega)
    exact ⟨fun _ => h1 this, fun _ => ⟨DW_T hW (by decide), fun _ => h1 this, fun z => absurd (by rw [hD.2.1]; exact c) z⟩⟩
  · subst e
    exact se_entryI hW hD hj fun q hq => h2 j q (isE_nI hj (by omega)) (toNat_nI (by omega)).symm hj rfl hq
def isB (A : Ab) (x : Int32) : Bool := isE A x && decide (A.1 0 x.toInt.toNat = 0)
theorem se_blockI {a : Nat} {M : Mm} {A : Ab} {i : Nat} {post : Option Nat → Mm → Prop} (hW : DW a M) (hD : DE a M A) (hi : i < A.2.2 0) (h1 : A.1 0 i ≠ 0 → post none M) (h2 : A.1 0 i = 0 → ∀ q, EH a M A i q → post (some q) M) : PX6_blockAt (a + 1) (nI i) M post := by
  refine ⟨DW_T hW (by decide), se_entryI hW hD hi fun q hq => co_some q ⟨hq.T, ?_⟩ rfl⟩
  have hk := hq.2.2.2.1.2.2.2.2.2.2.2.2.1.1
  rw [hq.2.2.2.1.2.1, nI_ne0' (by omega)]
  exact ⟨fun c => h1 c, fun c => h2 c q hq⟩
theorem se_blockAt {a : Nat} {M : Mm} {A : Ab} {x : Int32} {post : Option Nat → Mm → Prop} (hW : DW a M) (hD : DE a M A) (h1 : isB A x = false → post none M) (h2 : ∀ e q, isB A x = true → isE A x = true → e = x.toInt.toNat → e < A.2.2 0 → A.1 0 e = 0 → x = nI e → EH a M A e q → post (some q) M) : PX6_blockAt (a + 1) x M post := by
  refine ⟨DW_T hW (by decide), se_entryAt hW hD (fun c => co_none (h1 (by unfold isB; rw [c]; rfl)) rfl) (fun e q c c1 c2 c3 hq => co_some q ⟨hq.T, ?_⟩ rfl)⟩
  have hk := hq.2.2.2.1.2.2.2.2.2.2.2.2.1.1
  rw [hq.2.2.2.1.2.1, nI_ne0' (by omega)]
  refine ⟨fun c4 => h1 ?_, fun c4 => h2 e q ?_ c c1 c2 c4 c3 hq⟩
  · unfold isB; rw [c, ← c1, decide_eq_false c4]; rfl
  · unfold isB; rw [c, ← c1, decide_eq_true c4]; rfl
theorem sp_isEntry {m : Nat} {M : Mm} {A : Ab} {x : Int32} {post : Int32 → Mm → Prop} (hM : MW m M) (hE : ME m M A) (h : post (b2_ (isE A x)) M) : PX11_isEntry m x M post := by
  refine ⟨hM.1, sp_in ⟨b2_01 _, ?_⟩⟩
  have h0 := hE.1
  rw [wd_T, wd_T, hE.2.1]
  have e : (nI (A.2.2 0) - 1).toInt = (A.2.2 0 : Int) - 1 := pk_sub_toInt (b := 1) (by omega) (by decide)
  rw [e]
  exact h
/-! entry -/
def tell (A : Ab) (e : Nat) (w : Int) : Int32 := if w = 0 then nI (A.1 0 e) else if w = 1 then A.2.1 0 e else if w = 2 then nI (A.1 1 e) else if w = 3 then nI (A.1 3 e) else if w = 4 then nI (A.1 4 e) else if w = 5 then nI (A.1 5 e) else if w = 6 then nI (A.1 6 e) else if w = 7 then A.2.1 1 e else if w = 8 then A.2.1 2 e else -1
def an_entry (A : Ab) (x w : Int32) : Int32 := if isE A x then tell A x.toInt.toNat w.toInt else -1
theorem dn_entry {a : Nat} {M : Mm} {A : Ab} {x w : Int32} {post : Int32 → Mm → Prop} (hS : SS a M A) (h : post (an_entry A x w) M) : PX10_entry a x w M post := by
  obtain ⟨hD, hM, hW⟩ := hS
  refine ⟨DW_T hD.1 (i := 0) (by decide), a + 1, DW_R hD.1 (i := 0) (by decide), DW_T hD.1 (by decide), se_entryAt hD.1 hD.2.2.2.2.1 (fun c => co_none ?_ rfl) (fun e q c c1 c2 c3 hq => co_some q ⟨hq.T, ?_⟩ rfl)⟩
  · unfold an_entry at h
    rw [c] at h
    exact h
  · unfold an_entry at h
    rw [c, ← c1, if_pos rfl] at h
    obtain ⟨k1, k2, k3, ⟨hT, e0, e2, e3, e4, e5, e6, e7, -⟩, ⟨x1, x9, x10, x11, -⟩⟩ := hq
    unfold PX2_tell
    rw [e0, e2, e4, e5, e6, e7, x1, x10, x11]
    unfold tell at h
    refine ⟨fun d => ⟨hT, ?_⟩, fun d => ⟨hT, ?_⟩, fun d => ⟨hT, ?_⟩, fun d => ⟨hT, ?_⟩, fun d => ⟨hT, ?_⟩, fun d => ⟨hT, ?_⟩, fun d => ⟨hT, ?_⟩, fun d => ⟨hT, ?_⟩, fun d => ⟨hT, ?_⟩, fun d => ?_⟩
    iterate 9 (rw [d] at h; exact h)
    rw [if_neg (by omega), if_neg (by omega), if_neg (by omega), if_neg (by omega), if_neg (by omega), if_neg (by omega), if_neg (by omega), if_neg (by omega), if_neg (by omega)] at h
    exact h
theorem mn_entry {m : Nat} {M : Mm} {A : Ab} {x w : Int32} {post : Int32 → Mm → Prop} (hM : MS m M A) (h : post (an_entry A x w) M) : PX11_entry m x w M post := by
  have hE := hM.2.2.2.2.1
  refine ⟨hM.1.1, sp_isEntry hM.1 hE (bn (fun c => ?_) (fun c => ?_))⟩
  · unfold an_entry at h
    obtain ⟨c1, c2⟩ := isE_t c
    have h0 := hE.1
    rw [c, if_pos rfl] at h
    obtain ⟨⟨r0, r1, r3, r4, r5, r6, -⟩, ⟨s0, s1, s2, -⟩⟩ := hE.2.2 _ c1
    have hin : vp_in x 130 := by rw [c2]; exact nI_in2 (by omega) (by decide)
    have ecl : Int32.toNatClampNeg x = x.toInt.toNat := by rw [c2, nI_cl (by omega), toNat_nI (by omega)]
    have g : ∀ (k t n : Nat), ddR M m k = some t ∧ ddT M t = 20 ∧ ddN M t = 130 → ∀ v, ddI M t (x.toInt.toNat) = v → post v M → ddT M m = 12 ∧ ∃ aq, ddR M m k = some aq ∧ ddT M aq = 20 ∧ vp_in x (ddN M aq) ∧ post (ddI M aq (Int32.toNatClampNeg x)) M := by
      intro k t n ht v hv hp
      exact ⟨hM.1.1, t, ht.1, ht.2.1, by rw [ht.2.2]; exact hin, by rw [ecl, hv]; exact hp⟩
    unfold tell at h
    refine ⟨fun d => g 2 _ 0 hM.1.f2 _ r0 ?_, fun d => g 3 _ 0 hM.1.f3 _ s0 ?_, fun d => g 4 _ 0 hM.1.f4 _ r1 ?_, fun d => g 5 _ 0 hM.1.f5 _ r3 ?_, fun d => g 6 _ 0 hM.1.f6 _ r4 ?_, fun d => g 7 _ 0 hM.1.f7 _ r5 ?_, fun d => g 8 _ 0 hM.1.f8 _ r6 ?_, fun d => g 9 _ 0 hM.1.f9 _ s1 ?_, fun d => g 10 _ 0 hM.1.f10 _ s2 ?_, fun d => ?_⟩
    iterate 9 (rw [d] at h; exact h)
    rw [if_neg (by omega), if_neg (by omega), if_neg (by omega), if_neg (by omega), if_neg (by omega), if_neg (by omega), if_neg (by omega), if_neg (by omega), if_neg (by omega)] at h
    exact h
  · unfold an_entry at h
    rw [c] at h
    exact h
