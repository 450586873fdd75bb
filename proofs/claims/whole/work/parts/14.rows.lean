/-! THE MODEL: its cells at m .. m+32 -/
def mw_tab : List (Nat × Nat × Nat × Nat) := [(2, 1, 20, 130), (3, 2, 20, 130), (4, 3, 20, 130), (5, 4, 20, 130), (6, 5, 20, 130), (7, 6, 20, 130), (8, 7, 20, 130), (9, 8, 20, 130), (10, 9, 20, 130), (11, 10, 20, 130), (12, 11, 20, 130), (13, 12, 20, 130), (14, 13, 20, 130), (15, 14, 21, 130), (17, 15, 20, 300), (18, 16, 21, 300), (19, 17, 20, 300), (20, 18, 20, 300), (22, 19, 20, 500), (23, 20, 20, 500), (24, 21, 20, 500), (25, 22, 20, 4), (26, 23, 20, 4), (27, 24, 20, 64), (28, 25, 20, 4), (29, 26, 22, 4), (30, 27, 22, 4), (31, 28, 20, 17), (33, 29, 20, 16), (34, 30, 20, 16), (36, 31, 20, 9), (37, 32, 21, 2001)]
def MW (m : Nat) (M : Mm) : Prop := ddT M m = 12 ∧ ∀ q ∈ mw_tab, ddR M m q.1 = some (m + q.2.1) ∧ ddT M (m + q.2.1) = q.2.2.1 ∧ ddN M (m + q.2.1) = q.2.2.2
theorem MW.f2 {m : Nat} {M : Mm} (h : MW m M) : ddR M m 2 = some (m + 1) ∧ ddT M (m + 1) = 20 ∧ ddN M (m + 1) = 130 := h.2 (2, 1, 20, 130) (by decide)
theorem MW.f3 {m : Nat} {M : Mm} (h : MW m M) : ddR M m 3 = some (m + 2) ∧ ddT M (m + 2) = 20 ∧ ddN M (m + 2) = 130 := h.2 (3, 2, 20, 130) (by decide)
theorem MW.f4 {m : Nat} {M : Mm} (h : MW m M) : ddR M m 4 = some (m + 3) ∧ ddT M (m + 3) = 20 ∧ ddN M (m + 3) = 130 := h.2 (4, 3, 20, 130) (by decide)
theorem MW.f5 {m : Nat} {M : Mm} (h : MW m M) : ddR M m 5 = some (m + 4) ∧ ddT M (m + 4) = 20 ∧ ddN M (m + 4) = 130 := h.2 (5, 4, 20, 130) (by decide)
theorem MW.f6 {m : Nat} {M : Mm} (h : MW m M) : ddR M m 6 = some (m + 5) ∧ ddT M (m + 5) = 20 ∧ ddN M (m + 5) = 130 := h.2 (6, 5, 20, 130) (by decide)
theorem MW.f7 {m : Nat} {M : Mm} (h : MW m M) : ddR M m 7 = some (m + 6) ∧ ddT M (m + 6) = 20 ∧ ddN M (m + 6) = 130 := h.2 (7, 6, 20, 130) (by decide)
theorem MW.f8 {m : Nat} {M : Mm} (h : MW m M) : ddR M m 8 = some (m + 7) ∧ ddT M (m + 7) = 20 ∧ ddN M (m + 7) = 130 := h.2 (8, 7, 20, 130) (by decide)
theorem MW.f9 {m : Nat} {M : Mm} (h : MW m M) : ddR M m 9 = some (m + 8) ∧ ddT M (m + 8) = 20 ∧ ddN M (m + 8) = 130 := h.2 (9, 8, 20, 130) (by decide)
theorem MW.f10 {m : Nat} {M : Mm} (h : MW m M) : ddR M m 10 = some (m + 9) ∧ ddT M (m + 9) = 20 ∧ ddN M (m + 9) = 130 := h.2 (10, 9, 20, 130) (by decide)
theorem MW.f11 {m : Nat} {M : Mm} (h : MW m M) : ddR M m 11 = some (m + 10) ∧ ddT M (m + 10) = 20 ∧ ddN M (m + 10) = 130 := h.2 (11, 10, 20, 130) (by decide)
theorem MW.f12 {m : Nat} {M : Mm} (h : MW m M) : ddR M m 12 = some (m + 11) ∧ ddT M (m + 11) = 20 ∧ ddN M (m + 11) = 130 := h.2 (12, 11, 20, 130) (by decide)
theorem MW.f13 {m : Nat} {M : Mm} (h : MW m M) : ddR M m 13 = some (m + 12) ∧ ddT M (m + 12) = 20 ∧ ddN M (m + 12) = 130 := h.2 (13, 12, 20, 130) (by decide)
theorem MW.f14 {m : Nat} {M : Mm} (h : MW m M) : ddR M m 14 = some (m + 13) ∧ ddT M (m + 13) = 20 ∧ ddN M (m + 13) = 130 := h.2 (14, 13, 20, 130) (by decide)
theorem MW.f15 {m : Nat} {M : Mm} (h : MW m M) : ddR M m 15 = some (m + 14) ∧ ddT M (m + 14) = 21 ∧ ddN M (m + 14) = 130 := h.2 (15, 14, 21, 130) (by decide)
theorem MW.f17 {m : Nat} {M : Mm} (h : MW m M) : ddR M m 17 = some (m + 15) ∧ ddT M (m + 15) = 20 ∧ ddN M (m + 15) = 300 := h.2 (17, 15, 20, 300) (by decide)
theorem MW.f18 {m : Nat} {M : Mm} (h : MW m M) : ddR M m 18 = some (m + 16) ∧ ddT M (m + 16) = 21 ∧ ddN M (m + 16) = 300 := h.2 (18, 16, 21, 300) (by decide)
theorem MW.f19 {m : Nat} {M : Mm} (h : MW m M) : ddR M m 19 = some (m + 17) ∧ ddT M (m + 17) = 20 ∧ ddN M (m + 17) = 300 := h.2 (19, 17, 20, 300) (by decide)
theorem MW.f20 {m : Nat} {M : Mm} (h : MW m M) : ddR M m 20 = some (m + 18) ∧ ddT M (m + 18) = 20 ∧ ddN M (m + 18) = 300 := h.2 (20, 18, 20, 300) (by decide)
theorem MW.f22 {m : Nat} {M : Mm} (h : MW m M) : ddR M m 22 = some (m + 19) ∧ ddT M (m + 19) = 20 ∧ ddN M (m + 19) = 500 := h.2 (22, 19, 20, 500) (by decide)
theorem MW.f23 {m : Nat} {M : Mm} (h : MW m M) : ddR M m 23 = some (m + 20) ∧ ddT M (m + 20) = 20 ∧ ddN M (m + 20) = 500 := h.2 (23, 20, 20, 500) (by decide)
theorem MW.f24 {m : Nat} {M : Mm} (h : MW m M) : ddR M m 24 = some (m + 21) ∧ ddT M (m + 21) = 20 ∧ ddN M (m + 21) = 500 := h.2 (24, 21, 20, 500) (by decide)
theorem MW.f25 {m : Nat} {M : Mm} (h : MW m M) : ddR M m 25 = some (m + 22) ∧ ddT M (m + 22) = 20 ∧ ddN M (m + 22) = 4 := h.2 (25, 22, 20, 4) (by decide)
theorem MW.f26 {m : Nat} {M : Mm} (h : MW m M) : ddR M m 26 = some (m + 23) ∧ ddT M (m + 23) = 20 ∧ ddN M (m + 23) = 4 := h.2 (26, 23, 20, 4) (by decide)
theorem MW.f27 {m : Nat} {M : Mm} (h : MW m M) : ddR M m 27 = some (m + 24) ∧ ddT M (m + 24) = 20 ∧ ddN M (m + 24) = 64 := h.2 (27, 24, 20, 64) (by decide)
theorem MW.f28 {m : Nat} {M : Mm} (h : MW m M) : ddR M m 28 = some (m + 25) ∧ ddT M (m + 25) = 20 ∧ ddN M (m + 25) = 4 := h.2 (28, 25, 20, 4) (by decide)
theorem MW.f29 {m : Nat} {M : Mm} (h : MW m M) : ddR M m 29 = some (m + 26) ∧ ddT M (m + 26) = 22 ∧ ddN M (m + 26) = 4 := h.2 (29, 26, 22, 4) (by decide)
theorem MW.f30 {m : Nat} {M : Mm} (h : MW m M) : ddR M m 30 = some (m + 27) ∧ ddT M (m + 27) = 22 ∧ ddN M (m + 27) = 4 := h.2 (30, 27, 22, 4) (by decide)
theorem MW.f31 {m : Nat} {M : Mm} (h : MW m M) : ddR M m 31 = some (m + 28) ∧ ddT M (m + 28) = 20 ∧ ddN M (m + 28) = 17 := h.2 (31, 28, 20, 17) (by decide)
theorem MW.f33 {m : Nat} {M : Mm} (h : MW m M) : ddR M m 33 = some (m + 29) ∧ ddT M (m + 29) = 20 ∧ ddN M (m + 29) = 16 := h.2 (33, 29, 20, 16) (by decide)
theorem MW.f34 {m : Nat} {M : Mm} (h : MW m M) : ddR M m 34 = some (m + 30) ∧ ddT M (m + 30) = 20 ∧ ddN M (m + 30) = 16 := h.2 (34, 30, 20, 16) (by decide)
theorem MW.f36 {m : Nat} {M : Mm} (h : MW m M) : ddR M m 36 = some (m + 31) ∧ ddT M (m + 31) = 20 ∧ ddN M (m + 31) = 9 := h.2 (36, 31, 20, 9) (by decide)
theorem MW.f37 {m : Nat} {M : Mm} (h : MW m M) : ddR M m 37 = some (m + 32) ∧ ddT M (m + 32) = 21 ∧ ddN M (m + 32) = 2001 := h.2 (37, 32, 21, 2001) (by decide)
/-! what an entry is, in numbers: column 0 kind, 1 prefix (with a 1 ahead), 2 how many figures it has, 3 set, 4 least, 5 most, 6 first day -/
def GW (G : Nat → Nat → Nat) (j : Nat) : Prop := G 0 j ≤ 3 ∧ isF (G 1 j) (G 2 j) ∧ 1 ≤ G 2 j ∧ G 2 j ≤ 7 ∧ G 3 j < 1024 ∧ G 4 j ≤ G 5 j ∧ G 5 j ≤ 15 ∧ G 6 j ≤ 20000 ∧ G 2 j ≤ G 4 j ∧
  ((G 0 j = 0 ∨ G 0 j = 3) → 0 < G 3 j ∧ G 2 j < G 4 j ∧ G 4 j = G 5 j ∧ G 5 j ≤ 12) ∧ (G 0 j = 1 → G 3 j = 0 ∧ G 4 j = G 2 j ∧ G 5 j = G 2 j) ∧ (G 0 j = 2 → G 3 j = 0 ∧ G 2 j < G 4 j)
theorem GW.w {G : Nat → Nat → Nat} {j : Nat} (h : GW G j) : G 1 j < 20000000 := by
  obtain ⟨-, h1, -, h2, -⟩ := h
  have h3 := h1.2
  have h4 : (10 : Int) ^ G 2 j ≤ 10 ^ 7 := by
    rcases Nat.lt_or_ge (G 2 j) 7 with q | q
    · have := p10_mono q
      have : (1 : Int) ≤ 10 ^ (G 2 j) := Int.pow_pos (by decide)
      omega
    · rw [show G 2 j = 7 by omega]
      exact Int.le_refl _
  have h5 : (10 : Int) ^ 7 = 10000000 := by decide
  omega
/-- which figures can stand at a place -/
def mayN (G : Nat → Nat → Nat) (j i : Nat) : Nat := if i < G 2 j then 2 ^ (G 1 j / 10 ^ (G 2 j - 1 - i) % 10) else if i = G 2 j ∧ G 3 j ≠ 0 then G 3 j else 1023
theorem mayN_lt {G : Nat → Nat → Nat} {j : Nat} (h : GW G j) (i : Nat) : mayN G j i < 1024 := by
  unfold mayN
  split
  · have h9 : G 1 j / 10 ^ (G 2 j - 1 - i) % 10 ≤ 9 := by omega
    calc 2 ^ (G 1 j / 10 ^ (G 2 j - 1 - i) % 10) ≤ 2 ^ 9 := Nat.pow_le_pow_right (by decide) h9
      _ < 1024 := by decide
  · split
    · exact h.2.2.2.2.1
    · decide
theorem mayN_pos {G : Nat → Nat → Nat} {j : Nat} (i : Nat) : mayN G j i ≠ 0 := by
  unfold mayN
  split
  · exact Nat.pos_iff_ne_zero.mp (Nat.pow_pos (by decide))
  · split
    · next h => exact h.2
    · decide
/-- the model's rows at j are these numbers -/
def MR (m : Nat) (M : Mm) (G : Nat → Nat → Nat) (j : Nat) : Prop := ddI M (m + 1) j = nI (G 0 j) ∧ ddI M (m + 3) j = nI (G 1 j) ∧ ddI M (m + 4) j = nI (G 3 j) ∧ ddI M (m + 5) j = nI (G 4 j) ∧ ddI M (m + 6) j = nI (G 5 j) ∧ ddI M (m + 7) j = nI (G 6 j) ∧ GW G j
theorem i2l_nI {n : Nat} (h : n < 2 ^ 31) : Int32.toInt64 (nI n) = lN n := nI_l h
theorem sp_lengthOf {w p : Nat} {M : Mm} {post : Int32 → Mm → Prop} (hw : w < 2 ^ 31) (hF : isF w p) (hp : p < 1000) (h : post (nI p) M) : PX11_lengthOf (nI w) M post := by
  unfold PX11_lengthOf
  rw [i2l_nI hw]
  have eT : (lN w).toInt = (w : Int) := pk_lT (by omega)
  refine sp_figuresOf (fun q hq hF2 => ?_) (fun hno => ?_)
  · rw [eT] at hF2
    have e := isF_one hF hF2
    subst e
    exact h
  · rw [eT] at hno
    exact absurd hF (hno p)
theorem nI_ne0' {n : Nat} (h : n < 2 ^ 31) : nI n = 0 ↔ n = 0 := by
  rw [show (0 : Int32) = nI 0 from rfl]
  exact nI_eq h (by omega)
theorem sp_may {m : Nat} {M : Mm} {G : Nat → Nat → Nat} {j i : Nat} {post : Int32 → Mm → Prop} (hM : MW m M) (hR : MR m M G j) (hj : j < 130) (hi : i < 100) (h : post (nI (mayN G j i)) M) : PX11_may m (nI j) (nI i) M post := by
  obtain ⟨r0, r1, r3, r4, r5, r6, hG⟩ := hR
  have hw := hG.w
  obtain ⟨-, hF, g1, g7, g3, -⟩ := id hG
  obtain ⟨a1, a2, a3⟩ := hM.f4
  obtain ⟨b1, b2, b3⟩ := hM.f5
  unfold PX11_may
  refine ⟨hM.1, m + 3, a1, a2, by rw [a3]; exact nI_in2 hj (by decide), ?_⟩
  rw [nI_cl (by omega), r1]
  refine sp_lengthOf (by omega) hF (by omega) ⟨fun c => ⟨fun c1 => ?_, fun c1 => ⟨hM.1, m + 4, b1, b2, by rw [b3]; exact nI_in2 hj (by decide), fun c2 => ?_, fun c2 => ⟨by rw [b3]; exact nI_in2 hj (by decide), ?_⟩⟩⟩, fun c => ⟨hM.1, m + 3, a1, a2, by rw [a3]; exact nI_in2 hj (by decide), ?_⟩⟩
  · rw [nI_leI (by omega) (by omega)] at c
    have c1 : i ≠ G 2 j := fun q => c1 (by rw [q])
    have e : mayN G j i = 1023 := by unfold mayN; rw [if_neg (by omega), if_neg (fun q => c1 q.1)]
    rw [e] at h
    exact h
  · rw [r3, nI_ne0' (by omega)] at c2
    rw [nI_leI (by omega) (by omega)] at c
    have e : mayN G j i = 1023 := by unfold mayN; rw [if_neg (by omega), if_neg (fun q => q.2 c2)]
    rw [e] at h
    exact h
  · rw [r3, nI_ne0' (by omega)] at c2
    rw [nI_eq (by omega) (by omega)] at c1
    have e : mayN G j i = G 3 j := by unfold mayN; rw [if_neg (by omega), if_pos ⟨c1, c2⟩]
    rw [e] at h
    rw [r3]
    exact h
  · rw [nI_leI (by omega) (by omega)] at c
    rw [r1, i2l_nI (by omega)]
    refine sp_figureAt (by omega) hF (by omega) (by omega) ?_
    show post (1 <<< (nI (G 1 j / 10 ^ (G 2 j - 1 - i) % 10) &&& 31)) M
    rw [sh1_ _ (by omega)]
    have e : mayN G j i = 2 ^ (G 1 j / 10 ^ (G 2 j - 1 - i) % 10) := by unfold mayN; rw [if_pos (by omega)]
    rw [e] at h
    exact h
