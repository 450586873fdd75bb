/-! the constructors: what they build, cell by cell -/
abbrev Sx : Type := Nat × (Nat → Nat) × (Nat → Nat) × (Nat → Nat → Nat) × (Nat → Nat)
def IS (Z : Nat) (M : Mm) (s : Sx) : Prop := ddZ M = Z + s.1 ∧ (∀ i, i < s.1 → ddT M (Z + i) = s.2.1 i ∧ ddN M (Z + i) = s.2.2.1 i ∧ ddI M (Z + i) 0 = nI (s.2.2.2.2 i) ∧ ∀ k, s.2.2.2.1 i k ≠ 0 → ddR M (Z + i) k = some (Z + (s.2.2.2.1 i k - 1))) ∧ (∀ b k, 0 < k → ddI M b k = 0) ∧ ∀ b k, ddL M b k = 0
def oN (s : Sx) (t l : Nat) : Sx := (s.1 + 1, fun i => if i = s.1 then t else s.2.1 i, fun i => if i = s.1 then l else s.2.2.1 i, fun i k => if i = s.1 then 0 else s.2.2.2.1 i k, fun i => if i = s.1 then 0 else s.2.2.2.2 i)
def oR (s : Sx) (i f j : Nat) : Sx := (s.1, s.2.1, s.2.2.1, fun i' f' => if i' = i ∧ f' = f then j + 1 else s.2.2.2.1 i' f', s.2.2.2.2)
def oA (s : Sx) (i v : Nat) : Sx := (s.1, s.2.1, s.2.2.1, s.2.2.2.1, fun i' => if i' = i then v else s.2.2.2.2 i')
theorem IS_N {Z : Nat} {M : Mm} {s : Sx} {t l : Nat} (h : IS Z M s) : IS Z (suN M t l) (oN s t l) := by
  obtain ⟨h1, h2, h3, h4⟩ := h
  refine ⟨by rw [gZ_N, h1]; rfl, fun i hi => ?_, fun b k hk => ?_, fun b k => ?_⟩
  · rw [gT_N, gN_N, gI_N, gR_N, h1]
    by_cases e : i = s.1
    · subst e
      rw [if_pos rfl, if_pos rfl, if_pos rfl, if_pos rfl]
      refine ⟨(if_pos rfl).symm, (if_pos rfl).symm, ?_, fun k hk => absurd (if_pos rfl) hk⟩
      show (0 : Int32) = nI (if s.1 = s.1 then 0 else _)
      rw [if_pos rfl]; rfl
    · have e2 : ¬ Z + i = Z + s.1 := by omega
      rw [if_neg e2, if_neg e2, if_neg e2, if_neg e2]
      obtain ⟨y1, y2, y3, y4⟩ := h2 i (by have : i < s.1 + 1 := hi; omega)
      refine ⟨y1.trans (if_neg e).symm, y2.trans (if_neg e).symm, ?_, fun k hk => ?_⟩
      · show _ = nI (if i = s.1 then 0 else _)
        rw [if_neg e]; exact y3
      · have e3 : (oN s t l).2.2.2.1 i k = s.2.2.2.1 i k := if_neg e
        rw [e3] at hk ⊢
        exact y4 k hk
  · rw [gI_N]
    split
    · rfl
    · exact h3 b k hk
  · rw [gL_N]
    split
    · rfl
    · exact h4 b k
theorem IS_R {Z : Nat} {M : Mm} {s : Sx} {i f j : Nat} (h : IS Z M s) : IS Z (suR M (Z + i) f (some (Z + j))) (oR s i f j) := by
  obtain ⟨h1, h2, h3, h4⟩ := h
  refine ⟨h1, fun i' hi => ⟨(h2 i' hi).1, (h2 i' hi).2.1, (h2 i' hi).2.2.1, fun k hk => ?_⟩, h3, h4⟩
  rw [gR_R]
  by_cases e : i' = i ∧ k = f
  · have e3 : (oR s i f j).2.2.2.1 i' k = j + 1 := if_pos e
    rw [if_pos ⟨by rw [e.1], e.2⟩, e3]
    rfl
  · have e3 : (oR s i f j).2.2.2.1 i' k = s.2.2.2.1 i' k := if_neg e
    rw [if_neg (fun z => e ⟨by omega, z.2⟩), e3]
    rw [e3] at hk
    exact (h2 i' hi).2.2.2 k hk
theorem IS_I {Z : Nat} {M : Mm} {s : Sx} {b k : Nat} (h : IS Z M s) (hk : 0 < k) : IS Z (suI M b k 0) s := by
  obtain ⟨h1, h2, h3, h4⟩ := h
  refine ⟨h1, fun i hi => ⟨(h2 i hi).1, (h2 i hi).2.1, ?_, (h2 i hi).2.2.2⟩, fun b' k' hk' => ?_, h4⟩
  · rw [gI_I, if_neg (by omega)]; exact (h2 i hi).2.2.1
  · rw [gI_I]
    split
    · rfl
    · exact h3 b' k' hk'
theorem IS_A {Z : Nat} {M : Mm} {s : Sx} {i v : Nat} (h : IS Z M s) : IS Z (suI M (Z + i) 0 (nI v)) (oA s i v) := by
  obtain ⟨h1, h2, h3, h4⟩ := h
  refine ⟨h1, fun i' hi => ⟨(h2 i' hi).1, (h2 i' hi).2.1, ?_, (h2 i' hi).2.2.2⟩, fun b' k' hk' => ?_, h4⟩
  · rw [gI_I]
    by_cases e : i' = i
    · rw [if_pos ⟨by rw [e], rfl⟩]
      show _ = nI (if i' = i then v else _)
      rw [if_pos e]
    · rw [if_neg (fun z => e (by omega))]
      show _ = nI (if i' = i then v else _)
      rw [if_neg e]
      exact (h2 i' hi).2.2.1
  · rw [gI_I, if_neg (by omega)]; exact h3 b' k' hk'
theorem is_t {Z : Nat} {M : Mm} {s : Sx} (i t : Nat) (h : IS Z M s) (hi : i < s.1 ∧ s.2.1 i = t) : ddT M (Z + i) = t := ((h.2.1 i hi.1).1).trans hi.2
theorem is_n {Z : Nat} {M : Mm} {s : Sx} (i n : Nat) (h : IS Z M s) (hi : i < s.1 ∧ s.2.2.1 i = n) : ddN M (Z + i) = n := ((h.2.1 i hi.1).2.1).trans hi.2
theorem is_r {Z : Nat} {M : Mm} {s : Sx} (i f j : Nat) (h : IS Z M s) (hi : i < s.1 ∧ s.2.2.2.1 i f = j + 1) : ddR M (Z + i) f = some (Z + j) := by
  rw [(h.2.1 i hi.1).2.2.2 f (by rw [hi.2]; omega), hi.2]; rfl
theorem st_N {Z : Nat} {M : Mm} {s : Sx} {t l : Nat} {P : Nat → Mm → Prop} (c : Nat) (s' : Sx) (h : IS Z M s) (hc : s.1 = c) (hs : oN s t l = s') (k : ∀ M2, IS Z M2 s' → P (Z + c) M2) : ∀ n : Nat, n = ddZ M → (∀ M2 : Mm, M2 = suN M t l → P n M2) := by
  intro n hn M2 e
  rw [hn, h.1, hc]
  exact k M2 (by rw [e, ← hs]; exact IS_N h)
theorem st_R {Z : Nat} {M : Mm} {s : Sx} {f : Nat} {v : Option Nat} {P : Mm → Prop} (i f' j : Nat) (s' : Sx) (h : IS Z M s) (hf : f = f') (hv : v = some (Z + j)) (hs : oR s i f' j = s') (k : ∀ M2, IS Z M2 s' → P M2) : ∀ M2 : Mm, M2 = suR M (Z + i) f v → P M2 := by
  intro M2 e
  exact k M2 (by rw [e, ← hs, hf, hv]; exact IS_R h)
theorem st_I {Z : Nat} {M : Mm} {s : Sx} {b f : Nat} {P : Mm → Prop} (h : IS Z M s) (hf : 0 < f) (k : ∀ M2, IS Z M2 s → P M2) : ∀ M2 : Mm, M2 = suI M b f 0 → P M2 := by
  intro M2 e
  exact k M2 (by rw [e]; exact IS_I h hf)
theorem st_A {Z : Nat} {M : Mm} {s : Sx} {x : Int32} {P : Mm → Prop} (i v : Nat) (s' : Sx) (h : IS Z M s) (hx : x = nI v) (hs : oA s i v = s') (k : ∀ M2, IS Z M2 s' → P M2) : ∀ M2 : Mm, M2 = suI M (Z + i) 0 x → P M2 := by
  intro M2 e
  exact k M2 (by rw [e, ← hs, hx]; exact IS_A h)
def sx_0 : Sx := (0, fun _ => 0, fun _ => 0, fun _ _ => 0, fun _ => 0)
def sx_1 : Sx := oN sx_0 11 0
def sx_2 : Sx := oN sx_1 7 0
def sx_3 : Sx := oN sx_2 25 120
def sx_4 : Sx := oR sx_3 1 0 2
def sx_5 : Sx := oN sx_4 9 0
def sx_6 : Sx := oR sx_5 1 4 3
def sx_7 : Sx := oR sx_6 0 0 1
def sx_8 : Sx := oN sx_7 5 0
def sx_9 : Sx := oN sx_8 26 300
def sx_10 : Sx := oR sx_9 4 0 5
def sx_11 : Sx := oR sx_10 0 1 4
def sx_12 : Sx := oN sx_11 23 4
def sx_13 : Sx := oR sx_12 0 2 6
def sx_14 : Sx := oN sx_13 1 0
def sx_15 : Sx := oR sx_14 6 0 7
def sx_16 : Sx := oN sx_15 1 0
def sx_17 : Sx := oR sx_16 6 1 8
def sx_18 : Sx := oN sx_17 1 0
def sx_19 : Sx := oR sx_18 6 2 9
def sx_20 : Sx := oN sx_19 1 0
def sx_21 : Sx := oR sx_20 6 3 10
def sx_22 : Sx := oN sx_21 10 0
def sx_23 : Sx := oR sx_22 11 0 1
def sx_24 : Sx := oN sx_23 24 16
def sx_25 : Sx := oR sx_24 11 1 12
def sx_26 : Sx := oN sx_25 2 0
def sx_27 : Sx := oA sx_26 13 0
def sx_28 : Sx := oR sx_27 12 0 13
def sx_29 : Sx := oN sx_28 2 0
def sx_30 : Sx := oA sx_29 14 1
def sx_31 : Sx := oR sx_30 12 1 14
def sx_32 : Sx := oN sx_31 2 0
def sx_33 : Sx := oA sx_32 15 2
def sx_34 : Sx := oR sx_33 12 2 15
def sx_35 : Sx := oN sx_34 2 0
def sx_36 : Sx := oA sx_35 16 3
def sx_37 : Sx := oR sx_36 12 3 16
def sx_38 : Sx := oN sx_37 2 0
def sx_39 : Sx := oA sx_38 17 4
def sx_40 : Sx := oR sx_39 12 4 17
def sx_41 : Sx := oN sx_40 2 0
def sx_42 : Sx := oA sx_41 18 5
def sx_43 : Sx := oR sx_42 12 5 18
def sx_44 : Sx := oN sx_43 2 0
def sx_45 : Sx := oA sx_44 19 6
def sx_46 : Sx := oR sx_45 12 6 19
def sx_47 : Sx := oN sx_46 2 0
def sx_48 : Sx := oA sx_47 20 7
def sx_49 : Sx := oR sx_48 12 7 20
def sx_50 : Sx := oN sx_49 2 0
def sx_51 : Sx := oA sx_50 21 8
def sx_52 : Sx := oR sx_51 12 8 21
def sx_53 : Sx := oN sx_52 2 0
def sx_54 : Sx := oA sx_53 22 9
def sx_55 : Sx := oR sx_54 12 9 22
def sx_56 : Sx := oN sx_55 2 0
def sx_57 : Sx := oA sx_56 23 10
def sx_58 : Sx := oR sx_57 12 10 23
def sx_59 : Sx := oN sx_58 2 0
def sx_60 : Sx := oA sx_59 24 11
def sx_61 : Sx := oR sx_60 12 11 24
def sx_62 : Sx := oN sx_61 2 0
def sx_63 : Sx := oA sx_62 25 12
def sx_64 : Sx := oR sx_63 12 12 25
def sx_65 : Sx := oN sx_64 2 0
def sx_66 : Sx := oA sx_65 26 13
def sx_67 : Sx := oR sx_66 12 13 26
def sx_68 : Sx := oN sx_67 2 0
def sx_69 : Sx := oA sx_68 27 14
def sx_70 : Sx := oR sx_69 12 14 27
def sx_71 : Sx := oN sx_70 2 0
def sx_72 : Sx := oA sx_71 28 15
def sx_73 : Sx := oR sx_72 12 15 28
def sx_74 : Sx := oN sx_73 27 8
def sx_75 : Sx := oR sx_74 11 2 29
def sx_76 : Sx := oN sx_75 20 249
def sx_77 : Sx := oR sx_76 11 4 30
def sx_78 : Sx := oN sx_77 21 249
def sx_79 : Sx := oR sx_78 11 5 31
def sx_80 : Sx := oR sx_79 0 3 11
def sx_81 : Sx := oN sx_80 12 0
def sx_82 : Sx := oN sx_81 20 130
def sx_83 : Sx := oR sx_82 32 2 33
def sx_84 : Sx := oN sx_83 20 130
def sx_85 : Sx := oR sx_84 32 3 34
def sx_86 : Sx := oN sx_85 20 130
def sx_87 : Sx := oR sx_86 32 4 35
def sx_88 : Sx := oN sx_87 20 130
def sx_89 : Sx := oR sx_88 32 5 36
def sx_90 : Sx := oN sx_89 20 130
def sx_91 : Sx := oR sx_90 32 6 37
def sx_92 : Sx := oN sx_91 20 130
def sx_93 : Sx := oR sx_92 32 7 38
def sx_94 : Sx := oN sx_93 20 130
def sx_95 : Sx := oR sx_94 32 8 39
def sx_96 : Sx := oN sx_95 20 130
def sx_97 : Sx := oR sx_96 32 9 40
def sx_98 : Sx := oN sx_97 20 130
def sx_99 : Sx := oR sx_98 32 10 41
def sx_100 : Sx := oN sx_99 20 130
def sx_101 : Sx := oR sx_100 32 11 42
def sx_102 : Sx := oN sx_101 20 130
def sx_103 : Sx := oR sx_102 32 12 43
def sx_104 : Sx := oN sx_103 20 130
def sx_105 : Sx := oR sx_104 32 13 44
def sx_106 : Sx := oN sx_105 20 130
def sx_107 : Sx := oR sx_106 32 14 45
def sx_108 : Sx := oN sx_107 21 130
def sx_109 : Sx := oR sx_108 32 15 46
def sx_110 : Sx := oN sx_109 20 300
def sx_111 : Sx := oR sx_110 32 17 47
def sx_112 : Sx := oN sx_111 21 300
def sx_113 : Sx := oR sx_112 32 18 48
def sx_114 : Sx := oN sx_113 20 300
def sx_115 : Sx := oR sx_114 32 19 49
def sx_116 : Sx := oN sx_115 20 300
def sx_117 : Sx := oR sx_116 32 20 50
def sx_118 : Sx := oN sx_117 20 500
def sx_119 : Sx := oR sx_118 32 22 51
def sx_120 : Sx := oN sx_119 20 500
def sx_121 : Sx := oR sx_120 32 23 52
def sx_122 : Sx := oN sx_121 20 500
def sx_123 : Sx := oR sx_122 32 24 53
def sx_124 : Sx := oN sx_123 20 4
def sx_125 : Sx := oR sx_124 32 25 54
def sx_126 : Sx := oN sx_125 20 4
def sx_127 : Sx := oR sx_126 32 26 55
def sx_128 : Sx := oN sx_127 20 64
def sx_129 : Sx := oR sx_128 32 27 56
def sx_130 : Sx := oN sx_129 20 4
def sx_131 : Sx := oR sx_130 32 28 57
def sx_132 : Sx := oN sx_131 22 4
def sx_133 : Sx := oR sx_132 32 29 58
def sx_134 : Sx := oN sx_133 22 4
def sx_135 : Sx := oR sx_134 32 30 59
def sx_136 : Sx := oN sx_135 20 17
def sx_137 : Sx := oR sx_136 32 31 60
def sx_138 : Sx := oN sx_137 20 16
def sx_139 : Sx := oR sx_138 32 33 61
def sx_140 : Sx := oN sx_139 20 16
def sx_141 : Sx := oR sx_140 32 34 62
def sx_142 : Sx := oN sx_141 20 9
def sx_143 : Sx := oR sx_142 32 36 63
def sx_144 : Sx := oN sx_143 21 2001
def sx_145 : Sx := oR sx_144 32 37 64
set_option maxRecDepth 100000 in
set_option maxHeartbeats 4000000 in
theorem in_6 {Z : Nat} {M0 : Mm} {post : Mm → Prop} (h0 : IS Z M0 sx_2) (kk : ∀ M, IS Z M sx_6 → post M) : PX6_init (Z + 1) M0 post := by
  unfold PX6_init
  refine st_N 2 sx_3 h0 rfl rfl (fun M1 h1 => ?_)
  refine ⟨is_t 1 7 h1 (by decide +kernel), ?_⟩
  refine st_R 1 0 2 sx_4 h1 rfl (rfl) rfl (fun M2 h2 => ?_)
  refine st_I h2 (by decide) (fun M3 h3 => ?_)
  refine st_N 3 sx_5 h3 rfl rfl (fun M4 h4 => ?_)
  unfold PX8_init
  refine ⟨is_t 1 7 h4 (by decide +kernel), ?_⟩
  refine st_R 1 4 3 sx_6 h4 rfl (rfl) rfl (fun M5 h5 => ?_)
  exact kk M5 h5
set_option maxRecDepth 100000 in
set_option maxHeartbeats 4000000 in
theorem in_4 {Z : Nat} {M0 : Mm} {post : Mm → Prop} (h0 : IS Z M0 sx_8) (kk : ∀ M, IS Z M sx_10 → post M) : PX4_init (Z + 4) M0 post := by
  unfold PX4_init
  refine st_N 5 sx_9 h0 rfl rfl (fun M1 h1 => ?_)
  refine ⟨is_t 4 5 h1 (by decide +kernel), ?_⟩
  refine st_R 4 0 5 sx_10 h1 rfl (rfl) rfl (fun M2 h2 => ?_)
  refine st_I h2 (by decide) (fun M3 h3 => ?_)
  refine st_I h3 (by decide) (fun M4 h4 => ?_)
  exact kk M4 h4
set_option maxRecDepth 100000 in
set_option maxHeartbeats 4000000 in
theorem in_9 {Z : Nat} {M0 : Mm} {post : Mm → Prop} {v : Option Nat} (hv : v = some (Z + 1)) (h0 : IS Z M0 sx_22) (kk : ∀ M, IS Z M sx_79 → post M) : PX9_init (Z + 11) v M0 post := by
  unfold PX9_init
  refine ⟨is_t 11 10 h0 (by decide +kernel), ?_⟩
  refine st_R 11 0 1 sx_23 h0 rfl (hv) rfl (fun M1 h1 => ?_)
  refine st_N 12 sx_24 h1 rfl rfl (fun M2 h2 => ?_)
  refine ⟨is_t 11 10 h2 (by decide +kernel), ?_⟩
  refine st_R 11 1 12 sx_25 h2 rfl (rfl) rfl (fun M3 h3 => ?_)
  refine st_N 13 sx_26 h3 rfl rfl (fun M4 h4 => ?_)
  unfold PX1_init
  refine ⟨is_t 13 2 h4 (by decide +kernel), ?_⟩
  refine st_A 13 0 sx_27 h4 rfl rfl (fun M5 h5 => ?_)
  refine ⟨Z + 12, is_r 11 1 12 h3 (by decide +kernel), is_t 12 24 h5 (by decide +kernel), by rw [is_n 12 16 h5 (by decide +kernel)]; exact nI_in2 (i := 0) (by decide) (by decide), is_t 13 2 h5 (by decide +kernel), ?_⟩
  refine st_R 12 0 13 sx_28 h5 rfl (rfl) rfl (fun M6 h6 => ?_)
  refine ⟨is_t 11 10 h6 (by decide +kernel), ?_⟩
  refine st_N 14 sx_29 h6 rfl rfl (fun M7 h7 => ?_)
  refine ⟨is_t 14 2 h7 (by decide +kernel), ?_⟩
  refine st_A 14 1 sx_30 h7 rfl rfl (fun M8 h8 => ?_)
  refine ⟨Z + 12, is_r 11 1 12 h6 (by decide +kernel), is_t 12 24 h8 (by decide +kernel), by rw [is_n 12 16 h8 (by decide +kernel)]; exact nI_in2 (i := 1) (by decide) (by decide), is_t 14 2 h8 (by decide +kernel), ?_⟩
  refine st_R 12 1 14 sx_31 h8 rfl (rfl) rfl (fun M9 h9 => ?_)
  refine ⟨is_t 11 10 h9 (by decide +kernel), ?_⟩
  refine st_N 15 sx_32 h9 rfl rfl (fun M10 h10 => ?_)
  refine ⟨is_t 15 2 h10 (by decide +kernel), ?_⟩
  refine st_A 15 2 sx_33 h10 rfl rfl (fun M11 h11 => ?_)
  refine ⟨Z + 12, is_r 11 1 12 h9 (by decide +kernel), is_t 12 24 h11 (by decide +kernel), by rw [is_n 12 16 h11 (by decide +kernel)]; exact nI_in2 (i := 2) (by decide) (by decide), is_t 15 2 h11 (by decide +kernel), ?_⟩
  refine st_R 12 2 15 sx_34 h11 rfl (rfl) rfl (fun M12 h12 => ?_)
  refine ⟨is_t 11 10 h12 (by decide +kernel), ?_⟩
  refine st_N 16 sx_35 h12 rfl rfl (fun M13 h13 => ?_)
  refine ⟨is_t 16 2 h13 (by decide +kernel), ?_⟩
  refine st_A 16 3 sx_36 h13 rfl rfl (fun M14 h14 => ?_)
  refine ⟨Z + 12, is_r 11 1 12 h12 (by decide +kernel), is_t 12 24 h14 (by decide +kernel), by rw [is_n 12 16 h14 (by decide +kernel)]; exact nI_in2 (i := 3) (by decide) (by decide), is_t 16 2 h14 (by decide +kernel), ?_⟩
  refine st_R 12 3 16 sx_37 h14 rfl (rfl) rfl (fun M15 h15 => ?_)
  refine ⟨is_t 11 10 h15 (by decide +kernel), ?_⟩
  refine st_N 17 sx_38 h15 rfl rfl (fun M16 h16 => ?_)
  refine ⟨is_t 17 2 h16 (by decide +kernel), ?_⟩
  refine st_A 17 4 sx_39 h16 rfl rfl (fun M17 h17 => ?_)
  refine ⟨Z + 12, is_r 11 1 12 h15 (by decide +kernel), is_t 12 24 h17 (by decide +kernel), by rw [is_n 12 16 h17 (by decide +kernel)]; exact nI_in2 (i := 4) (by decide) (by decide), is_t 17 2 h17 (by decide +kernel), ?_⟩
  refine st_R 12 4 17 sx_40 h17 rfl (rfl) rfl (fun M18 h18 => ?_)
  refine ⟨is_t 11 10 h18 (by decide +kernel), ?_⟩
  refine st_N 18 sx_41 h18 rfl rfl (fun M19 h19 => ?_)
  refine ⟨is_t 18 2 h19 (by decide +kernel), ?_⟩
  refine st_A 18 5 sx_42 h19 rfl rfl (fun M20 h20 => ?_)
  refine ⟨Z + 12, is_r 11 1 12 h18 (by decide +kernel), is_t 12 24 h20 (by decide +kernel), by rw [is_n 12 16 h20 (by decide +kernel)]; exact nI_in2 (i := 5) (by decide) (by decide), is_t 18 2 h20 (by decide +kernel), ?_⟩
  refine st_R 12 5 18 sx_43 h20 rfl (rfl) rfl (fun M21 h21 => ?_)
  refine ⟨is_t 11 10 h21 (by decide +kernel), ?_⟩
  refine st_N 19 sx_44 h21 rfl rfl (fun M22 h22 => ?_)
  refine ⟨is_t 19 2 h22 (by decide +kernel), ?_⟩
  refine st_A 19 6 sx_45 h22 rfl rfl (fun M23 h23 => ?_)
  refine ⟨Z + 12, is_r 11 1 12 h21 (by decide +kernel), is_t 12 24 h23 (by decide +kernel), by rw [is_n 12 16 h23 (by decide +kernel)]; exact nI_in2 (i := 6) (by decide) (by decide), is_t 19 2 h23 (by decide +kernel), ?_⟩
  refine st_R 12 6 19 sx_46 h23 rfl (rfl) rfl (fun M24 h24 => ?_)
  refine ⟨is_t 11 10 h24 (by decide +kernel), ?_⟩
  refine st_N 20 sx_47 h24 rfl rfl (fun M25 h25 => ?_)
  refine ⟨is_t 20 2 h25 (by decide +kernel), ?_⟩
  refine st_A 20 7 sx_48 h25 rfl rfl (fun M26 h26 => ?_)
  refine ⟨Z + 12, is_r 11 1 12 h24 (by decide +kernel), is_t 12 24 h26 (by decide +kernel), by rw [is_n 12 16 h26 (by decide +kernel)]; exact nI_in2 (i := 7) (by decide) (by decide), is_t 20 2 h26 (by decide +kernel), ?_⟩
  refine st_R 12 7 20 sx_49 h26 rfl (rfl) rfl (fun M27 h27 => ?_)
  refine ⟨is_t 11 10 h27 (by decide +kernel), ?_⟩
  refine st_N 21 sx_50 h27 rfl rfl (fun M28 h28 => ?_)
  refine ⟨is_t 21 2 h28 (by decide +kernel), ?_⟩
  refine st_A 21 8 sx_51 h28 rfl rfl (fun M29 h29 => ?_)
  refine ⟨Z + 12, is_r 11 1 12 h27 (by decide +kernel), is_t 12 24 h29 (by decide +kernel), by rw [is_n 12 16 h29 (by decide +kernel)]; exact nI_in2 (i := 8) (by decide) (by decide), is_t 21 2 h29 (by decide +kernel), ?_⟩
  refine st_R 12 8 21 sx_52 h29 rfl (rfl) rfl (fun M30 h30 => ?_)
  refine ⟨is_t 11 10 h30 (by decide +kernel), ?_⟩
  refine st_N 22 sx_53 h30 rfl rfl (fun M31 h31 => ?_)
  refine ⟨is_t 22 2 h31 (by decide +kernel), ?_⟩
  refine st_A 22 9 sx_54 h31 rfl rfl (fun M32 h32 => ?_)
  refine ⟨Z + 12, is_r 11 1 12 h30 (by decide +kernel), is_t 12 24 h32 (by decide +kernel), by rw [is_n 12 16 h32 (by decide +kernel)]; exact nI_in2 (i := 9) (by decide) (by decide), is_t 22 2 h32 (by decide +kernel), ?_⟩
  refine st_R 12 9 22 sx_55 h32 rfl (rfl) rfl (fun M33 h33 => ?_)
  refine ⟨is_t 11 10 h33 (by decide +kernel), ?_⟩
  refine st_N 23 sx_56 h33 rfl rfl (fun M34 h34 => ?_)
  refine ⟨is_t 23 2 h34 (by decide +kernel), ?_⟩
  refine st_A 23 10 sx_57 h34 rfl rfl (fun M35 h35 => ?_)
  refine ⟨Z + 12, is_r 11 1 12 h33 (by decide +kernel), is_t 12 24 h35 (by decide +kernel), by rw [is_n 12 16 h35 (by decide +kernel)]; exact nI_in2 (i := 10) (by decide) (by decide), is_t 23 2 h35 (by decide +kernel), ?_⟩
  refine st_R 12 10 23 sx_58 h35 rfl (rfl) rfl (fun M36 h36 => ?_)
  refine ⟨is_t 11 10 h36 (by decide +kernel), ?_⟩
  refine st_N 24 sx_59 h36 rfl rfl (fun M37 h37 => ?_)
  refine ⟨is_t 24 2 h37 (by decide +kernel), ?_⟩
  refine st_A 24 11 sx_60 h37 rfl rfl (fun M38 h38 => ?_)
  refine ⟨Z + 12, is_r 11 1 12 h36 (by decide +kernel), is_t 12 24 h38 (by decide +kernel), by rw [is_n 12 16 h38 (by decide +kernel)]; exact nI_in2 (i := 11) (by decide) (by decide), is_t 24 2 h38 (by decide +kernel), ?_⟩
  refine st_R 12 11 24 sx_61 h38 rfl (rfl) rfl (fun M39 h39 => ?_)
  refine ⟨is_t 11 10 h39 (by decide +kernel), ?_⟩
  refine st_N 25 sx_62 h39 rfl rfl (fun M40 h40 => ?_)
  refine ⟨is_t 25 2 h40 (by decide +kernel), ?_⟩
  refine st_A 25 12 sx_63 h40 rfl rfl (fun M41 h41 => ?_)
  refine ⟨Z + 12, is_r 11 1 12 h39 (by decide +kernel), is_t 12 24 h41 (by decide +kernel), by rw [is_n 12 16 h41 (by decide +kernel)]; exact nI_in2 (i := 12) (by decide) (by decide), is_t 25 2 h41 (by decide +kernel), ?_⟩
  refine st_R 12 12 25 sx_64 h41 rfl (rfl) rfl (fun M42 h42 => ?_)
  refine ⟨is_t 11 10 h42 (by decide +kernel), ?_⟩
  refine st_N 26 sx_65 h42 rfl rfl (fun M43 h43 => ?_)
  refine ⟨is_t 26 2 h43 (by decide +kernel), ?_⟩
  refine st_A 26 13 sx_66 h43 rfl rfl (fun M44 h44 => ?_)
  refine ⟨Z + 12, is_r 11 1 12 h42 (by decide +kernel), is_t 12 24 h44 (by decide +kernel), by rw [is_n 12 16 h44 (by decide +kernel)]; exact nI_in2 (i := 13) (by decide) (by decide), is_t 26 2 h44 (by decide +kernel), ?_⟩
  refine st_R 12 13 26 sx_67 h44 rfl (rfl) rfl (fun M45 h45 => ?_)
  refine ⟨is_t 11 10 h45 (by decide +kernel), ?_⟩
  refine st_N 27 sx_68 h45 rfl rfl (fun M46 h46 => ?_)
  refine ⟨is_t 27 2 h46 (by decide +kernel), ?_⟩
  refine st_A 27 14 sx_69 h46 rfl rfl (fun M47 h47 => ?_)
  refine ⟨Z + 12, is_r 11 1 12 h45 (by decide +kernel), is_t 12 24 h47 (by decide +kernel), by rw [is_n 12 16 h47 (by decide +kernel)]; exact nI_in2 (i := 14) (by decide) (by decide), is_t 27 2 h47 (by decide +kernel), ?_⟩
  refine st_R 12 14 27 sx_70 h47 rfl (rfl) rfl (fun M48 h48 => ?_)
  refine ⟨is_t 11 10 h48 (by decide +kernel), ?_⟩
  refine st_N 28 sx_71 h48 rfl rfl (fun M49 h49 => ?_)
  refine ⟨is_t 28 2 h49 (by decide +kernel), ?_⟩
  refine st_A 28 15 sx_72 h49 rfl rfl (fun M50 h50 => ?_)
  refine ⟨Z + 12, is_r 11 1 12 h48 (by decide +kernel), is_t 12 24 h50 (by decide +kernel), by rw [is_n 12 16 h50 (by decide +kernel)]; exact nI_in2 (i := 15) (by decide) (by decide), is_t 28 2 h50 (by decide +kernel), ?_⟩
  refine st_R 12 15 28 sx_73 h50 rfl (rfl) rfl (fun M51 h51 => ?_)
  refine st_N 29 sx_74 h51 rfl rfl (fun M52 h52 => ?_)
  refine ⟨is_t 11 10 h52 (by decide +kernel), ?_⟩
  refine st_R 11 2 29 sx_75 h52 rfl (rfl) rfl (fun M53 h53 => ?_)
  refine st_N 30 sx_76 h53 rfl rfl (fun M54 h54 => ?_)
  refine ⟨is_t 11 10 h54 (by decide +kernel), ?_⟩
  refine st_R 11 4 30 sx_77 h54 rfl (rfl) rfl (fun M55 h55 => ?_)
  refine st_N 31 sx_78 h55 rfl rfl (fun M56 h56 => ?_)
  refine ⟨is_t 11 10 h56 (by decide +kernel), ?_⟩
  refine st_R 11 5 31 sx_79 h56 rfl (rfl) rfl (fun M57 h57 => ?_)
  exact kk M57 h57
set_option maxRecDepth 100000 in
set_option maxHeartbeats 4000000 in
theorem in_10 {Z : Nat} {M0 : Mm} {post : Mm → Prop} (h0 : IS Z M0 sx_1) (kk : ∀ M, IS Z M sx_80 → post M) : PX10_init (Z + 0) M0 post := by
  unfold PX10_init
  refine st_N 1 sx_2 h0 rfl rfl (fun M1 h1 => ?_)
  refine in_6 h1 (fun M2 h2 => ?_)
  refine ⟨is_t 0 11 h2 (by decide +kernel), ?_⟩
  refine st_R 0 0 1 sx_7 h2 rfl rfl rfl (fun M3 h3 => ?_)
  refine st_N 4 sx_8 h3 rfl rfl (fun M4 h4 => ?_)
  refine in_4 h4 (fun M5 h5 => ?_)
  refine ⟨is_t 0 11 h5 (by decide +kernel), ?_⟩
  refine st_R 0 1 4 sx_11 h5 rfl rfl rfl (fun M6 h6 => ?_)
  refine st_N 6 sx_12 h6 rfl rfl (fun M7 h7 => ?_)
  refine ⟨is_t 0 11 h7 (by decide +kernel), ?_⟩
  refine st_R 0 2 6 sx_13 h7 rfl rfl rfl (fun M8 h8 => ?_)
  refine st_N 7 sx_14 h8 rfl rfl (fun M9 h9 => ?_)
  unfold PX0_init
  refine ⟨Z + 6, is_r 0 2 6 h8 (by decide +kernel), is_t 6 23 h9 (by decide +kernel), by rw [is_n 6 4 h9 (by decide +kernel)]; exact nI_in2 (i := 0) (by decide) (by decide), is_t 7 1 h9 (by decide +kernel), ?_⟩
  refine st_R 6 0 7 sx_15 h9 rfl rfl rfl (fun M10 h10 => ?_)
  refine ⟨is_t 0 11 h10 (by decide +kernel), ?_⟩
  refine st_N 8 sx_16 h10 rfl rfl (fun M11 h11 => ?_)
  refine ⟨Z + 6, is_r 0 2 6 h10 (by decide +kernel), is_t 6 23 h11 (by decide +kernel), by rw [is_n 6 4 h11 (by decide +kernel)]; exact nI_in2 (i := 1) (by decide) (by decide), is_t 8 1 h11 (by decide +kernel), ?_⟩
  refine st_R 6 1 8 sx_17 h11 rfl rfl rfl (fun M12 h12 => ?_)
  refine ⟨is_t 0 11 h12 (by decide +kernel), ?_⟩
  refine st_N 9 sx_18 h12 rfl rfl (fun M13 h13 => ?_)
  refine ⟨Z + 6, is_r 0 2 6 h12 (by decide +kernel), is_t 6 23 h13 (by decide +kernel), by rw [is_n 6 4 h13 (by decide +kernel)]; exact nI_in2 (i := 2) (by decide) (by decide), is_t 9 1 h13 (by decide +kernel), ?_⟩
  refine st_R 6 2 9 sx_19 h13 rfl rfl rfl (fun M14 h14 => ?_)
  refine ⟨is_t 0 11 h14 (by decide +kernel), ?_⟩
  refine st_N 10 sx_20 h14 rfl rfl (fun M15 h15 => ?_)
  refine ⟨Z + 6, is_r 0 2 6 h14 (by decide +kernel), is_t 6 23 h15 (by decide +kernel), by rw [is_n 6 4 h15 (by decide +kernel)]; exact nI_in2 (i := 3) (by decide) (by decide), is_t 10 1 h15 (by decide +kernel), ?_⟩
  refine st_R 6 3 10 sx_21 h15 rfl rfl rfl (fun M16 h16 => ?_)
  refine st_N 11 sx_22 h16 rfl rfl (fun M17 h17 => ?_)
  refine ⟨is_t 0 11 h17 (by decide +kernel), ?_⟩
  refine in_9 (is_r 0 0 1 h17 (by decide +kernel)) h17 (fun M18 h18 => ?_)
  refine ⟨is_t 0 11 h18 (by decide +kernel), ?_⟩
  refine st_R 0 3 11 sx_80 h18 rfl rfl rfl (fun M19 h19 => ?_)
  refine st_I h19 (by decide) (fun M20 h20 => ?_)
  exact kk M20 h20
set_option maxRecDepth 100000 in
set_option maxHeartbeats 4000000 in
theorem in_11 {Z : Nat} {M0 : Mm} {post : Mm → Prop} (h0 : IS Z M0 sx_81) (kk : ∀ M, IS Z M sx_145 → post M) : PX11_init (Z + 32) M0 post := by
  unfold PX11_init
  refine st_N 33 sx_82 h0 rfl rfl (fun M1 h1 => ?_)
  refine ⟨is_t 32 12 h1 (by decide +kernel), ?_⟩
  refine st_R 32 2 33 sx_83 h1 rfl (rfl) rfl (fun M2 h2 => ?_)
  refine st_N 34 sx_84 h2 rfl rfl (fun M3 h3 => ?_)
  refine ⟨is_t 32 12 h3 (by decide +kernel), ?_⟩
  refine st_R 32 3 34 sx_85 h3 rfl (rfl) rfl (fun M4 h4 => ?_)
  refine st_N 35 sx_86 h4 rfl rfl (fun M5 h5 => ?_)
  refine ⟨is_t 32 12 h5 (by decide +kernel), ?_⟩
  refine st_R 32 4 35 sx_87 h5 rfl (rfl) rfl (fun M6 h6 => ?_)
  refine st_N 36 sx_88 h6 rfl rfl (fun M7 h7 => ?_)
  refine ⟨is_t 32 12 h7 (by decide +kernel), ?_⟩
  refine st_R 32 5 36 sx_89 h7 rfl (rfl) rfl (fun M8 h8 => ?_)
  refine st_N 37 sx_90 h8 rfl rfl (fun M9 h9 => ?_)
  refine ⟨is_t 32 12 h9 (by decide +kernel), ?_⟩
  refine st_R 32 6 37 sx_91 h9 rfl (rfl) rfl (fun M10 h10 => ?_)
  refine st_N 38 sx_92 h10 rfl rfl (fun M11 h11 => ?_)
  refine ⟨is_t 32 12 h11 (by decide +kernel), ?_⟩
  refine st_R 32 7 38 sx_93 h11 rfl (rfl) rfl (fun M12 h12 => ?_)
  refine st_N 39 sx_94 h12 rfl rfl (fun M13 h13 => ?_)
  refine ⟨is_t 32 12 h13 (by decide +kernel), ?_⟩
  refine st_R 32 8 39 sx_95 h13 rfl (rfl) rfl (fun M14 h14 => ?_)
  refine st_N 40 sx_96 h14 rfl rfl (fun M15 h15 => ?_)
  refine ⟨is_t 32 12 h15 (by decide +kernel), ?_⟩
  refine st_R 32 9 40 sx_97 h15 rfl (rfl) rfl (fun M16 h16 => ?_)
  refine st_N 41 sx_98 h16 rfl rfl (fun M17 h17 => ?_)
  refine ⟨is_t 32 12 h17 (by decide +kernel), ?_⟩
  refine st_R 32 10 41 sx_99 h17 rfl (rfl) rfl (fun M18 h18 => ?_)
  refine st_N 42 sx_100 h18 rfl rfl (fun M19 h19 => ?_)
  refine ⟨is_t 32 12 h19 (by decide +kernel), ?_⟩
  refine st_R 32 11 42 sx_101 h19 rfl (rfl) rfl (fun M20 h20 => ?_)
  refine st_N 43 sx_102 h20 rfl rfl (fun M21 h21 => ?_)
  refine ⟨is_t 32 12 h21 (by decide +kernel), ?_⟩
  refine st_R 32 12 43 sx_103 h21 rfl (rfl) rfl (fun M22 h22 => ?_)
  refine st_N 44 sx_104 h22 rfl rfl (fun M23 h23 => ?_)
  refine ⟨is_t 32 12 h23 (by decide +kernel), ?_⟩
  refine st_R 32 13 44 sx_105 h23 rfl (rfl) rfl (fun M24 h24 => ?_)
  refine st_N 45 sx_106 h24 rfl rfl (fun M25 h25 => ?_)
  refine ⟨is_t 32 12 h25 (by decide +kernel), ?_⟩
  refine st_R 32 14 45 sx_107 h25 rfl (rfl) rfl (fun M26 h26 => ?_)
  refine st_N 46 sx_108 h26 rfl rfl (fun M27 h27 => ?_)
  refine ⟨is_t 32 12 h27 (by decide +kernel), ?_⟩
  refine st_R 32 15 46 sx_109 h27 rfl (rfl) rfl (fun M28 h28 => ?_)
  refine st_N 47 sx_110 h28 rfl rfl (fun M29 h29 => ?_)
  refine ⟨is_t 32 12 h29 (by decide +kernel), ?_⟩
  refine st_R 32 17 47 sx_111 h29 rfl (rfl) rfl (fun M30 h30 => ?_)
  refine st_N 48 sx_112 h30 rfl rfl (fun M31 h31 => ?_)
  refine ⟨is_t 32 12 h31 (by decide +kernel), ?_⟩
  refine st_R 32 18 48 sx_113 h31 rfl (rfl) rfl (fun M32 h32 => ?_)
  refine st_N 49 sx_114 h32 rfl rfl (fun M33 h33 => ?_)
  refine ⟨is_t 32 12 h33 (by decide +kernel), ?_⟩
  refine st_R 32 19 49 sx_115 h33 rfl (rfl) rfl (fun M34 h34 => ?_)
  refine st_N 50 sx_116 h34 rfl rfl (fun M35 h35 => ?_)
  refine ⟨is_t 32 12 h35 (by decide +kernel), ?_⟩
  refine st_R 32 20 50 sx_117 h35 rfl (rfl) rfl (fun M36 h36 => ?_)
  refine st_N 51 sx_118 h36 rfl rfl (fun M37 h37 => ?_)
  refine ⟨is_t 32 12 h37 (by decide +kernel), ?_⟩
  refine st_R 32 22 51 sx_119 h37 rfl (rfl) rfl (fun M38 h38 => ?_)
  refine st_N 52 sx_120 h38 rfl rfl (fun M39 h39 => ?_)
  refine ⟨is_t 32 12 h39 (by decide +kernel), ?_⟩
  refine st_R 32 23 52 sx_121 h39 rfl (rfl) rfl (fun M40 h40 => ?_)
  refine st_N 53 sx_122 h40 rfl rfl (fun M41 h41 => ?_)
  refine ⟨is_t 32 12 h41 (by decide +kernel), ?_⟩
  refine st_R 32 24 53 sx_123 h41 rfl (rfl) rfl (fun M42 h42 => ?_)
  refine st_N 54 sx_124 h42 rfl rfl (fun M43 h43 => ?_)
  refine ⟨is_t 32 12 h43 (by decide +kernel), ?_⟩
  refine st_R 32 25 54 sx_125 h43 rfl (rfl) rfl (fun M44 h44 => ?_)
  refine st_N 55 sx_126 h44 rfl rfl (fun M45 h45 => ?_)
  refine ⟨is_t 32 12 h45 (by decide +kernel), ?_⟩
  refine st_R 32 26 55 sx_127 h45 rfl (rfl) rfl (fun M46 h46 => ?_)
  refine st_N 56 sx_128 h46 rfl rfl (fun M47 h47 => ?_)
  refine ⟨is_t 32 12 h47 (by decide +kernel), ?_⟩
  refine st_R 32 27 56 sx_129 h47 rfl (rfl) rfl (fun M48 h48 => ?_)
  refine st_N 57 sx_130 h48 rfl rfl (fun M49 h49 => ?_)
  refine ⟨is_t 32 12 h49 (by decide +kernel), ?_⟩
  refine st_R 32 28 57 sx_131 h49 rfl (rfl) rfl (fun M50 h50 => ?_)
  refine st_N 58 sx_132 h50 rfl rfl (fun M51 h51 => ?_)
  refine ⟨is_t 32 12 h51 (by decide +kernel), ?_⟩
  refine st_R 32 29 58 sx_133 h51 rfl (rfl) rfl (fun M52 h52 => ?_)
  refine st_N 59 sx_134 h52 rfl rfl (fun M53 h53 => ?_)
  refine ⟨is_t 32 12 h53 (by decide +kernel), ?_⟩
  refine st_R 32 30 59 sx_135 h53 rfl (rfl) rfl (fun M54 h54 => ?_)
  refine st_N 60 sx_136 h54 rfl rfl (fun M55 h55 => ?_)
  refine ⟨is_t 32 12 h55 (by decide +kernel), ?_⟩
  refine st_R 32 31 60 sx_137 h55 rfl (rfl) rfl (fun M56 h56 => ?_)
  refine st_N 61 sx_138 h56 rfl rfl (fun M57 h57 => ?_)
  refine ⟨is_t 32 12 h57 (by decide +kernel), ?_⟩
  refine st_R 32 33 61 sx_139 h57 rfl (rfl) rfl (fun M58 h58 => ?_)
  refine st_N 62 sx_140 h58 rfl rfl (fun M59 h59 => ?_)
  refine ⟨is_t 32 12 h59 (by decide +kernel), ?_⟩
  refine st_R 32 34 62 sx_141 h59 rfl (rfl) rfl (fun M60 h60 => ?_)
  refine st_N 63 sx_142 h60 rfl rfl (fun M61 h61 => ?_)
  refine ⟨is_t 32 12 h61 (by decide +kernel), ?_⟩
  refine st_R 32 36 63 sx_143 h61 rfl (rfl) rfl (fun M62 h62 => ?_)
  refine st_N 64 sx_144 h62 rfl rfl (fun M63 h63 => ?_)
  refine ⟨is_t 32 12 h63 (by decide +kernel), ?_⟩
  refine st_R 32 37 64 sx_145 h63 rfl (rfl) rfl (fun M64 h64 => ?_)
  exact kk M64 h64
theorem sx_T : ∀ q ∈ dw_T, q.1 < sx_145.1 ∧ sx_145.2.1 q.1 = q.2 := by decide +kernel
theorem sx_R : ∀ q ∈ dw_R, q.1 < sx_145.1 ∧ sx_145.2.2.2.1 q.1 q.2.1 = q.2.2 + 1 := by decide +kernel
theorem sx_N : ∀ q ∈ dw_N, q.1 < sx_145.1 ∧ sx_145.2.2.1 q.1 = q.2 := by decide +kernel
theorem sx_A : ∀ j, j < 16 → 13 + j < sx_145.1 ∧ sx_145.2.2.2.2 (13 + j) = j := by decide +kernel
theorem sx_A0 : ∀ j, j < 65 → j < 13 ∨ 29 ≤ j → j < sx_145.1 ∧ sx_145.2.2.2.2 j = 0 := by decide +kernel
theorem sx_M : ∀ q ∈ mw_tab, (32 < sx_145.1 ∧ sx_145.2.2.2.1 32 q.1 = (32 + q.2.1) + 1) ∧ (32 + q.2.1 < sx_145.1 ∧ sx_145.2.1 (32 + q.2.1) = q.2.2.1) ∧ (32 + q.2.1 < sx_145.1 ∧ sx_145.2.2.1 (32 + q.2.1) = q.2.2.2) := by decide +kernel
def A0_ : Ab := (fun _ _ => 0, fun _ _ => 0, fun _ => 0)
theorem A0_1 (c j : Nat) : A0_.1 c j = 0 := rfl
theorem A0_2 (c j : Nat) : A0_.2.1 c j = 0 := rfl
theorem A0_3 (c : Nat) : A0_.2.2 c = 0 := rfl
theorem ss_start {Z : Nat} {M : Mm} (h : IS Z M sx_145) : SS Z M A0_ := by
  have hI : ∀ i k, i < 65 → i < 13 ∨ 29 ≤ i ∨ 0 < k → ddI M (Z + i) k = 0 := fun i k hi hk => by
    rcases Nat.eq_zero_or_pos k with e | e
    · subst e
      have w := sx_A0 i hi (by omega)
      rw [(h.2.1 i w.1).2.2.1, w.2]; rfl
    · exact h.2.2.1 _ k e
  have hI2 : ∀ i k, i < 33 → ddI M (Z + 32 + i) k = 0 := fun i k hi => by rw [Nat.add_assoc]; exact hI _ k (by omega) (by omega)
  have hZ : ddZ M = Z + 65 := h.1
  refine ⟨⟨⟨fun q hq => is_t _ _ h (sx_T q hq), fun q hq => is_r _ _ _ h (sx_R q hq), fun q hq => is_n _ _ h (sx_N q hq), fun j hj => ?_, by omega⟩, ?_, fun j hj => ?_, fun k hk => ?_, ?_, ?_, ?_⟩, ⟨⟨is_t 32 12 h (by decide +kernel), fun q hq => ?_⟩, ?_, fun j hj => ?_, fun k hk => ?_, ?_, ?_, ?_⟩, ?_⟩
  · have w := sx_A j hj
    rw [Nat.add_assoc, (h.2.1 _ w.1).2.2.1, w.2]
  · exact h.2.2.1 _ 4 (by decide)
  · exact ⟨h.2.2.1 _ 1 (by decide), h.2.2.1 _ 2 (by decide)⟩
  · refine ⟨?_, h.2.2.1 _ 1 (by decide), h.2.2.1 _ 2 (by decide), h.2.2.1 _ 3 (by decide), h.2.2.1 _ 4 (by decide), h.2.2.2 _ 5⟩
    rw [Nat.add_assoc]
    exact hI _ 0 (by omega) (by omega)
  · exact ⟨by rw [A0_3]; omega, hI 1 1 (by decide) (by decide), fun e he => absurd he (by rw [A0_3]; omega)⟩
  · exact ⟨by rw [A0_3]; omega, hI 4 1 (by decide) (by decide), by rw [A0_3]; omega, hI 4 2 (by decide) (by decide), fun e he => absurd he (by rw [A0_3]; omega), fun l l' q hl => absurd hl (by rw [A0_3]; omega)⟩
  · exact ⟨by rw [A0_3]; omega, hI 11 3 (by decide) (by decide), fun e he => absurd he (by rw [A0_3]; omega), fun l l' q q' r hl => absurd hl (by rw [A0_3]; omega)⟩
  · obtain ⟨w1, w2, w3⟩ := sx_M q hq
    rw [Nat.add_assoc]
    exact ⟨is_r _ _ _ h w1, is_t _ _ h w2, is_n _ _ h w3⟩
  · exact hI 32 0 (by decide) (by decide)
  · exact ⟨hI2 29 _ (by decide), hI2 30 _ (by decide)⟩
  · exact ⟨hI2 27 _ (by decide), hI2 26 _ (by decide), hI2 22 _ (by decide), hI2 25 _ (by decide), hI2 23 _ (by decide), fun i hi => absurd hi (by rw [A0_1]; omega)⟩
  · exact ⟨by rw [A0_3]; omega, hI 32 1 (by decide) (by decide), fun e he => absurd he (by rw [A0_3]; omega)⟩
  · exact ⟨by rw [A0_3]; omega, hI 32 16 (by decide) (by decide), by rw [A0_3]; omega, hI 32 21 (by decide) (by decide), fun e he => absurd he (by rw [A0_3]; omega), fun e he => absurd he (by rw [A0_3]; omega)⟩
  · exact ⟨by rw [A0_3]; omega, hI 32 35 (by decide) (by decide), fun e he => absurd he (by rw [A0_3]; omega)⟩
  · refine ⟨by rw [A0_3]; omega, fun j hj => ⟨by rw [A0_1]; omega, by rw [A0_1]; omega⟩, fun k hk => ⟨by rw [A0_1]; omega, by rw [A0_1]; omega, by rw [A0_1]; omega, by rw [A0_1]; omega, fun z => absurd z (by rw [A0_1]; omega), fun z => absurd z (by rw [A0_1]; omega), fun _ => rfl⟩, fun e he => absurd he (by rw [A0_3]; omega), fun e he => absurd he (by rw [A0_3]; omega), fun e he => absurd he (by rw [A0_3]; omega), fun e e' _ he => absurd he (by rw [A0_3]; omega), fun e he => absurd he (by rw [A0_3]; omega)⟩
theorem law_ok : ∀ (L : Nat) (xs : Nat → Int32) (Z : Nat), L ≤ 3584 → PL_law L xs (M0_ Z) (fun r _ => r = 1) := by
  intro L xs Z hL
  have h0 : IS Z (M0_ Z) sx_0 := ⟨rfl, fun i hi => absurd hi (Nat.not_lt_zero i), fun _ _ _ => rfl, fun _ _ => rfl⟩
  unfold PL_law
  refine st_N 0 sx_1 h0 rfl rfl (fun M1 h1 => ?_)
  refine in_10 h1 (fun M2 h2 => ?_)
  refine st_N 32 sx_81 h2 rfl rfl (fun M3 h3 => ?_)
  refine in_11 h3 (fun M4 h4 => ?_)
  have w := law_lp (L := L) (xs := xs) (a := Z) hL 513 0 M4 A0_ rfl (Or.inr rfl) (ss_start h4)
  exact w
