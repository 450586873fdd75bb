section RU
variable {X : Cx_} {mi : Mi_} {R : Room} {post : Option Sm → Mm → Prop} {pc : Nat} {lv : List (Nat × Sm)} {st : List Sm} {M : Mm} {k n : Nat}
theorem lm_at {ls : Array Slot} {nL : Nat} {lv : List (Nat × Sm)} (h : lv_has ls nL (lm_ lv)) (j : Nat) {i : Nat} {v : Sm} (hk : lv[j]? = some (i, v)) : ls[i]? = some (.val (tv_ v)) := by
  refine lv_at h j (i := i) (v := tv_ v) ?_
  unfold lm_
  rw [List.getElem?_map, hk]
  rfl
theorem lm_sub {ls : Array Slot} {nL : Nat} {lv lv' : List (Nat × Sm)} (h : lv_has ls nL (lm_ lv)) (hs : ∀ q ∈ lv', q ∈ lv) : lv_has ls nL (lm_ lv') := by
  refine ⟨h.1, h.2.1, fun q hq => ?_⟩
  obtain ⟨x, hx, rfl⟩ := List.mem_map.mp hq
  exact h.2.2 _ (List.mem_map.mpr ⟨x, hs x hx, rfl⟩)
theorem vv_sub (lv' : List (Nat × Sm)) (ks : List Nat) (hs : ks.filterMap (fun j => lv[j]?) = lv') (K : VV X mi R post pc lv' st M k n) : VV X mi R post pc lv st M k n :=
  fun p e s m args below meth c H locs ls B hl hh hS => K p e s m args below meth c H locs ls B (lm_sub hl (fun q hq => by
    rw [← hs] at hq
    obtain ⟨j, -, hj⟩ := List.mem_filterMap.mp hq
    exact List.mem_of_getElem? hj)) hh hS
theorem vv_widen (k' n' : Nat) (h1 : k ≤ k') (h2 : n ≤ n') (K : VV X mi R post pc lv st M k' n') : VV X mi R post pc lv st M k n :=
  fun p e s m args below meth c H locs ls B hl hh hS => W.widen h1 h2 (K p e s m args below meth c H locs ls B hl hh hS)
def rm1_ (i : Nat) (lv : List (Nat × Sm)) : List (Nat × Sm) := lv.filter (fun q => !(q.1 == i) && !(q.1 + 1 == i && lg2_ q.2))
def rm2_ (i : Nat) (lv : List (Nat × Sm)) : List (Nat × Sm) := lv.filter (fun q => !(q.1 == i) && (!(q.1 == i + 1) && !(q.1 + 1 == i && lg2_ q.2)))
theorem lg2_cat (v : Sm) : ((tv_ v).category == 2) = lg2_ v := by
  rw [tv_cat]
  cases lg2_ v <;> rfl
theorem rm1_eq (i : Nat) (lv : List (Nat × Sm)) : (lm_ lv).filter (fun q => !(q.1 == i) && !(q.1 + 1 == i && q.2.category == 2)) = lm_ (rm1_ i lv) := by
  unfold lm_ rm1_
  rw [List.filter_map]
  congr 1
  apply List.filter_congr
  intro q _
  simp only [Function.comp, lg2_cat]
theorem rm2_eq (i : Nat) (lv : List (Nat × Sm)) : (lm_ lv).filter (fun q => !(q.1 == i) && (!(q.1 == i + 1) && !(q.1 + 1 == i && q.2.category == 2))) = lm_ (rm2_ i lv) := by
  unfold lm_ rm2_
  rw [List.filter_map]
  congr 1
  apply List.filter_congr
  intro q _
  simp only [Function.comp, lg2_cat]

theorem vv_iconst {z : Int} (v : Int32) (hd : decode mi.2.1 pc = .ok (.iconst z, 1)) (hv : Int32.ofInt z = v) (K : VV X mi R post (pc + 1) lv (.inl v :: st) M k n) : VV X mi R post pc lv st M k n :=
  fun p e s m args below meth c H locs ls B hl hh hS => lv_iconst B.1 B.2.1 hd hv (K p e s m args below meth c H locs ls B hl hh hS)
theorem vv_bipush {z : Int} (v : Int32) (hd : decode mi.2.1 pc = .ok (.bipush z, 2)) (hv : (Int8.ofInt z).toInt32 = v) (K : VV X mi R post (pc + 2) lv (.inl v :: st) M k n) : VV X mi R post pc lv st M k n :=
  fun p e s m args below meth c H locs ls B hl hh hS => lv_bipush B.1 B.2.1 hd hv (K p e s m args below meth c H locs ls B hl hh hS)
theorem vv_sipush {z : Int} (v : Int32) (hd : decode mi.2.1 pc = .ok (.sipush z, 3)) (hv : (Int16.ofInt z).toInt32 = v) (K : VV X mi R post (pc + 3) lv (.inl v :: st) M k n) : VV X mi R post pc lv st M k n :=
  fun p e s m args below meth c H locs ls B hl hh hS => lv_sipush B.1 B.2.1 hd hv (K p e s m args below meth c H locs ls B hl hh hS)
theorem vv_lconst {z : Fin 2} (v : Int64) (hd : decode mi.2.1 pc = .ok (.lconst z, 1)) (hv : Int64.ofNat (z : Nat) = v) (K : VV X mi R post (pc + 1) lv (.inr (.inl v) :: st) M k n) : VV X mi R post pc lv st M k n :=
  fun p e s m args below meth c H locs ls B hl hh hS => lv_lconst B.1 B.2.1 hd hv (K p e s m args below meth c H locs ls B hl hh hS)
theorem vv_null (hd : decode mi.2.1 pc = .ok (.aconst_null, 1)) (K : VV X mi R post (pc + 1) lv (.inr (.inr none) :: st) M k n) : VV X mi R post pc lv st M k n :=
  fun p e s m args below meth c H locs ls B hl hh hS => lv_null B.1 B.2.1 hd (K p e s m args below meth c H locs ls B hl hh hS)
theorem vv_ldc2 {idx : Nat} (v : Int64) (hd : decode mi.2.1 pc = .ok (.ldc2_w idx, 3)) (hw : decide (Cond.constantLong mi.1.cls idx v ∈ lw_tbl) = true) (K : VV X mi R post (pc + 3) lv (.inr (.inl v) :: st) M k n) : VV X mi R post pc lv st M k n :=
  fun p e s m args below meth c H locs ls B hl hh hS => lv_ldc2 B.1 B.2.1 B.2.2.2.2.1 (B.2.2.2.2.2.1 _ (tg_ (of_decide_eq_true hw) rfl)) hd (K p e s m args below meth c H locs ls B hl hh hS)
theorem vv_ldcw {idx : Nat} (v : Int32) (hd : decode mi.2.1 pc = .ok (.ldc_w idx, 3)) (hw : decide (Cond.constant mi.1.cls idx v ∈ lw_tbl) = true) (K : VV X mi R post (pc + 3) lv (.inl v :: st) M k n) : VV X mi R post pc lv st M k n :=
  fun p e s m args below meth c H locs ls B hl hh hS => lv_ldcw B.1 B.2.1 B.2.2.2.2.1 (B.2.2.2.2.2.1 _ (tg_ (of_decide_eq_true hw) rfl)) hd (K p e s m args below meth c H locs ls B hl hh hS)
theorem vv_ldc {idx : Nat} (v : Int32) (hd : decode mi.2.1 pc = .ok (.ldc idx, 2)) (hw : decide (Cond.constant mi.1.cls idx v ∈ lw_tbl) = true) (K : VV X mi R post (pc + 2) lv (.inl v :: st) M k n) : VV X mi R post pc lv st M k n :=
  fun p e s m args below meth c H locs ls B hl hh hS => lv_ldc B.1 B.2.1 B.2.2.2.2.1 (B.2.2.2.2.2.1 _ (tg_ (of_decide_eq_true hw) rfl)) hd (K p e s m args below meth c H locs ls B hl hh hS)
theorem vv_iload_n {z : Fin 4} {i : Nat} {x : Int32} (j : Nat) (hd : decode mi.2.1 pc = .ok (.iload_n z, 1)) (hi : (z : Nat) = i) (hj : lv[j]? = some (i, .inl x)) (K : VV X mi R post (pc + 1) lv (.inl x :: st) M k n) : VV X mi R post pc lv st M k n :=
  fun p e s m args below meth c H locs ls B hl hh hS => lv_iload_n B.1 B.2.1 hd hi (lm_at hl j hj) (K p e s m args below meth c H locs ls B hl hh hS)
theorem vv_iload {i : Nat} {x : Int32} (j : Nat) (hd : decode mi.2.1 pc = .ok (.iload i, 2)) (hj : lv[j]? = some (i, .inl x)) (K : VV X mi R post (pc + 2) lv (.inl x :: st) M k n) : VV X mi R post pc lv st M k n :=
  fun p e s m args below meth c H locs ls B hl hh hS => lv_iload B.1 B.2.1 hd (lm_at hl j hj) (K p e s m args below meth c H locs ls B hl hh hS)
theorem vv_lload_n {z : Fin 4} {i : Nat} {x : Int64} (j : Nat) (hd : decode mi.2.1 pc = .ok (.lload_n z, 1)) (hi : (z : Nat) = i) (hj : lv[j]? = some (i, .inr (.inl x))) (K : VV X mi R post (pc + 1) lv (.inr (.inl x) :: st) M k n) : VV X mi R post pc lv st M k n :=
  fun p e s m args below meth c H locs ls B hl hh hS => lv_lload_n B.1 B.2.1 hd hi (lm_at hl j hj) (K p e s m args below meth c H locs ls B hl hh hS)
theorem vv_lload {i : Nat} {x : Int64} (j : Nat) (hd : decode mi.2.1 pc = .ok (.lload i, 2)) (hj : lv[j]? = some (i, .inr (.inl x))) (K : VV X mi R post (pc + 2) lv (.inr (.inl x) :: st) M k n) : VV X mi R post pc lv st M k n :=
  fun p e s m args below meth c H locs ls B hl hh hS => lv_lload B.1 B.2.1 hd (lm_at hl j hj) (K p e s m args below meth c H locs ls B hl hh hS)
theorem vv_aload_n {z : Fin 4} {i : Nat} {x : Option Nat} (j : Nat) (hd : decode mi.2.1 pc = .ok (.aload_n z, 1)) (hi : (z : Nat) = i) (hj : lv[j]? = some (i, .inr (.inr x))) (K : VV X mi R post (pc + 1) lv (.inr (.inr x) :: st) M k n) : VV X mi R post pc lv st M k n := by
  intro p e s m args below meth c H locs ls B hl hh hS
  have h1 := lm_at hl j hj
  have h2 := K p e s m args below meth c H locs ls B hl hh hS
  cases x with
  | none => exact lv_aload_nN B.1 B.2.1 hd hi h1 h2
  | some a => exact lv_aload_n B.1 B.2.1 hd hi h1 h2
theorem vv_aload {i : Nat} {x : Option Nat} (j : Nat) (hd : decode mi.2.1 pc = .ok (.aload i, 2)) (hj : lv[j]? = some (i, .inr (.inr x))) (K : VV X mi R post (pc + 2) lv (.inr (.inr x) :: st) M k n) : VV X mi R post pc lv st M k n := by
  intro p e s m args below meth c H locs ls B hl hh hS
  have h1 := lm_at hl j hj
  have h2 := K p e s m args below meth c H locs ls B hl hh hS
  cases x with
  | none => exact lv_aloadN B.1 B.2.1 hd h1 h2
  | some a => exact lv_aload B.1 B.2.1 hd h1 h2
theorem vv_istore_n {z : Fin 4} {i : Nat} {x : Int32} (lv' : List (Nat × Sm)) (hd : decode mi.2.1 pc = .ok (.istore_n z, 1)) (hi : (z : Nat) = i) (hn : i < mi.2.2.1) (hl' : (i, (.inl x : Sm)) :: rm1_ i lv = lv') (K : VV X mi R post (pc + 1) lv' st M k n) : VV X mi R post pc lv (.inl x :: st) M k n :=
  fun p e s m args below meth c H locs ls B hl hh hS => lv_istore_n (lv' := lm_ lv') B.1 B.2.1 hd hi hl hn (by rw [rm1_eq, ← hl']; rfl) (fun ls' hl2 => K p e s m args below meth c H locs ls' B hl2 hh hS)
theorem vv_istore {i : Nat} {x : Int32} (lv' : List (Nat × Sm)) (hd : decode mi.2.1 pc = .ok (.istore i, 2)) (hn : i < mi.2.2.1) (hl' : (i, (.inl x : Sm)) :: rm1_ i lv = lv') (K : VV X mi R post (pc + 2) lv' st M k n) : VV X mi R post pc lv (.inl x :: st) M k n :=
  fun p e s m args below meth c H locs ls B hl hh hS => lv_istore (lv' := lm_ lv') B.1 B.2.1 hd hl hn (by rw [rm1_eq, ← hl']; rfl) (fun ls' hl2 => K p e s m args below meth c H locs ls' B hl2 hh hS)
theorem vv_lstore_n {z : Fin 4} {i : Nat} {x : Int64} (lv' : List (Nat × Sm)) (hd : decode mi.2.1 pc = .ok (.lstore_n z, 1)) (hi : (z : Nat) = i) (hn : i + 1 < mi.2.2.1) (hl' : (i, (.inr (.inl x) : Sm)) :: rm2_ i lv = lv') (K : VV X mi R post (pc + 1) lv' st M k n) : VV X mi R post pc lv (.inr (.inl x) :: st) M k n :=
  fun p e s m args below meth c H locs ls B hl hh hS => lv_lstore_n (lv' := lm_ lv') B.1 B.2.1 hd hi hl hn (by rw [rm2_eq, ← hl']; rfl) (fun ls' hl2 => K p e s m args below meth c H locs ls' B hl2 hh hS)
theorem vv_lstore {i : Nat} {x : Int64} (lv' : List (Nat × Sm)) (hd : decode mi.2.1 pc = .ok (.lstore i, 2)) (hn : i + 1 < mi.2.2.1) (hl' : (i, (.inr (.inl x) : Sm)) :: rm2_ i lv = lv') (K : VV X mi R post (pc + 2) lv' st M k n) : VV X mi R post pc lv (.inr (.inl x) :: st) M k n :=
  fun p e s m args below meth c H locs ls B hl hh hS => lv_lstore (lv' := lm_ lv') B.1 B.2.1 hd hl hn (by rw [rm2_eq, ← hl']; rfl) (fun ls' hl2 => K p e s m args below meth c H locs ls' B hl2 hh hS)
theorem vv_astore_n {z : Fin 4} {i : Nat} {x : Option Nat} (lv' : List (Nat × Sm)) (hd : decode mi.2.1 pc = .ok (.astore_n z, 1)) (hi : (z : Nat) = i) (hn : i < mi.2.2.1) (hl' : (i, (.inr (.inr x) : Sm)) :: rm1_ i lv = lv') (K : VV X mi R post (pc + 1) lv' st M k n) : VV X mi R post pc lv (.inr (.inr x) :: st) M k n := by
  intro p e s m args below meth c H locs ls B hl hh hS
  cases x with
  | none => exact lv_astore_nN (lv' := lm_ lv') B.1 B.2.1 hd hi hl hn (by rw [rm1_eq, ← hl']; rfl) (fun ls' hl2 => K p e s m args below meth c H locs ls' B hl2 hh hS)
  | some a => exact lv_astore_n (lv' := lm_ lv') B.1 B.2.1 hd hi hl hn (by rw [rm1_eq, ← hl']; rfl) (fun ls' hl2 => K p e s m args below meth c H locs ls' B hl2 hh hS)
theorem vv_astore {i : Nat} {x : Option Nat} (lv' : List (Nat × Sm)) (hd : decode mi.2.1 pc = .ok (.astore i, 2)) (hn : i < mi.2.2.1) (hl' : (i, (.inr (.inr x) : Sm)) :: rm1_ i lv = lv') (K : VV X mi R post (pc + 2) lv' st M k n) : VV X mi R post pc lv (.inr (.inr x) :: st) M k n := by
  intro p e s m args below meth c H locs ls B hl hh hS
  cases x with
  | none => exact lv_astoreN (lv' := lm_ lv') B.1 B.2.1 hd hl hn (by rw [rm1_eq, ← hl']; rfl) (fun ls' hl2 => K p e s m args below meth c H locs ls' B hl2 hh hS)
  | some a => exact lv_astore (lv' := lm_ lv') B.1 B.2.1 hd hl hn (by rw [rm1_eq, ← hl']; rfl) (fun ls' hl2 => K p e s m args below meth c H locs ls' B hl2 hh hS)
theorem vv_iinc {i : Nat} {z : Int} {x : Int32} (v : Int32) (j : Nat) (lv' : List (Nat × Sm)) (hd : decode mi.2.1 pc = .ok (.iinc i z, 3)) (hj : lv[j]? = some (i, .inl x)) (hv : x + Int32.ofInt z = v) (hn : i < mi.2.2.1) (hl' : (i, (.inl v : Sm)) :: rm1_ i lv = lv') (K : VV X mi R post (pc + 3) lv' st M k n) : VV X mi R post pc lv st M k n :=
  fun p e s m args below meth c H locs ls B hl hh hS => lv_iinc (lv' := lm_ lv') (k := j) (x := x) (v := v) B.1 B.2.1 hd hl (by unfold lm_; rw [List.getElem?_map, hj]; rfl) hv hn (by rw [rm1_eq, ← hl']; rfl) (fun ls' hl2 => K p e s m args below meth c H locs ls' B hl2 hh hS)
theorem vv_iadd {x y : Int32} (hd : decode mi.2.1 pc = .ok (.iadd, 1)) (K : VV X mi R post (pc + 1) lv (.inl (x + y) :: st) M k n) : VV X mi R post pc lv (.inl y :: .inl x :: st) M k n :=
  fun p e s m args below meth c H locs ls B hl hh hS => lv_iadd B.1 B.2.1 hd (K p e s m args below meth c H locs ls B hl hh hS)
theorem vv_isub {x y : Int32} (hd : decode mi.2.1 pc = .ok (.isub, 1)) (K : VV X mi R post (pc + 1) lv (.inl (x - y) :: st) M k n) : VV X mi R post pc lv (.inl y :: .inl x :: st) M k n :=
  fun p e s m args below meth c H locs ls B hl hh hS => lv_isub B.1 B.2.1 hd (K p e s m args below meth c H locs ls B hl hh hS)
theorem vv_imul {x y : Int32} (hd : decode mi.2.1 pc = .ok (.imul, 1)) (K : VV X mi R post (pc + 1) lv (.inl (x * y) :: st) M k n) : VV X mi R post pc lv (.inl y :: .inl x :: st) M k n :=
  fun p e s m args below meth c H locs ls B hl hh hS => lv_imul B.1 B.2.1 hd (K p e s m args below meth c H locs ls B hl hh hS)
theorem vv_iand {x y : Int32} (hd : decode mi.2.1 pc = .ok (.iand, 1)) (K : VV X mi R post (pc + 1) lv (.inl (x &&& y) :: st) M k n) : VV X mi R post pc lv (.inl y :: .inl x :: st) M k n :=
  fun p e s m args below meth c H locs ls B hl hh hS => lv_iand B.1 B.2.1 hd (K p e s m args below meth c H locs ls B hl hh hS)
theorem vv_ior {x y : Int32} (hd : decode mi.2.1 pc = .ok (.ior, 1)) (K : VV X mi R post (pc + 1) lv (.inl (x ||| y) :: st) M k n) : VV X mi R post pc lv (.inl y :: .inl x :: st) M k n :=
  fun p e s m args below meth c H locs ls B hl hh hS => lv_ior B.1 B.2.1 hd (K p e s m args below meth c H locs ls B hl hh hS)
theorem vv_ixor {x y : Int32} (hd : decode mi.2.1 pc = .ok (.ixor, 1)) (K : VV X mi R post (pc + 1) lv (.inl (x ^^^ y) :: st) M k n) : VV X mi R post pc lv (.inl y :: .inl x :: st) M k n :=
  fun p e s m args below meth c H locs ls B hl hh hS => lv_ixor B.1 B.2.1 hd (K p e s m args below meth c H locs ls B hl hh hS)
theorem vv_ishl {x y : Int32} (hd : decode mi.2.1 pc = .ok (.ishl, 1)) (K : VV X mi R post (pc + 1) lv (.inl (x <<< (y &&& 31)) :: st) M k n) : VV X mi R post pc lv (.inl y :: .inl x :: st) M k n :=
  fun p e s m args below meth c H locs ls B hl hh hS => lv_ishl B.1 B.2.1 hd (K p e s m args below meth c H locs ls B hl hh hS)
theorem vv_ishr {x y : Int32} (hd : decode mi.2.1 pc = .ok (.ishr, 1)) (K : VV X mi R post (pc + 1) lv (.inl (x >>> (y &&& 31)) :: st) M k n) : VV X mi R post pc lv (.inl y :: .inl x :: st) M k n :=
  fun p e s m args below meth c H locs ls B hl hh hS => lv_ishr B.1 B.2.1 hd (K p e s m args below meth c H locs ls B hl hh hS)
theorem vv_ladd {x y : Int64} (hd : decode mi.2.1 pc = .ok (.ladd, 1)) (K : VV X mi R post (pc + 1) lv (.inr (.inl (x + y)) :: st) M k n) : VV X mi R post pc lv (.inr (.inl y) :: .inr (.inl x) :: st) M k n :=
  fun p e s m args below meth c H locs ls B hl hh hS => lv_ladd B.1 B.2.1 hd (K p e s m args below meth c H locs ls B hl hh hS)
theorem vv_lsub {x y : Int64} (hd : decode mi.2.1 pc = .ok (.lsub, 1)) (K : VV X mi R post (pc + 1) lv (.inr (.inl (x - y)) :: st) M k n) : VV X mi R post pc lv (.inr (.inl y) :: .inr (.inl x) :: st) M k n :=
  fun p e s m args below meth c H locs ls B hl hh hS => lv_lsub B.1 B.2.1 hd (K p e s m args below meth c H locs ls B hl hh hS)
theorem vv_lmul {x y : Int64} (hd : decode mi.2.1 pc = .ok (.lmul, 1)) (K : VV X mi R post (pc + 1) lv (.inr (.inl (x * y)) :: st) M k n) : VV X mi R post pc lv (.inr (.inl y) :: .inr (.inl x) :: st) M k n :=
  fun p e s m args below meth c H locs ls B hl hh hS => lv_lmul B.1 B.2.1 hd (K p e s m args below meth c H locs ls B hl hh hS)
theorem vv_land {x y : Int64} (hd : decode mi.2.1 pc = .ok (.land, 1)) (K : VV X mi R post (pc + 1) lv (.inr (.inl (x &&& y)) :: st) M k n) : VV X mi R post pc lv (.inr (.inl y) :: .inr (.inl x) :: st) M k n :=
  fun p e s m args below meth c H locs ls B hl hh hS => lv_land B.1 B.2.1 hd (K p e s m args below meth c H locs ls B hl hh hS)
theorem vv_lor {x y : Int64} (hd : decode mi.2.1 pc = .ok (.lor, 1)) (K : VV X mi R post (pc + 1) lv (.inr (.inl (x ||| y)) :: st) M k n) : VV X mi R post pc lv (.inr (.inl y) :: .inr (.inl x) :: st) M k n :=
  fun p e s m args below meth c H locs ls B hl hh hS => lv_lor B.1 B.2.1 hd (K p e s m args below meth c H locs ls B hl hh hS)
theorem vv_lxor {x y : Int64} (hd : decode mi.2.1 pc = .ok (.lxor, 1)) (K : VV X mi R post (pc + 1) lv (.inr (.inl (x ^^^ y)) :: st) M k n) : VV X mi R post pc lv (.inr (.inl y) :: .inr (.inl x) :: st) M k n :=
  fun p e s m args below meth c H locs ls B hl hh hS => lv_lxor B.1 B.2.1 hd (K p e s m args below meth c H locs ls B hl hh hS)
theorem vv_idiv {x y : Int32} (hne : ¬ y = 0) (hd : decode mi.2.1 pc = .ok (.idiv, 1)) (K : VV X mi R post (pc + 1) lv (.inl (x / y) :: st) M k n) : VV X mi R post pc lv (.inl (y) :: .inl (x) :: st) M k n :=
  fun p e s m args below meth c H locs ls B hl hh hS => lv_idiv B.1 B.2.1 hd hne (K p e s m args below meth c H locs ls B hl hh hS)
theorem vv_irem {x y : Int32} (hne : ¬ y = 0) (hd : decode mi.2.1 pc = .ok (.irem, 1)) (K : VV X mi R post (pc + 1) lv (.inl (x - x / y * y) :: st) M k n) : VV X mi R post pc lv (.inl (y) :: .inl (x) :: st) M k n :=
  fun p e s m args below meth c H locs ls B hl hh hS => lv_irem B.1 B.2.1 hd hne (K p e s m args below meth c H locs ls B hl hh hS)
theorem vv_ldiv {x y : Int64} (hne : ¬ y = 0) (hd : decode mi.2.1 pc = .ok (.ldiv, 1)) (K : VV X mi R post (pc + 1) lv (.inr (.inl (x / y)) :: st) M k n) : VV X mi R post pc lv (.inr (.inl (y)) :: .inr (.inl (x)) :: st) M k n :=
  fun p e s m args below meth c H locs ls B hl hh hS => lv_ldiv B.1 B.2.1 hd hne (K p e s m args below meth c H locs ls B hl hh hS)
theorem vv_lrem {x y : Int64} (hne : ¬ y = 0) (hd : decode mi.2.1 pc = .ok (.lrem, 1)) (K : VV X mi R post (pc + 1) lv (.inr (.inl (x - x / y * y)) :: st) M k n) : VV X mi R post pc lv (.inr (.inl (y)) :: .inr (.inl (x)) :: st) M k n :=
  fun p e s m args below meth c H locs ls B hl hh hS => lv_lrem B.1 B.2.1 hd hne (K p e s m args below meth c H locs ls B hl hh hS)
theorem vv_iushr {x y : Int32} (hd : decode mi.2.1 pc = .ok (.iushr, 1)) (K : VV X mi R post (pc + 1) lv (.inl ((x.toUInt32 >>> (y.toUInt32 &&& Int32.toUInt32 31)).toInt32) :: st) M k n) : VV X mi R post pc lv (.inl y :: .inl x :: st) M k n :=
  fun p e s m args below meth c H locs ls B hl hh hS => lv_iushr B.1 B.2.1 hd rfl (K p e s m args below meth c H locs ls B hl hh hS)
theorem vv_lushr {x : Int64} {y : Int32} (hd : decode mi.2.1 pc = .ok (.lushr, 1)) (K : VV X mi R post (pc + 1) lv (.inr (.inl ((x.toUInt64 >>> (y.toInt64.toUInt64 &&& Int64.toUInt64 63)).toInt64)) :: st) M k n) : VV X mi R post pc lv (.inl y :: .inr (.inl x) :: st) M k n :=
  fun p e s m args below meth c H locs ls B hl hh hS => lv_lushr B.1 B.2.1 hd rfl (K p e s m args below meth c H locs ls B hl hh hS)
theorem vv_lshl {x : Int64} {y : Int32} (hd : decode mi.2.1 pc = .ok (.lshl, 1)) (K : VV X mi R post (pc + 1) lv (.inr (.inl (x <<< (y.toInt64 &&& 63))) :: st) M k n) : VV X mi R post pc lv (.inl y :: .inr (.inl x) :: st) M k n :=
  fun p e s m args below meth c H locs ls B hl hh hS => lv_lshl B.1 B.2.1 hd rfl (K p e s m args below meth c H locs ls B hl hh hS)
theorem vv_lshr {x : Int64} {y : Int32} (hd : decode mi.2.1 pc = .ok (.lshr, 1)) (K : VV X mi R post (pc + 1) lv (.inr (.inl (x >>> (y.toInt64 &&& 63))) :: st) M k n) : VV X mi R post pc lv (.inl y :: .inr (.inl x) :: st) M k n :=
  fun p e s m args below meth c H locs ls B hl hh hS => lv_lshr B.1 B.2.1 hd rfl (K p e s m args below meth c H locs ls B hl hh hS)
theorem vv_i2l {x : Int32} (hd : decode mi.2.1 pc = .ok (.i2l, 1)) (K : VV X mi R post (pc + 1) lv (.inr (.inl x.toInt64) :: st) M k n) : VV X mi R post pc lv (.inl x :: st) M k n :=
  fun p e s m args below meth c H locs ls B hl hh hS => lv_i2l B.1 B.2.1 hd rfl (K p e s m args below meth c H locs ls B hl hh hS)
theorem vv_l2i {x : Int64} (hd : decode mi.2.1 pc = .ok (.l2i, 1)) (K : VV X mi R post (pc + 1) lv (.inl x.toInt32 :: st) M k n) : VV X mi R post pc lv (.inr (.inl x) :: st) M k n :=
  fun p e s m args below meth c H locs ls B hl hh hS => lv_l2i B.1 B.2.1 hd rfl (K p e s m args below meth c H locs ls B hl hh hS)
theorem vv_lcmp {x y : Int64} (hd : decode mi.2.1 pc = .ok (.lcmp, 1)) (K : VV X mi R post (pc + 1) lv (.inl (lg_cmp x y) :: st) M k n) : VV X mi R post pc lv (.inr (.inl y) :: .inr (.inl x) :: st) M k n :=
  fun p e s m args below meth c H locs ls B hl hh hS => W.lcmp B.1 B.2.1 hd (K p e s m args below meth c H locs ls B hl hh hS)
theorem ct1_ {v : Sm} (h : lg2_ v = false) : (tv_ v).category = 1 := by rw [tv_cat, h]; rfl
theorem vv_dup {v : Sm} (hd : decode mi.2.1 pc = .ok (.dup, 1)) (hv : lg2_ v = false) (K : VV X mi R post (pc + 1) lv (v :: v :: st) M k n) : VV X mi R post pc lv (v :: st) M k n :=
  fun p e s m args below meth c H locs ls B hl hh hS => lv_dup B.1 B.2.1 hd (ct1_ hv) (K p e s m args below meth c H locs ls B hl hh hS)
theorem vv_pop {v : Sm} (hd : decode mi.2.1 pc = .ok (.pop, 1)) (hv : lg2_ v = false) (K : VV X mi R post (pc + 1) lv st M k n) : VV X mi R post pc lv (v :: st) M k n :=
  fun p e s m args below meth c H locs ls B hl hh hS => lv_pop B.1 B.2.1 hd (ct1_ hv) (K p e s m args below meth c H locs ls B hl hh hS)
theorem vv_dup_x1 {v w : Sm} (hd : decode mi.2.1 pc = .ok (.dup_x1, 1)) (hv : lg2_ v = false) (hw : lg2_ w = false) (K : VV X mi R post (pc + 1) lv (v :: w :: v :: st) M k n) : VV X mi R post pc lv (v :: w :: st) M k n :=
  fun p e s m args below meth c H locs ls B hl hh hS => lv_dup_x1 B.1 B.2.1 hd (ct1_ hv) (ct1_ hw) (K p e s m args below meth c H locs ls B hl hh hS)
theorem vv_dup2 {v w : Sm} (hd : decode mi.2.1 pc = .ok (.dup2, 1)) (hv : lg2_ v = false) (hw : lg2_ w = false) (K : VV X mi R post (pc + 1) lv (v :: w :: v :: w :: st) M k n) : VV X mi R post pc lv (v :: w :: st) M k n :=
  fun p e s m args below meth c H locs ls B hl hh hS => lv_dup2_11 B.1 B.2.1 hd (ct1_ hv) (ct1_ hw) (K p e s m args below meth c H locs ls B hl hh hS)
theorem vv_if_eq {x : Int32} {off : Int} (tgt : Nat) (hd : decode mi.2.1 pc = .ok (.ifCond .eq off, 3)) (ht : (pc : Int) + off = (tgt : Int)) (B1 : x = 0 → VV X mi R post tgt lv st M k n) (B2 : ¬ x = 0 → VV X mi R post (pc + 3) lv st M k n) : VV X mi R post pc lv (.inl x :: st) M k n :=
  fun p e s m args below meth c H locs ls B hl hh hS => lv_if_eq B.1 B.2.1 hd ht (fun z => B1 z p e s m args below meth c H locs ls B hl hh hS) (fun z => B2 z p e s m args below meth c H locs ls B hl hh hS)
theorem vv_icmp_eq {x y : Int32} {off : Int} (tgt : Nat) (hd : decode mi.2.1 pc = .ok (.if_icmp .eq off, 3)) (ht : (pc : Int) + off = (tgt : Int)) (B1 : x = y → VV X mi R post tgt lv st M k n) (B2 : ¬ x = y → VV X mi R post (pc + 3) lv st M k n) : VV X mi R post pc lv (.inl y :: .inl x :: st) M k n :=
  fun p e s m args below meth c H locs ls B hl hh hS => lv_icmp_eq B.1 B.2.1 hd ht (fun z => B1 z p e s m args below meth c H locs ls B hl hh hS) (fun z => B2 z p e s m args below meth c H locs ls B hl hh hS)
theorem vv_if_ne {x : Int32} {off : Int} (tgt : Nat) (hd : decode mi.2.1 pc = .ok (.ifCond .ne off, 3)) (ht : (pc : Int) + off = (tgt : Int)) (B1 : ¬ x = 0 → VV X mi R post tgt lv st M k n) (B2 : x = 0 → VV X mi R post (pc + 3) lv st M k n) : VV X mi R post pc lv (.inl x :: st) M k n :=
  fun p e s m args below meth c H locs ls B hl hh hS => lv_if_ne B.1 B.2.1 hd ht (fun z => B1 z p e s m args below meth c H locs ls B hl hh hS) (fun z => B2 z p e s m args below meth c H locs ls B hl hh hS)
theorem vv_icmp_ne {x y : Int32} {off : Int} (tgt : Nat) (hd : decode mi.2.1 pc = .ok (.if_icmp .ne off, 3)) (ht : (pc : Int) + off = (tgt : Int)) (B1 : ¬ x = y → VV X mi R post tgt lv st M k n) (B2 : x = y → VV X mi R post (pc + 3) lv st M k n) : VV X mi R post pc lv (.inl y :: .inl x :: st) M k n :=
  fun p e s m args below meth c H locs ls B hl hh hS => lv_icmp_ne B.1 B.2.1 hd ht (fun z => B1 z p e s m args below meth c H locs ls B hl hh hS) (fun z => B2 z p e s m args below meth c H locs ls B hl hh hS)
theorem vv_if_lt {x : Int32} {off : Int} (tgt : Nat) (hd : decode mi.2.1 pc = .ok (.ifCond .lt off, 3)) (ht : (pc : Int) + off = (tgt : Int)) (B1 : x < 0 → VV X mi R post tgt lv st M k n) (B2 : ¬ x < 0 → VV X mi R post (pc + 3) lv st M k n) : VV X mi R post pc lv (.inl x :: st) M k n :=
  fun p e s m args below meth c H locs ls B hl hh hS => lv_if_lt B.1 B.2.1 hd ht (fun z => B1 z p e s m args below meth c H locs ls B hl hh hS) (fun z => B2 z p e s m args below meth c H locs ls B hl hh hS)
theorem vv_icmp_lt {x y : Int32} {off : Int} (tgt : Nat) (hd : decode mi.2.1 pc = .ok (.if_icmp .lt off, 3)) (ht : (pc : Int) + off = (tgt : Int)) (B1 : x < y → VV X mi R post tgt lv st M k n) (B2 : ¬ x < y → VV X mi R post (pc + 3) lv st M k n) : VV X mi R post pc lv (.inl y :: .inl x :: st) M k n :=
  fun p e s m args below meth c H locs ls B hl hh hS => lv_icmp_lt B.1 B.2.1 hd ht (fun z => B1 z p e s m args below meth c H locs ls B hl hh hS) (fun z => B2 z p e s m args below meth c H locs ls B hl hh hS)
theorem vv_if_ge {x : Int32} {off : Int} (tgt : Nat) (hd : decode mi.2.1 pc = .ok (.ifCond .ge off, 3)) (ht : (pc : Int) + off = (tgt : Int)) (B1 : 0 ≤ x → VV X mi R post tgt lv st M k n) (B2 : ¬ 0 ≤ x → VV X mi R post (pc + 3) lv st M k n) : VV X mi R post pc lv (.inl x :: st) M k n :=
  fun p e s m args below meth c H locs ls B hl hh hS => lv_if_ge B.1 B.2.1 hd ht (fun z => B1 z p e s m args below meth c H locs ls B hl hh hS) (fun z => B2 z p e s m args below meth c H locs ls B hl hh hS)
theorem vv_icmp_ge {x y : Int32} {off : Int} (tgt : Nat) (hd : decode mi.2.1 pc = .ok (.if_icmp .ge off, 3)) (ht : (pc : Int) + off = (tgt : Int)) (B1 : y ≤ x → VV X mi R post tgt lv st M k n) (B2 : ¬ y ≤ x → VV X mi R post (pc + 3) lv st M k n) : VV X mi R post pc lv (.inl y :: .inl x :: st) M k n :=
  fun p e s m args below meth c H locs ls B hl hh hS => lv_icmp_ge B.1 B.2.1 hd ht (fun z => B1 z p e s m args below meth c H locs ls B hl hh hS) (fun z => B2 z p e s m args below meth c H locs ls B hl hh hS)
theorem vv_if_gt {x : Int32} {off : Int} (tgt : Nat) (hd : decode mi.2.1 pc = .ok (.ifCond .gt off, 3)) (ht : (pc : Int) + off = (tgt : Int)) (B1 : 0 < x → VV X mi R post tgt lv st M k n) (B2 : ¬ 0 < x → VV X mi R post (pc + 3) lv st M k n) : VV X mi R post pc lv (.inl x :: st) M k n :=
  fun p e s m args below meth c H locs ls B hl hh hS => lv_if_gt B.1 B.2.1 hd ht (fun z => B1 z p e s m args below meth c H locs ls B hl hh hS) (fun z => B2 z p e s m args below meth c H locs ls B hl hh hS)
theorem vv_icmp_gt {x y : Int32} {off : Int} (tgt : Nat) (hd : decode mi.2.1 pc = .ok (.if_icmp .gt off, 3)) (ht : (pc : Int) + off = (tgt : Int)) (B1 : y < x → VV X mi R post tgt lv st M k n) (B2 : ¬ y < x → VV X mi R post (pc + 3) lv st M k n) : VV X mi R post pc lv (.inl y :: .inl x :: st) M k n :=
  fun p e s m args below meth c H locs ls B hl hh hS => lv_icmp_gt B.1 B.2.1 hd ht (fun z => B1 z p e s m args below meth c H locs ls B hl hh hS) (fun z => B2 z p e s m args below meth c H locs ls B hl hh hS)
theorem vv_if_le {x : Int32} {off : Int} (tgt : Nat) (hd : decode mi.2.1 pc = .ok (.ifCond .le off, 3)) (ht : (pc : Int) + off = (tgt : Int)) (B1 : x ≤ 0 → VV X mi R post tgt lv st M k n) (B2 : ¬ x ≤ 0 → VV X mi R post (pc + 3) lv st M k n) : VV X mi R post pc lv (.inl x :: st) M k n :=
  fun p e s m args below meth c H locs ls B hl hh hS => lv_if_le B.1 B.2.1 hd ht (fun z => B1 z p e s m args below meth c H locs ls B hl hh hS) (fun z => B2 z p e s m args below meth c H locs ls B hl hh hS)
theorem vv_icmp_le {x y : Int32} {off : Int} (tgt : Nat) (hd : decode mi.2.1 pc = .ok (.if_icmp .le off, 3)) (ht : (pc : Int) + off = (tgt : Int)) (B1 : x ≤ y → VV X mi R post tgt lv st M k n) (B2 : ¬ x ≤ y → VV X mi R post (pc + 3) lv st M k n) : VV X mi R post pc lv (.inl y :: .inl x :: st) M k n :=
  fun p e s m args below meth c H locs ls B hl hh hS => lv_icmp_le B.1 B.2.1 hd ht (fun z => B1 z p e s m args below meth c H locs ls B hl hh hS) (fun z => B2 z p e s m args below meth c H locs ls B hl hh hS)
theorem vv_acmp_eq {rx ry : Option Nat} {off : Int} (tgt : Nat) (hd : decode mi.2.1 pc = .ok (.if_acmp .eq off, 3)) (ht : (pc : Int) + off = (tgt : Int)) (B1 : rx = ry → VV X mi R post tgt lv st M k n) (B2 : ¬ rx = ry → VV X mi R post (pc + 3) lv st M k n) : VV X mi R post pc lv (.inr (.inr ry) :: .inr (.inr rx) :: st) M k n :=
  fun p e s m args below meth c H locs ls B hl hh hS => lv_acmp_eq B.1 B.2.1 hd ht (fun z => B1 z p e s m args below meth c H locs ls B hl hh hS) (fun z => B2 z p e s m args below meth c H locs ls B hl hh hS)
theorem vv_acmp_ne {rx ry : Option Nat} {off : Int} (tgt : Nat) (hd : decode mi.2.1 pc = .ok (.if_acmp .ne off, 3)) (ht : (pc : Int) + off = (tgt : Int)) (B1 : ¬ rx = ry → VV X mi R post tgt lv st M k n) (B2 : rx = ry → VV X mi R post (pc + 3) lv st M k n) : VV X mi R post pc lv (.inr (.inr ry) :: .inr (.inr rx) :: st) M k n :=
  fun p e s m args below meth c H locs ls B hl hh hS => lv_acmp_ne B.1 B.2.1 hd ht (fun z => B1 z p e s m args below meth c H locs ls B hl hh hS) (fun z => B2 z p e s m args below meth c H locs ls B hl hh hS)
theorem vv_goto {off : Int} (tgt : Nat) (hd : decode mi.2.1 pc = .ok (.goto off, 3)) (ht : (pc : Int) + off = (tgt : Int)) (K : VV X mi R post tgt lv st M k n) : VV X mi R post pc lv st M k n :=
  fun p e s m args below meth c H locs ls B hl hh hS => lv_goto B.1 B.2.1 hd ht (K p e s m args below meth c H locs ls B hl hh hS)
theorem vv_ifnull {x : Option Nat} {off : Int} (tgt : Nat) (hd : decode mi.2.1 pc = .ok (.ifnull off, 3)) (ht : (pc : Int) + off = (tgt : Int)) (B1 : x = none → VV X mi R post tgt lv st M k n) (B2 : ∀ a, x = some a → VV X mi R post (pc + 3) lv st M k n) : VV X mi R post pc lv (.inr (.inr x) :: st) M k n := by
  intro p e s m args below meth c H locs ls B hl hh hS
  cases x with
  | none => exact lv_ifnullN B.1 B.2.1 hd ht (B1 rfl p e s m args below meth c H locs ls B hl hh hS)
  | some a => exact lv_ifnull B.1 B.2.1 hd (B2 a rfl p e s m args below meth c H locs ls B hl hh hS)
theorem vv_ifnonnull {x : Option Nat} {off : Int} (tgt : Nat) (hd : decode mi.2.1 pc = .ok (.ifnonnull off, 3)) (ht : (pc : Int) + off = (tgt : Int)) (B1 : ∀ a, x = some a → VV X mi R post tgt lv st M k n) (B2 : x = none → VV X mi R post (pc + 3) lv st M k n) : VV X mi R post pc lv (.inr (.inr x) :: st) M k n := by
  intro p e s m args below meth c H locs ls B hl hh hS
  cases x with
  | none => exact lv_ifnonnullN B.1 B.2.1 hd (B2 rfl p e s m args below meth c H locs ls B hl hh hS)
  | some a => exact lv_ifnonnull B.1 B.2.1 hd ht (B1 a rfl p e s m args below meth c H locs ls B hl hh hS)
theorem vv_tsw {x : Int32} {dflt lo hi : Int} {offs : Array Int} {len : Nat} (td : Nat) (tg : List Nat) (hd : decode mi.2.1 pc = .ok (.tableswitch dflt lo hi offs, len)) (htd : (pc : Int) + dflt = (td : Int)) (hlo : hi = lo + tg.length - 1) (htg : offs.toList.map (fun o => (pc : Int) + o) = tg.map (fun (t : Nat) => (t : Int)))
    (B1 : ∀ (j t : Nat), tg[j]? = some t → x.toInt = lo + (j : Int) → VV X mi R post t lv st M k n) (B2 : ¬ (lo ≤ x.toInt ∧ x.toInt ≤ hi) → VV X mi R post td lv st M k n) : VV X mi R post pc lv (.inl x :: st) M k n := by
  intro p e s m args below meth c H locs ls B hl hh hS
  by_cases h : lo ≤ x.toInt ∧ x.toInt ≤ hi
  · have hj : (x.toInt - lo).toNat < tg.length := by omega
    have ht : tg[(x.toInt - lo).toNat]? = some (tg[(x.toInt - lo).toNat]) := List.getElem?_eq_getElem hj
    have e1 : (offs.toList.map (fun o => (pc : Int) + o))[(x.toInt - lo).toNat]? = some ((tg[(x.toInt - lo).toNat] : Nat) : Int) := by rw [htg, List.getElem?_map, ht]; rfl
    rw [List.getElem?_map] at e1
    cases ho : offs.toList[(x.toInt - lo).toNat]? with
    | none => rw [ho] at e1; cases e1
    | some off =>
      rw [ho] at e1
      refine lv_tableIn (off := off) (tgt := tg[(x.toInt - lo).toNat]) B.1 B.2.1 hd (by omega) (by omega) (by rw [← Array.getElem?_toList]; exact ho) (Option.some.inj e1) (B1 _ _ ht (by omega) p e s m args below meth c H locs ls B hl hh hS)
  · exact lv_tableOut (tgt := td) B.1 B.2.1 hd (by omega) htd (B2 h p e s m args below meth c H locs ls B hl hh hS)

theorem vv_iret {pI : Int32 → Mm → Prop} {v : Int32} (hd : decode mi.2.1 pc = .ok (.ireturn, 1)) (hr : mi.2.2.2 = some .int) (hk : k ≤ R.cells) (hn : n ≤ R.slots) (h : pI v M) : VV X mi R (pI_ pI) pc lv [.inl v] M k n := by
  intro p e s m args below meth c H locs ls B hl hh hS
  obtain ⟨b1, b2, b3, b4, b5, b6, hlocks, b8, b9⟩ := B
  refine W.widen hk hn ?_
  exact W.iret b1 b2 (b3.trans hr) (fun t ht hW => ⟨⟨some (.inl v), M, rfl, h, by rw [ht]; exact hh⟩, hS.F ht⟩) hS.2.2 hd
theorem vv_zret {pI : Int32 → Mm → Prop} {v : Int32} (hd : decode mi.2.1 pc = .ok (.ireturn, 1)) (hr : mi.2.2.2 = some .boolean) (hv : v = 0 ∨ v = 1) (hk : k ≤ R.cells) (hn : n ≤ R.slots) (h : pI v M) : VV X mi R (pI_ pI) pc lv [.inl v] M k n := by
  intro p e s m args below meth c H locs ls B hl hh hS
  obtain ⟨b1, b2, b3, b4, b5, b6, hlocks, b8, b9⟩ := B
  refine W.widen hk hn ?_
  refine W.zret b1 b2 (b3.trans hr) ?_ (fun t ht hW => ⟨⟨some (.inl v), M, rfl, h, by rw [ht]; exact hh⟩, hS.F ht⟩) hS.2.2 hd
  rcases hv with rfl | rfl <;> rfl
theorem vv_lret {pL : Int64 → Mm → Prop} {v : Int64} (hd : decode mi.2.1 pc = .ok (.lreturn, 1)) (hr : mi.2.2.2 = some .long) (hk : k ≤ R.cells) (hn : n ≤ R.slots) (h : pL v M) : VV X mi R (pL_ pL) pc lv [.inr (.inl v)] M k n := by
  intro p e s m args below meth c H locs ls B hl hh hS
  obtain ⟨b1, b2, b3, b4, b5, b6, hlocks, b8, b9⟩ := B
  refine W.widen hk hn ?_
  exact W.lret b1 b2 (b3.trans hr) (fun t ht hW => ⟨⟨some (.inr (.inl v)), M, rfl, h, by rw [ht]; exact hh⟩, hS.F ht⟩) hS.2.2 hd
theorem vv_aret {pR : Option Nat → Mm → Prop} {v : Option Nat} {cn : String} (hd : decode mi.2.1 pc = .ok (.areturn, 1)) (hr : mi.2.2.2 = some (.object cn)) (hk : k ≤ R.cells) (hn : n ≤ R.slots) (h : pR v M) : VV X mi R (pR_ pR) pc lv [.inr (.inr v)] M k n := by
  intro p e s m args below meth c H locs ls B hl hh hS
  obtain ⟨b1, b2, b3, b4, b5, b6, hlocks, b8, b9⟩ := B
  refine W.widen hk hn ?_
  exact W.aret b1 b2 (b3.trans hr) (Or.inl ⟨cn, rfl⟩) (by cases v <;> simp [tv_, va_rf]) (fun t ht hW => ⟨⟨some (.inr (.inr v)), M, rfl, h, by rw [ht]; exact hh⟩, hS.F ht⟩) hS.2.2 hd
theorem vv_vret {pV : Mm → Prop} (hd : decode mi.2.1 pc = .ok (.return_, 1)) (hr : mi.2.2.2 = none) (hk : k ≤ R.cells) (hn : n ≤ R.slots) (h : pV M) : VV X mi R (pV_ pV) pc lv [] M k n := by
  intro p e s m args below meth c H locs ls B hl hh hS
  obtain ⟨b1, b2, b3, b4, b5, b6, hlocks, b8, b9⟩ := B
  refine W.widen hk hn ?_
  exact W.vret b1 b2 (b3.trans hr) (fun t ht hW => ⟨⟨none, M, rfl, h, by rw [ht]; exact hh⟩, hS.F ht⟩) hS.2.2 hd
end RU
