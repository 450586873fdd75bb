
/-! MEMORY: by address: its kind, its length, the ints, longs and references that it holds by place; and how many cells there are -/
abbrev Mm : Type := (Nat → Nat) × (Nat → Nat) × (Nat → Nat → Int32) × (Nat → Nat → Int64) × (Nat → Nat → Option Nat) × Nat
def ddT (M : Mm) : Nat → Nat := M.1
def ddN (M : Mm) : Nat → Nat := M.2.1
def ddI (M : Mm) : Nat → Nat → Int32 := M.2.2.1
def ddL (M : Mm) : Nat → Nat → Int64 := M.2.2.2.1
def ddR (M : Mm) : Nat → Nat → Option Nat := M.2.2.2.2.1
def ddZ (M : Mm) : Nat := M.2.2.2.2.2
def up1_ {α : Type} (f : Nat → α) (a : Nat) (v : α) : Nat → α := fun x => if x = a then v else f x
def up2_ {α : Type} (f : Nat → Nat → α) (a k : Nat) (v : α) : Nat → Nat → α := fun x y => if x = a ∧ y = k then v else f x y
def suI (M : Mm) (a k : Nat) (v : Int32) : Mm := (M.1, M.2.1, up2_ M.2.2.1 a k v, M.2.2.2)
def suL (M : Mm) (a k : Nat) (v : Int64) : Mm := (M.1, M.2.1, M.2.2.1, up2_ M.2.2.2.1 a k v, M.2.2.2.2)
def suR (M : Mm) (a k : Nat) (v : Option Nat) : Mm := (M.1, M.2.1, M.2.2.1, M.2.2.2.1, up2_ M.2.2.2.2.1 a k v, M.2.2.2.2.2)
def suN (M : Mm) (t len : Nat) : Mm := (up1_ M.1 (ddZ M) t, up1_ M.2.1 (ddZ M) len, up1_ M.2.2.1 (ddZ M) (fun _ => 0), up1_ M.2.2.2.1 (ddZ M) (fun _ => 0), up1_ M.2.2.2.2.1 (ddZ M) (fun _ => none), ddZ M + 1)
/-! what stands in a local or on the stack: an int, a long, a reference -/
abbrev Sm : Type := Int32 ⊕ (Int64 ⊕ Option Nat)
def tv_ : Sm → Value
  | .inl x => .int x
  | .inr (.inl x) => .long x
  | .inr (.inr o) => va_rf o
def lg2_ : Sm → Bool
  | .inr (.inl _) => true
  | _ => false
theorem tv_cat (v : Sm) : (tv_ v).category = if lg2_ v then 2 else 1 := by
  rcases v with x | x | o
  · rfl
  · rfl
  · cases o <;> rfl
def kd_tab : List (List Nat) := [[0, 0, 0, 0, 0, 1], [0, 0, 0], [0, 0, 0, 0, 0, 0, 0, 0, 2, 0, 0, 0, 0, 2, 2, 2, 1, 1], [2, 0, 0, 0, 0, 2], [2, 0, 0], [2, 0], [2, 0, 1, 1, 2], [0, 0, 2], [0, 0, 0, 0], [2, 2, 2, 0, 2, 2, 0], [2, 2, 2, 2, 0], [0, 0, 2, 2, 2, 2, 2, 2, 2, 2, 2, 2, 2, 2, 2, 2, 0, 2, 2, 2, 2, 0, 2, 2, 2, 2, 2, 2, 2, 2, 2, 2, 0, 2, 2, 0, 2, 2]]
def kd_ (ci k : Nat) : Nat := (kd_tab.getD ci []).getD k 0
def nf_ (ci : Nat) : Nat := (kd_tab.getD ci []).length
def fv_ (M : Mm) (ci a k : Nat) : Value := if kd_ ci k = 0 then .int (ddI M a k) else if kd_ ci k = 1 then .long (ddL M a k) else va_rf (ddR M a k)
/-- launch; class numbers and slots; array classes by kind; the first cell that is ours; the cell of the table of tens; the script: its cell, length, ints -/
abbrev Cx_ : Type := Launch × va_G × (Nat → ClassId) × Nat × Nat × Nat × Nat × (Nat → Int32)
def A_x (X : Cx_) : Nat → Prop := fun q => X.2.2.2.1 ≤ q
def ty_s (X : Cx_) : List (ClassId × FieldType) := [(X.2.2.1 20, .int), (X.2.2.1 21, .long), (X.2.2.1 22, .boolean), (X.2.2.1 23, .object "DialDesk$Call"), (X.2.2.1 24, .object "DialDesk$Demand"), (X.2.2.1 25, .object "DialDesk$Entry"), (X.2.2.1 26, .object "DialDesk$Line"), (X.2.2.1 27, .object "DialDesk$Option")]
def te_ (j : Nat) : Int64 := Int64.ofNat (10 ^ j)
def K_x (X : Cx_) (U : State) : Prop := va_K X.2.1 vwCl (ty_s X) U ∧ va_Z "DialDesk" "TENS" "[J" (.ref X.2.2.2.2.1) (A_x X) U U.heap ∧ va_T .long X.2.2.2.2.1 17 (fun j => .long (te_ j)) (A_x X) U U.heap ∧ (∀ a i x h, Cond.methodLinkNest a i x h ∈ lw_tbl → va_Nw (.methodLinkNest a i x h) U) ∧ (∀ C, Cond.arrayOver (.object C) ∈ lw_tbl → va_AO C U) ∧ va_X X.2.2.2.2.2.1 X.2.2.2.2.2.2.1 X.2.2.2.2.2.2.2 U U.heap ∧ X.2.2.2.2.2.1 < X.2.2.2.1
theorem K_x.moved {X : Cx_} {s U : State} {H : Heap} {locs : List Loc} (h : K_x X s) (hS : va_S (A_x X) s.heap H locs) (hW : s.WarmedH U.vm) (hU : U.heap = H) : K_x X U := by
  obtain ⟨h1, h2, h3, h4, h5, h6, h7⟩ := h
  have hvm := hW.alike
  refine ⟨va_K.moved hvm h1, ?_, ?_, fun a i x h hw => va_Nw.warmM hW (h4 a i x h hw), fun C hw => va_AO.moved hvm (h5 C hw), ?_, h7⟩
  · rw [hU]
    exact va_Z.moved hvm (h2.kept (fun a h5 h6 => hS.2.1 a h5 h6))
  · rw [hU]
    exact va_T.moved hvm (h3.kept (fun a h5 h6 => hS.2.1 a h5 h6))
  · rw [hU]
    refine va_X.moved hvm (h6.kept (hS.2.1 _ ?_ (Nat.not_le.mpr h7)))
    obtain ⟨scr, q1, -⟩ := h6
    exact (Array.getElem?_eq_some_iff.mp q1).1
/-- the cell at a is what the memory says -/
def hpA (X : Cx_) (M : Mm) (a : Nat) (H : Heap) : Prop :=
  (∀ ci, ddT M a = ci + 1 → ci < 12 → t_OB a (X.2.1.1 ci) (nf_ ci) (X.2.1.2 ci) H (fv_ M ci a)) ∧
  (ddT M a = 20 → H[a]? = some (arrV (X.2.2.1 20) (ddN M a) (fun j => .int (ddI M a j)))) ∧
  (ddT M a = 21 → H[a]? = some (arrV (X.2.2.1 21) (ddN M a) (fun j => .long (ddL M a j)))) ∧
  (ddT M a = 22 → H[a]? = some (arrV (X.2.2.1 22) (ddN M a) (fun j => .int (ddI M a j)))) ∧
  (∀ t, 23 ≤ t → ddT M a = t → H[a]? = some (arrV (X.2.2.1 t) (ddN M a) (fun j => va_rf (ddR M a j))))
def hp_ (X : Cx_) (M : Mm) (H : Heap) : Prop := H.size = ddZ M ∧ X.2.2.2.1 ≤ ddZ M ∧ (∀ a, ddT M a ≠ 0 → X.2.2.2.1 ≤ a) ∧ (∀ a, ddZ M ≤ a → ddT M a = 0) ∧ ∀ a, hpA X M a H
theorem hp_set {X : Cx_} {M M' : Mm} {H H' : Heap} {a : Nat} (h : hp_ X M H) (eT : ddT M' = ddT M) (eN : ddN M' = ddN M) (eZ : ddZ M' = ddZ M) (eI : ∀ b, b ≠ a → ddI M' b = ddI M b) (eL : ∀ b, b ≠ a → ddL M' b = ddL M b) (eR : ∀ b, b ≠ a → ddR M' b = ddR M b)
    (z : H'.size = H.size) (oq : ∀ q, q ≠ a → H'[q]? = H[q]?) (ha : hpA X M' a H') : hp_ X M' H' := by
  obtain ⟨h1, h2, h3, h5, h4⟩ := h
  refine ⟨by rw [z, h1, eZ], by rw [eZ]; exact h2, fun b hb => h3 b (by rw [← eT]; exact hb), fun b hb => by rw [eT]; exact h5 b (by rw [← eZ]; exact hb), fun b => ?_⟩
  by_cases hba : b = a
  · subst hba
    exact ha
  · have g := h4 b
    unfold hpA at g ⊢
    have ef : ∀ ci, fv_ M' ci b = fv_ M ci b := fun ci => by
      funext k
      simp only [fv_, eI b hba, eL b hba, eR b hba]
    rw [eT, eN, eI b hba, eL b hba, eR b hba, oq b hba]
    obtain ⟨g1, g2⟩ := g
    exact ⟨fun ci hc hl => by rw [ef]; exact (g1 ci hc hl).kept (oq b hba), g2⟩
theorem hp_new {X : Cx_} {M : Mm} {H H' : Heap} {t len : Nat} (h : hp_ X M H) (z : H'.size = H.size + 1) (oq : ∀ q, q < H.size → H'[q]? = H[q]?) (ha : hpA X (suN M t len) (ddZ M) H') : hp_ X (suN M t len) H' := by
  obtain ⟨h1, h2, h3, h5, h4⟩ := h
  refine ⟨by rw [z, h1]; rfl, Nat.le_succ_of_le h2, fun b hb => ?_, fun b hb => ?_, fun b => ?_⟩
  · by_cases hba : b = ddZ M
    · rw [hba]
      exact h2
    · exact h3 b (by simpa [ddT, suN, up1_, hba] using hb)
  · have hba : b ≠ ddZ M := by
      have : ddZ M + 1 ≤ b := hb
      omega
    have hb2 : ddZ M ≤ b := Nat.le_of_succ_le hb
    simpa [ddT, suN, up1_, hba] using h5 b hb2
  · by_cases hba : b = ddZ M
    · subst hba
      exact ha
    · have g := h4 b
      have eT : ddT (suN M t len) b = ddT M b := by simp [ddT, suN, up1_, hba]
      have eN : ddN (suN M t len) b = ddN M b := by simp [ddN, suN, up1_, hba]
      have eI : ddI (suN M t len) b = ddI M b := by simp [ddI, suN, up1_, hba]
      have eL : ddL (suN M t len) b = ddL M b := by simp [ddL, suN, up1_, hba]
      have eR : ddR (suN M t len) b = ddR M b := by simp [ddR, suN, up1_, hba]
      by_cases hT0 : ddT M b = 0
      · unfold hpA
        rw [eT, hT0]
        refine ⟨fun ci hc => by omega, fun hc => by omega, fun hc => by omega, fun hc => by omega, fun t ht hc => by omega⟩
      · have hlt : b < H.size := by
          rw [h1]
          rcases Nat.lt_or_ge b (ddZ M) with q | q
          · exact q
          · exact absurd (h5 b q) hT0
        unfold hpA at g ⊢
        have ef : ∀ ci, fv_ (suN M t len) ci b = fv_ M ci b := fun ci => by
          funext k
          simp only [fv_, eI, eL, eR]
        rw [eT, eN, eI, eL, eR, oq b hlt]
        obtain ⟨g1, g2⟩ := g
        exact ⟨fun ci hc hl => by rw [ef]; exact (g1 ci hc hl).kept (oq b hlt), g2⟩
/-! the tables' words -/
def lw_tbg : List Cond := lw_tbl.filter goodWord
theorem tg_ {w : Cond} (h : w ∈ lw_tbl) (hg : goodWord w = true) : w ∈ lw_tbg := List.mem_filter.mpr ⟨h, hg⟩
theorem lw_goodIn {ws : List Cond} (h : ∀ w ∈ ws, w ∈ lw_tbg) : GoodIn lw_tbg ws := fun w hw => ⟨h w hw, good_of_word (List.mem_filter.mp (h w hw)).2⟩
theorem cl_all : ∀ r ∈ vwCl, (u_ws r.1 r.2.1 r.2.2).all (fun w => decide (w ∈ lw_tbl) && goodWord w) = true := by decide +kernel
theorem cl_in {ci : Nat} {r : vw_C} (h : vwCl[ci]? = some r) : ∀ w ∈ u_ws r.1 r.2.1 r.2.2, w ∈ lw_tbg := fun w hw => by
  have h1 := List.all_eq_true.mp (cl_all r (List.mem_of_getElem? h)) w hw
  simp only [Bool.and_eq_true, decide_eq_true_eq] at h1
  exact tg_ h1.1 h1.2
theorem cl_ty : ∀ r ∈ vwCl, ∀ k, k < r.2.2 → parseFieldDescriptor (r.2.1 k).2.2.1 = some ((parseFieldDescriptor (r.2.1 k).2.2.1).getD .int) := by decide +kernel
theorem cl_nm : ∀ r ∈ vwCl, ∀ a, a < r.2.2 → ∀ b, b < r.2.2 → a ≠ b → (r.2.1 a).2.1 ≠ (r.2.1 b).2.1 := by decide +kernel
def fl_ok (own : String) (idx ci k kk : Nat) : Bool := match vwCl[ci]? with
  | none => false
  | some r => decide (k < r.2.2) && (decide (r.2.2 = nf_ ci) && (decide (kd_ ci k = kk) && decide (Cond.fieldLink own idx (r.2.1 k).1 (r.2.1 k).2.1 (r.2.1 k).2.2.1 ∈ lw_tbl)))
theorem fl_spec {own : String} {idx ci k kk : Nat} (h : fl_ok own idx ci k kk = true) : ∃ r : vw_C, vwCl[ci]? = some r ∧ k < r.2.2 ∧ r.2.2 = nf_ ci ∧ kd_ ci k = kk ∧ Cond.fieldLink own idx (r.2.1 k).1 (r.2.1 k).2.1 (r.2.1 k).2.2.1 ∈ lw_tbl := by
  unfold fl_ok at h
  split at h
  · cases h
  · next r hr =>
    simp only [Bool.and_eq_true, decide_eq_true_eq] at h
    exact ⟨r, hr, h.1, h.2.1, h.2.2.1, h.2.2.2⟩
def fq_ok (own : String) (idx ci k : Nat) (ty : FieldType) (fin : Bool) : Bool := match vwCl[ci]? with
  | none => false
  | some r => decide (k < r.2.2) && (decide (r.2.2 = nf_ ci) && (decide (parseFieldDescriptor (r.2.1 k).2.2.1 = some ty) && (decide (Cond.fieldLink own idx (r.2.1 k).1 (r.2.1 k).2.1 (r.2.1 k).2.2.1 ∈ lw_tbl) && (decide ((r.2.1 k).2.2.2 = fin) && (decide (fin = false) || decide ((r.2.1 k).1 = own))))))
theorem fq_spec {own : String} {idx ci k : Nat} {ty : FieldType} {fin : Bool} (h : fq_ok own idx ci k ty fin = true) : ∃ r : vw_C, vwCl[ci]? = some r ∧ k < r.2.2 ∧ r.2.2 = nf_ ci ∧ parseFieldDescriptor (r.2.1 k).2.2.1 = some ty ∧ Cond.fieldLink own idx (r.2.1 k).1 (r.2.1 k).2.1 (r.2.1 k).2.2.1 ∈ lw_tbl ∧ (r.2.1 k).2.2.2 = fin ∧ (fin = true → (r.2.1 k).1 = own) := by
  unfold fq_ok at h
  split at h
  · cases h
  · next r hr =>
    simp only [Bool.and_eq_true, decide_eq_true_eq, Bool.or_eq_true] at h
    obtain ⟨a1, a2, a3, a4, a5, a6⟩ := h
    refine ⟨r, hr, a1, a2, a3, a4, a5, fun hf => ?_⟩
    rcases a6 with q | q
    · rw [hf] at q
      cases q
    · exact q
theorem fl_mk {own : String} {idx ci k kk : Nat} (r : vw_C) (h1 : vwCl[ci]? = some r) (h2 : (decide (k < r.2.2) && (decide (r.2.2 = nf_ ci) && decide (kd_ ci k = kk))) = true) (h3 : Cond.fieldLink own idx (r.2.1 k).1 (r.2.1 k).2.1 (r.2.1 k).2.2.1 ∈ lw_tbl) : fl_ok own idx ci k kk = true := by
  unfold fl_ok
  rw [h1]
  simp only [Bool.and_eq_true, decide_eq_true_eq] at h2 ⊢
  exact ⟨h2.1, h2.2.1, h2.2.2, h3⟩
theorem fq_mk {own : String} {idx ci k : Nat} {ty : FieldType} {fin : Bool} (r : vw_C) (h1 : vwCl[ci]? = some r) (h2 : (decide (k < r.2.2) && (decide (r.2.2 = nf_ ci) && (decide (parseFieldDescriptor (r.2.1 k).2.2.1 = some ty) && (decide ((r.2.1 k).2.2.2 = fin) && (decide (fin = false) || decide ((r.2.1 k).1 = own)))))) = true) (h3 : Cond.fieldLink own idx (r.2.1 k).1 (r.2.1 k).2.1 (r.2.1 k).2.2.1 ∈ lw_tbl) : fq_ok own idx ci k ty fin = true := by
  unfold fq_ok
  rw [h1]
  simp only [Bool.and_eq_true, decide_eq_true_eq] at h2 ⊢
  exact ⟨h2.1, h2.2.1, h2.2.2.1, h3, h2.2.2.2.1, h2.2.2.2.2⟩
/-! THE JUDGEMENT -/
abbrev Mi_ : Type := MethodName × ByteArray × Nat × Option FieldType
def Rm_ (d mc ms : Nat) : Room := { frames := d, cells := mc, slots := ms, locals := 43 * d }
def Bd_ (X : Cx_) (mi : Mi_) (p : Program) (s : State) (m : MethodId) (args : Array Value) (meth : Method) (c : Code) : Prop :=
  p.tables.exec = Jvm.exec ∧ c.code = mi.2.1 ∧ meth.sig.returnType = mi.2.2.2 ∧ c.maxLocals = mi.2.2.1 ∧ s.vm.findClass mi.1.cls = some m.cls ∧ (∀ w ∈ lw_tbg, w.before args s = true) ∧ meth.locks = false ∧ (mi.1.name = "<init>" → meth.name = "<init>") ∧ K_x X s
def Qp_ (X : Cx_) (post : Option Sm → Mm → Prop) : Array Value → State → Outcome → State → Prop := fun _ st o t => (∃ (r : Option Sm) (M : Mm), o = .returned (r.map tv_) ∧ post r M ∧ hp_ X M t.heap) ∧ va_F (A_x X) st t
def lm_ (lv : List (Nat × Sm)) : List (Nat × Value) := lv.map fun q => (q.1, tv_ q.2)
def VV (X : Cx_) (mi : Mi_) (R : Room) (post : Option Sm → Mm → Prop) (pc : Nat) (lv : List (Nat × Sm)) (st : List Sm) (M : Mm) (k n : Nat) : Prop :=
  ∀ (p : Program) (e : Env) (s : State) (m : MethodId) (args : Array Value) (below : List Frame) (meth : Method) (c : Code) (H : Heap) (locs : List Loc) (ls : Array Slot),
    Bd_ X mi p s m args meth c → lv_has ls mi.2.2.1 (lm_ lv) → hp_ X M H → va_S (A_x X) s.heap H locs →
    W p X.1 e R s m args below meth c H locs k n (MQ below (Qp_ X post) args s R.cells R.slots (A_x X)) (F0 m pc ls (st.map tv_))
def wm_ (mj : Mi_) : List Cond := Cond.code mj.1 mj.2.1 mj.2.2.1 mj.2.2.2 :: lw_tbg
def CT (X : Cx_) (mj : Mi_) (R : Room) (av : List Sm) (M : Mm) (post : Option Sm → Mm → Prop) : Prop :=
  Met X.1 mj.1 (wm_ mj) R (va_Pc (av.map tv_) (fun U => hp_ X M U.heap ∧ K_x X U)) (Qp_ X post) R.cells R.slots (A_x X)
def ar_ : Nat → List Sm → List (Nat × Sm)
  | _, [] => []
  | i, v :: vs => (i, v) :: ar_ (if lg2_ v then i + 2 else i + 1) vs
def ln_ : List Sm → Nat
  | [] => 0
  | v :: vs => (if lg2_ v then 2 else 1) + ln_ vs
theorem ar_eq : ∀ (i : Nat) (av : List Sm), lv_args i (av.map tv_) = lm_ (ar_ i av)
  | _, [] => rfl
  | i, v :: vs => by
    show (i, tv_ v) :: lv_args (if (tv_ v).category = 2 then i + 2 else i + 1) (vs.map tv_) = (i, tv_ v) :: lm_ (ar_ (if lg2_ v then i + 2 else i + 1) vs)
    rw [ar_eq, tv_cat]
    cases lg2_ v <;> rfl
theorem ln_eq : ∀ (av : List Sm), (lg_sl (av.map tv_)).length = ln_ av
  | [] => rfl
  | v :: vs => by
    have h := ln_eq vs
    show ((if (tv_ v).category = 2 then [Slot.val (tv_ v), .second] else [Slot.val (tv_ v)]) ++ lg_sl (vs.map tv_)).length = (if lg2_ v then 2 else 1) + ln_ vs
    rw [List.length_append, h, tv_cat]
    cases lg2_ v <;> rfl
theorem CT.of {X : Cx_} {mj : Mi_} {R : Room} {av : List Sm} {M : Mm} {post : Option Sm → Mm → Prop} (hy : plainName mj.1.cls = true) (hn : ln_ av ≤ mj.2.2.1) (h : VV X mj R post 0 (ar_ 0 av) [] M 0 0) : CT X mj R av M post := by
  refine Met.ofW (cc := mj.2.1) (maxL := mj.2.2.1) (ret := mj.2.2.2) hy rfl ?_
  intro p e s m args below meth c s₁ B hml hv
  obtain ⟨rfl, hP, hK⟩ := hv
  have hts := atoms_spec (ws := wm_ mj) B.pre
  have hl := lv_entry (av.map tv_) (n := mj.2.2.1) (by rw [ln_eq]; exact hn)
  rw [lg_entry_eq]
  rw [ar_eq] at hl
  exact h p e s m _ below meth c s.heap [] _ ⟨B.exec, B.bytes, B.returns, hml, findClass_of_methodNamed B.named, fun w hw => hts w (List.mem_cons_of_mem _ hw), B.notSynchronized, fun q => (name_of_methodNamed B.named B.method).1.trans q, hK⟩ hl hP va_S.rf
theorem CT.ofF {X : Cx_} {mj : Mi_} {R : Room} {av : List Sm} {M : Mm} {post : Option Sm → Mm → Prop} (hy : plainFor mj.1 = true) (hn : ln_ av ≤ mj.2.2.1) (h : VV X mj R post 0 (ar_ 0 av) [] M 0 0) : CT X mj R av M post := by
  refine va_MetF (cc := mj.2.1) (maxL := mj.2.2.1) (ret := mj.2.2.2) hy rfl ?_
  intro p e s m args below meth c s₁ B hml hv
  obtain ⟨rfl, hP, hK⟩ := hv
  have hts := atoms_spec (ws := wm_ mj) B.pre
  have hl := lv_entry (av.map tv_) (n := mj.2.2.1) (by rw [ln_eq]; exact hn)
  rw [lg_entry_eq]
  rw [ar_eq] at hl
  exact h p e s m _ below meth c s.heap [] _ ⟨B.exec, B.bytes, B.returns, hml, findClass_of_methodNamed B.named, fun w hw => hts w (List.mem_cons_of_mem _ hw), B.notSynchronized, fun q => (name_of_methodNamed B.named B.method).1.trans q, hK⟩ hl hP va_S.rf
/-! answers by their kind -/
def pI_ (post : Int32 → Mm → Prop) : Option Sm → Mm → Prop
  | some (.inl v), M => post v M
  | _, _ => False
def pL_ (post : Int64 → Mm → Prop) : Option Sm → Mm → Prop
  | some (.inr (.inl v)), M => post v M
  | _, _ => False
def pR_ (post : Option Nat → Mm → Prop) : Option Sm → Mm → Prop
  | some (.inr (.inr v)), M => post v M
  | _, _ => False
def pV_ (post : Mm → Prop) : Option Sm → Mm → Prop
  | none, M => post M
  | _, _ => False
