/-- what the tables say of a method that is called -/
def mb_ok (mj : Mi_) (np : Nat) : Bool := decide (Cond.code mj.1 mj.2.1 mj.2.2.1 mj.2.2.2 ∈ lw_tbl) && (goodWord (Cond.code mj.1 mj.2.1 mj.2.2.1 mj.2.2.2) && (decide (Cond.initialized mj.1.cls ∈ lw_tbl) && (decide (mj.1.cls ≠ "java/lang/invoke/MethodHandle") && (decide (mj.1.cls ≠ "java/lang/invoke/VarHandle") && decide ((parseMethodDescriptor mj.1.desc).map (fun d => d.parameters.length) = some np)))))
theorem mb_mk {mj : Mi_} {np : Nat} (h1 : Cond.code mj.1 mj.2.1 mj.2.2.1 mj.2.2.2 ∈ lw_tbl) (h2 : Cond.initialized mj.1.cls ∈ lw_tbl) (h3 : (decide (mj.1.cls ≠ "java/lang/invoke/MethodHandle") && (decide (mj.1.cls ≠ "java/lang/invoke/VarHandle") && decide ((parseMethodDescriptor mj.1.desc).map (fun d => d.parameters.length) = some np))) = true) : mb_ok mj np = true := by
  unfold mb_ok
  simp only [Bool.and_eq_true, decide_eq_true_eq] at h3 ⊢
  exact ⟨h1, rfl, h2, h3⟩
theorem mb_spec {mj : Mi_} {np : Nat} (h : mb_ok mj np = true) : (∀ w ∈ wm_ mj, w ∈ lw_tbg) ∧ Cond.initialized mj.1.cls ∈ lw_tbg ∧ mj.1.cls ≠ "java/lang/invoke/MethodHandle" ∧ mj.1.cls ≠ "java/lang/invoke/VarHandle" ∧ (parseMethodDescriptor mj.1.desc).map (fun d => d.parameters.length) = some np := by
  unfold mb_ok at h
  simp only [Bool.and_eq_true, decide_eq_true_eq] at h
  obtain ⟨a1, a2, a3, a4⟩ := h
  refine ⟨fun w hw => ?_, tg_ a3 rfl, a4⟩
  rcases List.mem_cons.mp hw with e | e
  · rw [e]
    exact tg_ a1 a2
  · exact e
theorem bl_ {X : Cx_} {M : Mm} {av : List Value} : FrameBlind (va_Pc av (fun U => hp_ X M U.heap ∧ K_x X U)) := by
  intro a U g mk q
  obtain ⟨q0, q1, q2⟩ := q
  exact ⟨q0, q1, K_x.moved (U := U.calling g mk a) q2 (va_S.rf (H0 := U.heap)) (State.WarmedH.refl U) rfl⟩
section RC
variable {X : Cx_} {mi : Mi_} {R : Room} {post : Option Sm → Mm → Prop} {pc : Nat} {lv : List (Nat × Sm)} {M : Mm} {k n : Nat} {mj : Mi_} {Rj : Room} {pj : Option Sm → Mm → Prop} {np idx : Nat} {As rest : List Sm}
theorem rs_room {m : MethodId} {ls : Array Slot} {rest : List Sm} {st : List Value} (h : ln_ rest ≤ 8) : 2 * (F0 m pc ls st).monitorRoom + ((rest.map tv_).map fun v => v.category).sum ≤ 8 := by
  refine lv_room ?_
  refine Nat.le_trans (Nat.le_of_eq ?_) h
  clear h
  induction rest with
  | nil => rfl
  | cons v vs ih =>
    show (tv_ v).category + (((vs.map tv_).map fun v => v.category).sum) = (if lg2_ v then 2 else 1) + ln_ vs
    rw [ih, tv_cat]
/-- behind a call -/
theorem af_ {p : Program} {e : Env} {s : State} {m : MethodId} {args : Array Value} {below : List Frame} {meth : Method} {c : Code} {H : Heap} {locs : List Loc} {ls : Array Slot} {st0 : List Value} {a : Array Value}
    (B : Bd_ X mi p s m args meth c) (hl : lv_has ls mi.2.2.1 (lm_ lv)) (hS : va_S (A_x X) s.heap H locs)
    (hr : va_Run p X.1 e R s m args below meth c H locs k n Rj.cells Rj.slots (F0 m pc ls st0) (rest.map tv_) (Qp_ X pj a) (A_x X))
    (K : ∀ r M', pj r M' → VV X mi R post (pc + 3) lv (r.toList ++ rest) M' (k + Rj.cells) (n + Rj.slots)) : W p X.1 e R s m args below meth c H locs k n (MQ below (Qp_ X post) args s R.cells R.slots (A_x X)) (F0 m pc ls st0) := by
  intro T hT Y
  obtain ⟨v, st₀, t, T', L, h0, Y', hL, e1, e2, ⟨⟨r, M', hv, hp, hb⟩, hz, hk⟩, sx⟩ := hr T hT Y
  have hv2 : v = r.map tv_ := by injection hv
  subst hv2
  rw [h0] at hz hk
  have hS' : va_S (A_x X) s.heap t.heap (locs ++ L) := ⟨Nat.le_trans hS.1 hz, fun q h1 h2 => by rw [hk q (Nat.lt_of_lt_of_le h1 hS.1) h2]; exact hS.2.1 q h1 h2, fun q hq => by
      rcases List.mem_append.mp hq with h | h
      · exact hS.2.2 q h
      · exact hL q h⟩
  have hW := K r M' hp p e s m args below meth c t.heap (locs ++ L) ls B hl hb hS'
  have hst : (r.toList ++ rest).map tv_ = (r.map tv_).toList ++ rest.map tv_ := by cases r <;> rfl
  rw [hst] at hW
  obtain ⟨t2, a1, b1⟩ := hW T' e1 Y'
  exact ⟨t2, sx t2 a1, b1⟩
theorem pc_ {s U : State} {H : Heap} {locs : List Loc} {av : List Sm} (hK : K_x X s) (hh : hp_ X M H) (hS : va_S (A_x X) s.heap H locs) (hU : U.heap = H) (hW : s.WarmedH U.vm) : va_Pc (av.map tv_) (fun U => hp_ X M U.heap ∧ K_x X U) (av.map tv_).toArray U := ⟨rfl, by rw [hU]; exact hh, K_x.moved hK hS hW hU⟩
theorem vv_callV {o : Option Nat} {a ci : Nat} (C : CT X mj Rj (.inr (.inr (some a)) :: As) M pj) (hd : decode mi.2.1 pc = .ok (.invokevirtual idx, 3)) (ho : o = some a) (hT : ddT M a = ci + 1) (hci : ci < 12) (hcl : vwCl[ci]?.map (fun r => r.1) = some mj.1.cls) (hb : mb_ok mj np = true) (hlen : As.length = np)
    (hw1 : decide (Cond.methodLink mi.1.cls idx mj.1 ∈ lw_tbl) = true) (hw2 : decide (Cond.instanceMethod mj.1 ∈ lw_tbl) = true) (hw3 : decide (Cond.selects mj.1.cls mj.1 mj.1 ∈ lw_tbl) = true) (hrm : Rj.frames + 1 ≤ R.frames ∧ 8 + (mj.2.2.1 + 11) + Rj.locals ≤ R.locals) (hf : k + Rj.cells ≤ R.cells ∧ n + Rj.slots ≤ R.slots) (hs : ln_ rest ≤ 8)
    {st : List Sm} (hst : st = As.reverse ++ .inr (.inr o) :: rest) (K : ∀ r M', pj r M' → VV X mi R post (pc + 3) lv (r.toList ++ rest) M' (k + Rj.cells) (n + Rj.slots)) : VV X mi R post pc lv st M k n := by
  intro p e s m args below meth c H locs ls B hl hh hS
  subst ho
  subst hst
  obtain ⟨m1, m2, m3⟩ := mb_spec hb
  obtain ⟨cell, q1, q2, q3, q4⟩ := (hh.2.2.2.2 a).1 ci hT hci
  obtain ⟨r0, hr0, hr1⟩ : ∃ r0, vwCl[ci]? = some r0 ∧ r0.1 = mj.1.cls := by
    cases hz : vwCl[ci]? with
    | none => rw [hz] at hcl; cases hcl
    | some r0 => rw [hz] at hcl; exact ⟨r0, rfl, Option.some.inj hcl⟩
  have hfc := (B.2.2.2.2.2.2.2.2.1.1 ci r0 hr0).2.1
  refine af_ B hl hS (va_runV (b := a) (C := mj.1.cls) (As := As.map tv_) (rest := rest.map tv_) (nL := mi.2.2.1) (n := np) (Ts := lw_tbg) (own := mi.1.cls) ⟨B.1, B.2.1, B.2.2.2.1, B.2.2.2.2.1, B.2.2.2.2.2.1⟩ C (cwV np B.2.2.2.2.2.1 (lw_goodIn (fun w hw => ?_)) rfl rfl rfl ⟨rfl, m3⟩ hrm) ⟨bl_, ⟨cell, q1, by rw [q3]; rfl, by rw [q2, ← hr1]; exact hfc⟩, fun U hU hW => pc_ B.2.2.2.2.2.2.2.2 hh hS hU hW⟩ rfl (by rw [List.length_map]; exact hlen) hl.1 (by simp [tv_, va_rf]) (rs_room hs) hd hf) K
  unfold wsV at hw
  rcases List.mem_append.mp hw with h | h
  · simp only [List.mem_cons, List.not_mem_nil, or_false] at h
    rcases h with rfl | rfl | rfl | rfl
    · exact tg_ (of_decide_eq_true hw1) rfl
    · exact tg_ (of_decide_eq_true hw2) rfl
    · exact tg_ (of_decide_eq_true hw3) rfl
    · exact m2
  · exact m1 w h
theorem vv_callS (C : CT X mj Rj As M pj) (hd : decode mi.2.1 pc = .ok (.invokestatic idx, 3)) (hb : mb_ok mj np = true) (hlen : As.length = np)
    (hw1 : decide (Cond.methodLink mi.1.cls idx mj.1 ∈ lw_tbl) = true) (hw2 : decide (Cond.static mj.1 ∈ lw_tbl) = true) (hrm : Rj.frames + 1 ≤ R.frames ∧ 8 + (mj.2.2.1 + 11) + Rj.locals ≤ R.locals) (hf : k + Rj.cells ≤ R.cells ∧ n + Rj.slots ≤ R.slots) (hs : ln_ rest ≤ 8)
    {st : List Sm} (hst : st = As.reverse ++ rest) (K : ∀ r M', pj r M' → VV X mi R post (pc + 3) lv (r.toList ++ rest) M' (k + Rj.cells) (n + Rj.slots)) : VV X mi R post pc lv st M k n := by
  intro p e s m args below meth c H locs ls B hl hh hS
  subst hst
  obtain ⟨m1, m2, m3⟩ := mb_spec hb
  refine af_ B hl hS (va_runS (As := As.map tv_) (rest := rest.map tv_) (nL := mi.2.2.1) (n := np) (Ts := lw_tbg) (own := mi.1.cls) ⟨B.1, B.2.1, B.2.2.2.1, B.2.2.2.2.1, B.2.2.2.2.2.1⟩ C (va_cwS np B.2.2.2.2.2.1 (lw_goodIn (fun w hw => ?_)) rfl rfl rfl m3 hrm) ⟨bl_, fun U hU hW => pc_ B.2.2.2.2.2.2.2.2 hh hS hU hW⟩ rfl (by rw [List.length_map]; exact hlen) hl.1 (by simp) (rs_room hs) hd hf) K
  unfold va_wsS at hw
  rcases List.mem_append.mp hw with h | h
  · simp only [List.mem_cons, List.not_mem_nil, or_false] at h
    rcases h with rfl | rfl | rfl
    · exact tg_ (of_decide_eq_true hw1) rfl
    · exact tg_ (of_decide_eq_true hw2) rfl
    · exact m2
  · exact m1 w h
theorem vv_callI {o : Option Nat} {a : Nat} (C : CT X mj Rj (.inr (.inr (some a)) :: As) M pj) (hd : decode mi.2.1 pc = .ok (.invokespecial idx, 3)) (ho : o = some a) (hret : mj.2.2.2 = none) (hnm : mj.1.name = "<init>") (hb : mb_ok mj np = true) (hlen : As.length = np)
    (hw1 : decide (Cond.methodLink mi.1.cls idx mj.1 ∈ lw_tbl) = true) (hw2 : decide (Cond.instanceMethod mj.1 ∈ lw_tbl) = true) (hrm : Rj.frames + 1 ≤ R.frames ∧ 8 + (mj.2.2.1 + 11) + Rj.locals ≤ R.locals) (hf : k + Rj.cells ≤ R.cells ∧ n + Rj.slots ≤ R.slots) (hs : ln_ rest ≤ 8)
    {st : List Sm} (hst : st = As.reverse ++ .inr (.inr o) :: rest) (K : ∀ r M', pj r M' → VV X mi R post (pc + 3) lv (r.toList ++ rest) M' (k + Rj.cells) (n + Rj.slots)) : VV X mi R post pc lv st M k n := by
  intro p e s m args below meth c H locs ls B hl hh hS
  subst ho
  subst hst
  obtain ⟨m1, m2, m3⟩ := mb_spec hb
  refine af_ B hl hS (va_runI (b := a) (As := As.map tv_) (rest := rest.map tv_) (nL := mi.2.2.1) (n := np) (bytes := mj.2.1) (maxL := mj.2.2.1) (Ts := lw_tbg) (own := mi.1.cls) ⟨B.1, B.2.1, B.2.2.2.1, B.2.2.2.2.1, B.2.2.2.2.2.1⟩ C (cwI np B.2.2.2.2.2.1 (lw_goodIn m1) (by unfold wm_; rw [hret]) rfl rfl (B.2.2.2.2.2.1 _ m2) (B.2.2.2.2.2.1 _ (tg_ (of_decide_eq_true hw1) rfl)) (B.2.2.2.2.2.1 _ (tg_ (of_decide_eq_true hw2) rfl)) hnm m3 hrm) ⟨bl_, fun U hU hW => pc_ (av := .inr (.inr (some a)) :: As) B.2.2.2.2.2.2.2.2 hh hS hU hW⟩ rfl (by rw [List.length_map]; exact hlen) hl.1 (by simp [tv_, va_rf]) (rs_room hs) hd hf) K
/-! private methods and constructors of a nest mate -/
theorem vv_callSN {host : String} (C : CT X mj Rj As M pj) (hd : decode mi.2.1 pc = .ok (.invokestatic idx, 3)) (hb : mb_ok mj np = true) (hlen : As.length = np)
    (hw1 : decide (Cond.methodLinkNest mi.1.cls idx mj.1 host ∈ lw_tbl) = true) (hw2 : decide (Cond.static mj.1 ∈ lw_tbl) = true) (hrm : Rj.frames + 1 ≤ R.frames ∧ 8 + (mj.2.2.1 + 11) + Rj.locals ≤ R.locals) (hf : k + Rj.cells ≤ R.cells ∧ n + Rj.slots ≤ R.slots) (hs : ln_ rest ≤ 8)
    {st : List Sm} (hst : st = As.reverse ++ rest) (K : ∀ r M', pj r M' → VV X mi R post (pc + 3) lv (r.toList ++ rest) M' (k + Rj.cells) (n + Rj.slots)) : VV X mi R post pc lv st M k n := by
  intro p e s m args below meth c H locs ls B hl hh hS
  subst hst
  obtain ⟨m1, m2, m3⟩ := mb_spec hb
  exact af_ B hl hS (va_runSN (host := host) (As := As.map tv_) (rest := rest.map tv_) (nL := mi.2.2.1) (n := np) (Ts := lw_tbg) (own := mi.1.cls) ⟨B.1, B.2.1, B.2.2.2.1, B.2.2.2.2.1, B.2.2.2.2.2.1⟩ C ⟨va_cnB np B.2.2.2.2.2.1 (lw_goodIn m1) rfl rfl rfl (B.2.2.2.2.2.2.2.2.2.2.2.1 _ _ _ _ (of_decide_eq_true hw1)) (B.2.2.2.2.2.1 _ m2) m3 hrm, B.2.2.2.2.2.1 _ (tg_ (of_decide_eq_true hw2) rfl), trivial⟩ ⟨bl_, fun U hU hW => pc_ B.2.2.2.2.2.2.2.2 hh hS hU hW⟩ rfl (by rw [List.length_map]; exact hlen) hl.1 (by simp) (rs_room hs) hd hf) K
theorem vv_callIN {host : String} {o : Option Nat} {a : Nat} (C : CT X mj Rj (.inr (.inr (some a)) :: As) M pj) (hd : decode mi.2.1 pc = .ok (.invokespecial idx, 3)) (ho : o = some a) (hret : mj.2.2.2 = none) (hnm : mj.1.name = "<init>") (hb : mb_ok mj np = true) (hlen : As.length = np)
    (hw1 : decide (Cond.methodLinkNest mi.1.cls idx mj.1 host ∈ lw_tbl) = true) (hw2 : decide (Cond.instanceMethod mj.1 ∈ lw_tbl) = true) (hrm : Rj.frames + 1 ≤ R.frames ∧ 8 + (mj.2.2.1 + 11) + Rj.locals ≤ R.locals) (hf : k + Rj.cells ≤ R.cells ∧ n + Rj.slots ≤ R.slots) (hs : ln_ rest ≤ 8)
    {st : List Sm} (hst : st = As.reverse ++ .inr (.inr o) :: rest) (K : ∀ r M', pj r M' → VV X mi R post (pc + 3) lv (r.toList ++ rest) M' (k + Rj.cells) (n + Rj.slots)) : VV X mi R post pc lv st M k n := by
  intro p e s m args below meth c H locs ls B hl hh hS
  subst ho
  subst hst
  obtain ⟨m1, m2, m3⟩ := mb_spec hb
  exact af_ B hl hS (va_runIN (host := host) (b := a) (As := As.map tv_) (rest := rest.map tv_) (nL := mi.2.2.1) (n := np) (bytes := mj.2.1) (maxL := mj.2.2.1) (Ts := lw_tbg) (own := mi.1.cls) ⟨B.1, B.2.1, B.2.2.2.1, B.2.2.2.2.1, B.2.2.2.2.2.1⟩ C ⟨va_cnB np B.2.2.2.2.2.1 (lw_goodIn m1) (by unfold wm_; rw [hret]) rfl rfl (B.2.2.2.2.2.2.2.2.2.2.2.1 _ _ _ _ (of_decide_eq_true hw1)) (B.2.2.2.2.2.1 _ m2) m3 hrm, hnm, B.2.2.2.2.2.1 _ (tg_ (of_decide_eq_true hw2) rfl)⟩ ⟨bl_, fun U hU hW => pc_ (av := .inr (.inr (some a)) :: As) B.2.2.2.2.2.2.2.2 hh hS hU hW⟩ rfl (by rw [List.length_map]; exact hlen) hl.1 (by simp [tv_, va_rf]) (rs_room hs) hd hf) K
theorem vv_objInit {a : Nat} (hd : decode mi.2.1 pc = .ok (.invokespecial idx, 3)) (hw1 : decide (Cond.methodLink mi.1.cls idx objectInit ∈ lw_tbl) = true) (hw2 : decide (Cond.instanceMethod objectInit ∈ lw_tbl) = true) (hw3 : decide (Cond.code objectInit ⟨#[0xb1]⟩ 1 none ∈ lw_tbl) = true) (hr1 : 1 ≤ R.frames) (hr2 : ln_ rest + 12 ≤ R.locals) (hs : ln_ rest ≤ 8)
    (K : VV X mi R post (pc + 3) lv rest M k n) : VV X mi R post pc lv (.inr (.inr (some a)) :: rest) M k n := by
  intro p e s m args below meth c H locs ls B hl hh hS
  have hrr := rs_room (m := m) (pc := pc) (ls := ls) (st := (.inr (.inr (some a)) :: rest : List Sm).map tv_) hs
  refine W.objInit B.1 B.2.1 B.2.2.2.2.1 (B.2.2.2.2.2.1 _ (tg_ (of_decide_eq_true hw1) rfl)) (B.2.2.2.2.2.1 _ (tg_ (of_decide_eq_true hw2) rfl)) (B.2.2.2.2.2.1 _ (tg_ (of_decide_eq_true hw3) rfl)) rfl (by rw [B.2.2.2.1]; exact hl.1) rfl hd hr1 ?_ (K p e s m args below meth c H locs ls B hl hh hS)
  have e2 : ((rest.map tv_).map fun v => v.category).sum = ln_ rest := by
    clear hrr hr2 hs K
    induction rest with
    | nil => rfl
    | cons v vs ih =>
      show (tv_ v).category + (((vs.map tv_).map fun v => v.category).sum) = (if lg2_ v then 2 else 1) + ln_ vs
      rw [ih, tv_cat]
  rw [e2]
  show 2 * 0 + ln_ rest + 12 ≤ R.locals
  omega
/-! the answer, by its kind -/
theorem kI_ {P : Int32 → Mm → Prop} {F : List Sm → Mm → Prop} {rest : List Sm} (K : ∀ v M', P v M' → F (.inl v :: rest) M') : ∀ r M', pI_ P r M' → F (Option.toList r ++ rest) M'
  | some (.inl v), M', h => K v M' h
  | some (.inr (.inl _)), _, h => h.elim
  | some (.inr (.inr _)), _, h => h.elim
  | none, _, h => h.elim
theorem kL_ {P : Int64 → Mm → Prop} {F : List Sm → Mm → Prop} {rest : List Sm} (K : ∀ v M', P v M' → F (.inr (.inl v) :: rest) M') : ∀ r M', pL_ P r M' → F (Option.toList r ++ rest) M'
  | some (.inl _), _, h => h.elim
  | some (.inr (.inl v)), M', h => K v M' h
  | some (.inr (.inr _)), _, h => h.elim
  | none, _, h => h.elim
theorem kR_ {P : Option Nat → Mm → Prop} {F : List Sm → Mm → Prop} {rest : List Sm} (K : ∀ v M', P v M' → F (.inr (.inr v) :: rest) M') : ∀ r M', pR_ P r M' → F (Option.toList r ++ rest) M'
  | some (.inl _), _, h => h.elim
  | some (.inr (.inl _)), _, h => h.elim
  | some (.inr (.inr v)), M', h => K v M' h
  | none, _, h => h.elim
theorem kV_ {P : Mm → Prop} {F : List Sm → Mm → Prop} {rest : List Sm} (K : ∀ M', P M' → F rest M') : ∀ r M', pV_ P r M' → F (Option.toList r ++ rest) M'
  | some _, _, h => h.elim
  | none, M', h => K M' h
end RC
