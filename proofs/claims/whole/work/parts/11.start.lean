/-! THE CLAIM OUT OF ONE WALK OF THE LAW'S BODY. Your part is whole_start (and what it stands on); all else here is the same for every law, but numbers. -/
def R_law : String := "DialDeskLaw"
def lw_P (b : Addr) (xs : List Int32) (args : Array Value) (s : State) : Prop := args = #[.ref b] ∧ s.IntsAt b xs ∧ xs.length ≤ 3584 ∧ (Jvm.Cond.and given_1 narrow_1).before args s = true
def lw_Q (_ : Array Value) (s : State) (o : Outcome) (t : State) : Prop := o = .returned (some (.int 1)) ∧ Framed s o t [] room_1.cells room_1.slots
def lw_Z (below : List Frame) (a : Array Value) (s : State) : State → Prop := fun t => ∃ o, t.status = .running ∧ Ended t below o ∧ lw_Q a s o t
/-- the law's own end, with 1 on the stack, nothing written that was there before, its room as the claim has it -/
theorem lw_ret {p : Program} {l : Launch} {e : Env} {s : State} {m : MethodId} {below : List Frame} {meth : Method} {c : Code} {b : Nat} (hx : p.tables.exec = Jvm.exec) (hb : c.code = code) (hr : meth.sig.returnType = ret) (hlocks : meth.locks = false) {pc : Nat} {H : Heap} {ls : Array Slot} (hdg : decode code pc = .ok (.ireturn, 1)) : W p l e room_1 s m #[Value.ref b] below meth c H [] room_1.cells room_1.slots (lw_Z below #[Value.ref b] s) (F0 m pc ls [.int 1]) := by
  intro T hT X
  obtain ⟨fs, hret, hrun, hended, hW, hframe⟩ := X.leave (v := some (.int 1)) (hlocks := hlocks) (fun h => by rw [hr] at h; cases h)
  have hmeth' : T.vm.method? m = some meth := X.method'
  refine ⟨T.setFrames fs, ?_, .returned (some (.int 1)), hrun, hended, rfl, ⟨_, rfl⟩, hW, hframe⟩
  jvm_step X.here [X.here.top, hx, hb, hdg, hmeth', hr, ret, narrow_b1]
  (try refine ⟨rfl, ?_⟩); (try refine ⟨rfl, ?_⟩)
  first | (intro acts; rw [hret _ acts rfl rfl rfl]) | rw [hret _ _ rfl rfl rfl]
  exact Steps.refl _
/-- what holds at the law's entry: the machine, the code, the tables' words (any of lw_tbl by 'hts w (by decide +kernel)'), the script of L ints xs at the cell b, what the Statement gives of the start (any of its parts by flat_of_before) -/
def lw_At (p : Program) (s : State) (m : MethodId) (meth : Method) (c : Code) (b L : Nat) (xs : Nat → Int32) : Prop :=
  p.tables.exec = Jvm.exec ∧ c.code = code ∧ meth.sig.returnType = ret ∧ c.maxLocals = 4 ∧ s.vm.findClass R_law = some m.cls ∧ (∀ w ∈ lw_tbl, w.before #[Value.ref b] s = true) ∧ va_X b L xs s s.heap ∧ b < s.heap.size ∧ meth.locks = false ∧ (Jvm.Cond.and given_1 narrow_1).before #[Value.ref b] s = true

def M0_ (Z : Nat) : Mm := (fun _ => 0, fun _ => 0, fun _ _ => 0, fun _ _ => 0, fun _ _ => none, Z)
theorem it_all : ∀ r ∈ vwCl, decide (Cond.instantiable r.1 r.2.2 ∈ lw_tbl) = true := by decide +kernel
theorem te_in : ∀ j, j < 17 → Cond.eq (Term.elem (.static "DialDesk" "TENS" "[J") (.int (Int32.ofNat j))) (.long (te_ j)) ∈ flatC (Jvm.Cond.and given_1 narrow_1) := by decide +kernel
theorem same_forget {s t : State} {L : List Loc} {k n k' n' : Nat} (h : s.sameButNew t L k n) (hL : ∀ q ∈ L, s.heap.size ≤ q.base) (hk : k ≤ k') (hn : n ≤ n') : s.sameButNew t [] k' n' := by
  obtain ⟨h1, h2, h3, h4, h5, h6⟩ := h
  refine ⟨h1, h2, by omega, h4, by omega, fun a c hc => ?_⟩
  obtain ⟨c', q1, q2, q3, q4⟩ := h6 a c hc
  refine ⟨c', q1, q2, q3, fun i _ => q4 i (fun hin => ?_)⟩
  have h7 := hL _ hin
  have h8 := (Array.getElem?_eq_some_iff.mp hc).1
  have h9 : s.heap.size ≤ a := h7
  omega
set_option maxHeartbeats 4000000 in
set_option maxRecDepth 100000 in
theorem whole_from (hlaw : ∀ (L : Nat) (xs : Nat → Int32) (Z : Nat), L ≤ 3584 → PL_law L xs (M0_ Z) (fun r _ => r = 1)) {p : Program} {e : Env} {s : State} {m : MethodId} {below : List Frame} {meth : Method} {c : Code} (l : Launch) {b L : Nat} {xs : Nat → Int32} (hL : L ≤ 3584) (C0 : lw_At p s m meth c b L xs) : W p l e room_1 s m #[Value.ref b] below meth c s.heap [] 0 0 (lw_Z below #[Value.ref b] s) (entryFrame m ([Value.ref b] : List Value).toArray 4) := by
  obtain ⟨hx, hb, hr, hml, hown, hts, hX, hbl, hlocks, hgv⟩ := id C0
  have htg : ∀ w ∈ lw_tbg, w.before #[Value.ref b] s = true := fun w hw => hts w (List.mem_filter.mp hw).1
  have hKn : ∀ ci : Nat, ∃ q : ClassId × (Nat → Nat), ∀ r : vw_C, vwCl[ci]? = some r → u_Kn s r.1 r.2.1 r.2.2 q.1 q.2 := by
    intro ci
    cases hr : vwCl[ci]? with
    | none => exact ⟨(0, fun _ => 0), fun r h => by cases h⟩
    | some r =>
      obtain ⟨cC, iS, h⟩ := u_known (C := r.1) (T := r.2.1) (N := r.2.2) (n := r.2.2) htg (cl_in hr) (hts _ (of_decide_eq_true (it_all r (List.mem_of_getElem? hr))))
      exact ⟨(cC, iS), fun r' h' => by cases h'; exact h⟩
  have hAc : ∀ t, ∃ cA : ClassId, (t = 20 → ArrOfT s cA .int ∧ va_RA s cA .int) ∧ (t = 21 → ArrOfT s cA .long ∧ va_RA s cA .long) ∧ (t = 22 → ArrOfT s cA .boolean ∧ va_RA s cA .boolean) ∧ (t = 23 → ArrOfT s cA (.object "DialDesk$Call") ∧ va_RA s cA (.object "DialDesk$Call")) ∧ (t = 24 → ArrOfT s cA (.object "DialDesk$Demand") ∧ va_RA s cA (.object "DialDesk$Demand")) ∧ (t = 25 → ArrOfT s cA (.object "DialDesk$Entry") ∧ va_RA s cA (.object "DialDesk$Entry")) ∧ (t = 26 → ArrOfT s cA (.object "DialDesk$Line") ∧ va_RA s cA (.object "DialDesk$Line")) ∧ (t = 27 → ArrOfT s cA (.object "DialDesk$Option") ∧ va_RA s cA (.object "DialDesk$Option")) := by
    have pr : ∀ ty : FieldType, (∀ C, ty ≠ .object C) → (Cond.arrayClass ty).before #[Value.ref b] s = true → ∃ cA, ArrOfT s cA ty ∧ va_RA s cA ty := by
      intro ty hne h
      obtain ⟨cA, kA, comp, f1, f2, f3⟩ := Cond.arrayClass_spec h
      refine ⟨cA, fun N z => ⟨(fun k h => by cases h), kA, f2, comp, f3⟩, ?_⟩
      cases ty <;> first | exact f1 | exact absurd rfl (hne _)
    have pq : ∀ C : String, (Cond.arrayOver (.object C)).before #[Value.ref b] s = true → ∃ cA, ArrOfT s cA (.object C) ∧ va_RA s cA (.object C) := by
      intro C h
      obtain ⟨comp, cA, kA, f1, f2, f3, f4, f5⟩ := Cond.arrayOver_spec h
      exact ⟨cA, fun N z => ⟨(fun k h => by cases h), kA, f3, comp, f4⟩, kA, comp, f3, f4, f1, f5⟩
    intro t
    rcases (by omega : t = 20 ∨ t = 21 ∨ t = 22 ∨ t = 23 ∨ t = 24 ∨ t = 25 ∨ t = 26 ∨ t = 27 ∨ (t < 20 ∨ 27 < t)) with rfl | rfl | rfl | rfl | rfl | rfl | rfl | rfl | ht
    · obtain ⟨cA, h⟩ := pr .int (fun C => by intro q; cases q) (hts _ (of_decide_eq_true ac_int))
      exact ⟨cA, fun _ => h, fun q => by omega, fun q => by omega, fun q => by omega, fun q => by omega, fun q => by omega, fun q => by omega, fun q => by omega⟩
    · obtain ⟨cA, h⟩ := pr .long (fun C => by intro q; cases q) (hts _ (of_decide_eq_true ac_long))
      exact ⟨cA, fun q => by omega, fun _ => h, fun q => by omega, fun q => by omega, fun q => by omega, fun q => by omega, fun q => by omega, fun q => by omega⟩
    · obtain ⟨cA, h⟩ := pr .boolean (fun C => by intro q; cases q) (hts _ (of_decide_eq_true ac_boolean))
      exact ⟨cA, fun q => by omega, fun q => by omega, fun _ => h, fun q => by omega, fun q => by omega, fun q => by omega, fun q => by omega, fun q => by omega⟩
    · obtain ⟨cA, h⟩ := pq "DialDesk$Call" (hts _ (of_decide_eq_true ao_23))
      exact ⟨cA, fun q => by omega, fun q => by omega, fun q => by omega, fun _ => h, fun q => by omega, fun q => by omega, fun q => by omega, fun q => by omega⟩
    · obtain ⟨cA, h⟩ := pq "DialDesk$Demand" (hts _ (of_decide_eq_true ao_24))
      exact ⟨cA, fun q => by omega, fun q => by omega, fun q => by omega, fun q => by omega, fun _ => h, fun q => by omega, fun q => by omega, fun q => by omega⟩
    · obtain ⟨cA, h⟩ := pq "DialDesk$Entry" (hts _ (of_decide_eq_true ao_25))
      exact ⟨cA, fun q => by omega, fun q => by omega, fun q => by omega, fun q => by omega, fun q => by omega, fun _ => h, fun q => by omega, fun q => by omega⟩
    · obtain ⟨cA, h⟩ := pq "DialDesk$Line" (hts _ (of_decide_eq_true ao_26))
      exact ⟨cA, fun q => by omega, fun q => by omega, fun q => by omega, fun q => by omega, fun q => by omega, fun q => by omega, fun _ => h, fun q => by omega⟩
    · obtain ⟨cA, h⟩ := pq "DialDesk$Option" (hts _ (of_decide_eq_true ao_27))
      exact ⟨cA, fun q => by omega, fun q => by omega, fun q => by omega, fun q => by omega, fun q => by omega, fun q => by omega, fun q => by omega, fun _ => h⟩
    · exact ⟨0, fun q => by omega, fun q => by omega, fun q => by omega, fun q => by omega, fun q => by omega, fun q => by omega, fun q => by omega, fun q => by omega⟩
  have hfl := flat_of_before _ hgv
  have hAA : ∀ a : Nat, a < s.heap.size → ¬ (fun q : Nat => s.heap.size ≤ q) a := fun a h => Nat.not_le.mpr h
  obtain ⟨t, ht, hT⟩ := va_Tof (A := fun q : Nat => s.heap.size ≤ q) (tm := .static "DialDesk" "TENS" "[J") (ty := .long) (N := 17) (f := fun j => .long (te_ j)) (by decide) (hfl _ (by decide +kernel)) (va_eqt (hfl _ (by decide +kernel))) (fun j hj => va_eqtl (hfl _ (te_in j hj))) hAA
  have hZ := va_Zref (A := fun q : Nat => s.heap.size ≤ q) (hts (.laysStatic "DialDesk" "TENS" "[J") (by decide +kernel)) (hts (.initialized "DialDesk") (by decide +kernel)) ht hAA
  let X : Cx_ := (l, (fun ci => (Classical.choose (hKn ci)).1, fun ci => (Classical.choose (hKn ci)).2), fun t => Classical.choose (hAc t), s.heap.size, t, b, L, xs)
  have hK : K_x X s := by
    refine ⟨⟨fun ci r hr => Classical.choose_spec (hKn ci) r hr, fun k q hk => ?_⟩, hZ, hT, fun a i x h hw => va_Nw.of rfl (hts _ hw), fun C hw => va_AO.of (hts _ hw), hX, hbl⟩
    match k, hk with
    | 0, hk => cases hk; exact (Classical.choose_spec (hAc 20)).1 rfl
    | 1, hk => cases hk; exact (Classical.choose_spec (hAc 21)).2.1 rfl
    | 2, hk => cases hk; exact (Classical.choose_spec (hAc 22)).2.2.1 rfl
    | 3, hk => cases hk; exact (Classical.choose_spec (hAc 23)).2.2.2.1 rfl
    | 4, hk => cases hk; exact (Classical.choose_spec (hAc 24)).2.2.2.2.1 rfl
    | 5, hk => cases hk; exact (Classical.choose_spec (hAc 25)).2.2.2.2.2.1 rfl
    | 6, hk => cases hk; exact (Classical.choose_spec (hAc 26)).2.2.2.2.2.2.1 rfl
    | 7, hk => cases hk; exact (Classical.choose_spec (hAc 27)).2.2.2.2.2.2.2 rfl
    | k + 8, hk => exact absurd hk (by simp [ty_s])
  have hv := vL_law (X := X) (M := M0_ s.heap.size) (post := fun r _ => r = 1) (hlaw L xs s.heap.size hL)
  have hl := lv_entry ([.ref b]) (n := 4) (Nat.le_of_ble_eq_true rfl)
  rw [lg_entry_eq]
  have hp : hp_ X (M0_ s.heap.size) s.heap := ⟨rfl, Nat.le_refl _, fun a h => absurd rfl h, fun a _ => rfl, fun a => ⟨fun ci h => absurd (show 0 = ci + 1 from h) (by omega), fun h => absurd (show 0 = 20 from h) (by decide), fun h => absurd (show 0 = 21 from h) (by decide), fun h => absurd (show 0 = 22 from h) (by decide), fun t ht h => absurd (show 0 = t from h) (by omega)⟩⟩
  have hw := hv p e s m #[Value.ref b] below meth c s.heap [] _ ⟨hx, hb, hr, hml, hown, htg, hlocks, fun q => absurd q (by decide), hK⟩ hl hp va_S.rf
  intro T hT0 Y
  obtain ⟨t2, a1, o, q1, q2, ⟨⟨r, M', q3, q4, -⟩, -⟩, L2, q6, q7⟩ := hw T hT0 Y
  refine ⟨t2, a1, o, q1, q2, ?_, ?_⟩
  · rcases r with _ | r | r | r
    · exact q4.elim
    · have q5 : r = 1 := q4
      rw [q3, q5]
      rfl
    · exact q4.elim
    · exact q4.elim
  · obtain ⟨f1, f2, f3⟩ := q6
    exact ⟨f1, f2, same_forget f3 q7 (Nat.le_refl _) (Nat.le_refl _)⟩
