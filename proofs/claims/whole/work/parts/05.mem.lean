section RM
variable {X : Cx_} {mi : Mi_} {R : Room} {post : Option Sm → Mm → Prop} {pc : Nat} {lv : List (Nat × Sm)} {st : List Sm} {M : Mm} {k n : Nat}
theorem get_core {p : Program} {e : Env} {s : State} {m : MethodId} {args : Array Value} {below : List Frame} {meth : Method} {c : Code} {H : Heap} {locs : List Loc} {ls : Array Slot} {Q : State → Prop} {rest : List Value} {a ci fk kk idx : Nat} {v : Value}
    (B : Bd_ X mi p s m args meth c) (hh : hp_ X M H) (hT : ddT M a = ci + 1) (hci : ci < 12) (hf : fl_ok mi.1.cls idx ci fk kk = true) (hv : kd_ ci fk = kk → fv_ M ci a fk = v) (hd : decode mi.2.1 pc = .ok (.getfield idx, 3))
    (K : W p X.1 e R s m args below meth c H locs k n Q (F0 m (pc + 3) ls (v :: rest))) : W p X.1 e R s m args below meth c H locs k n Q (F0 m pc ls (.ref a :: rest)) := by
  obtain ⟨r, hr, hk, hN, hkd, hlink⟩ := fl_spec hf
  obtain ⟨b1, b2, b3, b4, b5, b6, hlocks, b8, b9⟩ := B
  obtain ⟨cell, q1, q2, q3, q4⟩ := (hh.2.2.2.2 a).1 ci hT hci
  obtain ⟨hSl, hfc, kC, hkC, hkind⟩ := b9.1.1 ci r hr
  obtain ⟨cf, kf, fi, f, hi, hsl⟩ := hSl fk hk
  refine W.getf b1 b2 b5 (b6 _ (tg_ hlink rfl)) hi (u_facts hfc hkC (u_lays b6 (cl_in hr) hk) hi).1 q1 (by rw [q3]; exact fun h => by cases h) (v := v) ?_ rfl rfl hd K
  rw [hsl, q4 fk (by rw [← hN]; exact hk), hv hkd]
theorem vv_getI {o : Option Nat} {a : Nat} (ci fk : Nat) {idx : Nat} (ho : o = some a) (hT : ddT M a = ci + 1) (hf : fl_ok mi.1.cls idx ci fk 0 = true) (hci : ci < 12) (hd : decode mi.2.1 pc = .ok (.getfield idx, 3)) (K : VV X mi R post (pc + 3) lv (.inl (ddI M a fk) :: st) M k n) : VV X mi R post pc lv (.inr (.inr o) :: st) M k n := by
  intro p e s m args below meth c H locs ls B hl hh hS
  subst ho
  exact get_core (v := .int (ddI M a fk)) B hh hT hci hf (fun h => by unfold fv_; rw [if_pos h]) hd (K p e s m args below meth c H locs ls B hl hh hS)
theorem vv_getL {o : Option Nat} {a : Nat} (ci fk : Nat) {idx : Nat} (ho : o = some a) (hT : ddT M a = ci + 1) (hf : fl_ok mi.1.cls idx ci fk 1 = true) (hci : ci < 12) (hd : decode mi.2.1 pc = .ok (.getfield idx, 3)) (K : VV X mi R post (pc + 3) lv (.inr (.inl (ddL M a fk)) :: st) M k n) : VV X mi R post pc lv (.inr (.inr o) :: st) M k n := by
  intro p e s m args below meth c H locs ls B hl hh hS
  subst ho
  exact get_core (v := .long (ddL M a fk)) B hh hT hci hf (fun h => by unfold fv_; rw [if_neg (by omega), if_pos h]) hd (K p e s m args below meth c H locs ls B hl hh hS)
theorem vv_getR {o : Option Nat} {a : Nat} (ci fk : Nat) {idx : Nat} (ho : o = some a) (hT : ddT M a = ci + 1) (hf : fl_ok mi.1.cls idx ci fk 2 = true) (hci : ci < 12) (hd : decode mi.2.1 pc = .ok (.getfield idx, 3)) (K : VV X mi R post (pc + 3) lv (.inr (.inr (ddR M a fk)) :: st) M k n) : VV X mi R post pc lv (.inr (.inr o) :: st) M k n := by
  intro p e s m args below meth c H locs ls B hl hh hS
  subst ho
  exact get_core (v := va_rf (ddR M a fk)) B hh hT hci hf (fun h => by unfold fv_; rw [if_neg (by omega), if_neg (by omega)]) hd (K p e s m args below meth c H locs ls B hl hh hS)
theorem put_core {p : Program} {e : Env} {s : State} {m : MethodId} {args : Array Value} {below : List Frame} {meth : Method} {c : Code} {H : Heap} {locs : List Loc} {ls : Array Slot} {Q : State → Prop} {rest : List Value} {a ci fk idx : Nat} {v : Value} {ty : FieldType} {fin : Bool} {M' : Mm}
    (B : Bd_ X mi p s m args meth c) (hh : hp_ X M H) (hS : va_S (A_x X) s.heap H locs) (hT : ddT M a = ci + 1) (hci : ci < 12) (hq : fq_ok mi.1.cls idx ci fk ty fin = true) (hfin : fin = true → mi.1.name = "<init>") (hn : narrow ty v = v) (hfit : fits ty v = true)
    (eT : ddT M' = ddT M) (eN : ddN M' = ddN M) (eZ : ddZ M' = ddZ M) (eI : ∀ b, b ≠ a → ddI M' b = ddI M b) (eL : ∀ b, b ≠ a → ddL M' b = ddL M b) (eR : ∀ b, b ≠ a → ddR M' b = ddR M b) (hv : ∀ j, updV (fv_ M ci a) fk v j = fv_ M' ci a j)
    (hd : decode mi.2.1 pc = .ok (.putfield idx, 3))
    (K : ∀ (H' : Heap) (locs' : List Loc), hp_ X M' H' → va_S (A_x X) s.heap H' locs' → W p X.1 e R s m args below meth c H' locs' k n Q (F0 m (pc + 3) ls rest)) : W p X.1 e R s m args below meth c H locs k n Q (F0 m pc ls (v :: .ref a :: rest)) := by
  obtain ⟨r, hr, hk, hN, hty, hlink, hfl, hdecl⟩ := fq_spec hq
  obtain ⟨b1, b2, b3, b4, b5, b6, hlocks, b8, b9⟩ := B
  have hap := va_apart (own := mi.1.cls) (D := X.2.1) (ci := ci) b6 (cl_in hr) (fun k => (parseFieldDescriptor (r.2.1 k).2.2.1).getD .int) (cl_ty r (List.mem_of_getElem? hr)) (cl_nm r (List.mem_of_getElem? hr)) b9.1 hr
  obtain ⟨cell, q1, q2, q3, q4⟩ := (hh.2.2.2.2 a).1 ci hT hci
  rw [← hN] at q4
  obtain ⟨hSl, hfc, kC, hkC, hkind⟩ := b9.1.1 ci r hr
  obtain ⟨cf, kf, fi, f, hi, hsl⟩ := hSl fk hk
  have hst := (u_facts hfc hkC (u_lays b6 (cl_in hr) hk) hi).1
  have hlay := b6 _ (cl_in hr _ (u_in_lay hk))
  have hA : A_x X a := hh.2.2.1 a (by omega)
  have fini : ∀ H' : Heap, H'[a]? = some (cell.setSlot f.slot v) → H'.size = H.size → (∀ q, q ≠ a → H'[q]? = H[q]?) → W p X.1 e R s m args below meth c H' (locs ++ [⟨a, f.slot⟩]) k n Q (F0 m (pc + 3) ls rest) := by
    intro H' e1 e2 e3
    rw [hsl] at e1
    refine K H' _ (hp_set (a := a) hh eT eN eZ eI eL eR e2 e3 ?_) (hS.put e2 e3 hA)
    have hne : ddT M' a = ci + 1 := by rw [eT]; exact hT
    refine ⟨fun cj hc hl => ?_, fun h => by omega, fun h => by omega, fun h => by omega, fun t ht h => by omega⟩
    have hcj : cj = ci := by omega
    subst hcj
    rw [← hN]
    exact t_OB.to (V := updV (fv_ M cj a) fk v) ⟨_, e1, q2, q3, t_set q4 hap hk v⟩ (fun j _ => hv j)
  cases fin with
  | false =>
    unfold u_lay at hlay
    rw [if_neg (by rw [hfl]; decide)] at hlay
    have h6 := u_store hfc hkC hkind hlay hi hty hn hfit
    exact W.putK b1 b2 (f := f) ⟨b5, b6 _ (tg_ hlink rfl), ⟨_, _, _, hi⟩, hst⟩ (by rw [q2]; exact h6) q1 q3 (by rw [hsl]; exact k2_hasslot (q4 fk hk)) rfl rfl hd fini
  | true =>
    unfold u_lay at hlay
    rw [if_pos hfl] at hlay
    have hcf : m.cls = cf := by
      obtain ⟨_, _, c', _, _, _, -, -, hf', -, -, -, hown2, -⟩ := Cond.laysFinal_spec hlay
      have e1 : c' = cf := by have := hi.symm.trans hf'; simp at this; exact this.1.symm
      rw [hdecl rfl] at hown2
      rw [← e1]; exact Option.some.inj (b5.symm.trans hown2)
    have h6 := u_fits hfc hkC hkind (Or.inr hlay) hi hty hn hfit
    exact W.putFinK b1 b2 b5 (b6 _ (tg_ hlink rfl)) hi hst hcf (b8 (hfin rfl)) (by rw [q2]; exact h6) q1 q3 (by rw [hsl]; exact k2_hasslot (q4 fk hk)) rfl rfl hd fini
theorem up2_ne {α : Type} {f : Nat → Nat → α} {a k b : Nat} {v : α} (h : b ≠ a) : up2_ f a k v b = f b := by
  funext j
  unfold up2_
  rw [if_neg (fun q => h q.1)]
theorem up2_at {α : Type} {f : Nat → Nat → α} {a k : Nat} {v : α} : up2_ f a k v a = fun j => if j = k then v else f a j := by
  funext j
  unfold up2_
  by_cases h : j = k <;> simp [h]
theorem vv_putI {o : Option Nat} {a : Nat} {v : Int32} (ci fk : Nat) {idx : Nat} {fin : Bool} (ho : o = some a) (hT : ddT M a = ci + 1) (hq : fq_ok mi.1.cls idx ci fk .int fin = true) (hfin : fin = true → mi.1.name = "<init>") (hkd : kd_ ci fk = 0) (hci : ci < 12) (hd : decode mi.2.1 pc = .ok (.putfield idx, 3)) {M' : Mm} (hM : M' = suI M a fk v) (K : VV X mi R post (pc + 3) lv st M' k n) : VV X mi R post pc lv (.inl v :: .inr (.inr o) :: st) M k n := by
  subst hM
  intro p e s m args below meth c H locs ls B hl hh hS
  subst ho
  refine put_core (v := .int v) (M' := suI M a fk v) B hh hS hT hci hq hfin rfl rfl rfl rfl rfl (fun b hb => up2_ne hb) (fun b hb => rfl) (fun b hb => rfl) (fun j => ?_) hd (fun H' locs' hh' hS' => K p e s m args below meth c H' locs' ls B hl hh' hS')
  unfold updV fv_ suI ddI ddL ddR
  dsimp only
  rw [up2_at]
  by_cases h : j = fk
  · subst h
    rw [if_pos rfl, if_pos hkd]
    simp
  · rw [if_neg h]
    simp only [if_neg h]
theorem vv_putZ {o : Option Nat} {a : Nat} {v : Int32} (ci fk : Nat) {idx : Nat} {fin : Bool} (hz : v = 0 ∨ v = 1) (ho : o = some a) (hT : ddT M a = ci + 1) (hq : fq_ok mi.1.cls idx ci fk .boolean fin = true) (hfin : fin = true → mi.1.name = "<init>") (hkd : kd_ ci fk = 0) (hci : ci < 12) (hd : decode mi.2.1 pc = .ok (.putfield idx, 3)) {M' : Mm} (hM : M' = suI M a fk v) (K : VV X mi R post (pc + 3) lv st M' k n) : VV X mi R post pc lv (.inl v :: .inr (.inr o) :: st) M k n := by
  subst hM
  intro p e s m args below meth c H locs ls B hl hh hS
  subst ho
  refine put_core (v := .int v) (M' := suI M a fk v) B hh hS hT hci hq hfin (by rcases hz with rfl | rfl <;> rfl) (by rcases hz with rfl | rfl <;> rfl) rfl rfl rfl (fun b hb => up2_ne hb) (fun b hb => rfl) (fun b hb => rfl) (fun j => ?_) hd (fun H' locs' hh' hS' => K p e s m args below meth c H' locs' ls B hl hh' hS')
  unfold updV fv_ suI ddI ddL ddR
  dsimp only
  rw [up2_at]
  by_cases h : j = fk
  · subst h
    rw [if_pos rfl, if_pos hkd]
    simp
  · rw [if_neg h]
    simp only [if_neg h]
theorem vv_putL {o : Option Nat} {a : Nat} {v : Int64} (ci fk : Nat) {idx : Nat} {fin : Bool} (ho : o = some a) (hT : ddT M a = ci + 1) (hq : fq_ok mi.1.cls idx ci fk .long fin = true) (hfin : fin = true → mi.1.name = "<init>") (hkd : kd_ ci fk = 1) (hci : ci < 12) (hd : decode mi.2.1 pc = .ok (.putfield idx, 3)) {M' : Mm} (hM : M' = suL M a fk v) (K : VV X mi R post (pc + 3) lv st M' k n) : VV X mi R post pc lv (.inr (.inl v) :: .inr (.inr o) :: st) M k n := by
  subst hM
  intro p e s m args below meth c H locs ls B hl hh hS
  subst ho
  refine put_core (v := .long v) (M' := suL M a fk v) B hh hS hT hci hq hfin rfl rfl rfl rfl rfl (fun b hb => rfl) (fun b hb => up2_ne hb) (fun b hb => rfl) (fun j => ?_) hd (fun H' locs' hh' hS' => K p e s m args below meth c H' locs' ls B hl hh' hS')
  unfold updV fv_ suL ddI ddL ddR
  dsimp only
  rw [up2_at]
  by_cases h : j = fk
  · subst h
    rw [if_pos rfl, if_neg (by omega), if_pos hkd]
    simp
  · rw [if_neg h]
    simp only [if_neg h]
theorem vv_putR {o : Option Nat} {a : Nat} {v : Option Nat} (ci fk : Nat) {idx : Nat} {fin : Bool} (ty : FieldType) (hty : ty.isReference = true) (ho : o = some a) (hT : ddT M a = ci + 1) (hq : fq_ok mi.1.cls idx ci fk ty fin = true) (hfin : fin = true → mi.1.name = "<init>") (hkd : kd_ ci fk = 2) (hci : ci < 12) (hd : decode mi.2.1 pc = .ok (.putfield idx, 3)) {M' : Mm} (hM : M' = suR M a fk v) (K : VV X mi R post (pc + 3) lv st M' k n) : VV X mi R post pc lv (.inr (.inr v) :: .inr (.inr o) :: st) M k n := by
  subst hM
  intro p e s m args below meth c H locs ls B hl hh hS
  subst ho
  refine put_core (v := va_rf v) (M' := suR M a fk v) B hh hS hT hci hq hfin (by cases ty <;> cases v <;> first | rfl | (exfalso; revert hty; decide)) (by cases ty <;> cases v <;> first | rfl | (exfalso; revert hty; decide)) rfl rfl rfl (fun b hb => rfl) (fun b hb => rfl) (fun b hb => up2_ne hb) (fun j => ?_) hd (fun H' locs' hh' hS' => K p e s m args below meth c H' locs' ls B hl hh' hS')
  unfold updV fv_ suR ddI ddL ddR
  dsimp only
  rw [up2_at]
  by_cases h : j = fk
  · subst h
    rw [if_pos rfl, if_neg (by omega), if_neg (by omega)]
    simp
  · rw [if_neg h]
    simp only [if_neg h]
/-! arrays -/
theorem ix_lt {i : Int32} {N : Nat} (h : vp_in i N) : i.toNatClampNeg < N := Nat.not_le.mp fun q => h (Or.inr q)
theorem vv_iald {o : Option Nat} {a : Nat} {i : Int32} (ho : o = some a) (hT : ddT M a = 20) (hi : vp_in i (ddN M a)) (hd : decode mi.2.1 pc = .ok (.iaload, 1)) (K : VV X mi R post (pc + 1) lv (.inl (ddI M a i.toNatClampNeg) :: st) M k n) : VV X mi R post pc lv (.inl i :: .inr (.inr o) :: st) M k n := by
  intro p e s m args below meth c H locs ls B hl hh hS
  subst ho
  have hc := (hh.2.2.2.2 a).2.1 hT
  exact W.iald (v := .int (ddI M a i.toNatClampNeg)) B.1 B.2.1 hc ((B.2.2.2.2.2.2.2.2.1.2 0 _ rfl).1 _ _) (fun q => by cases q) (by rw [arrV_size]; exact hi) (arrV_read _ _ (ix_lt hi)) rfl rfl hd (K p e s m args below meth c H locs ls B hl hh hS)
theorem vv_lald {o : Option Nat} {a : Nat} {i : Int32} (ho : o = some a) (hT : ddT M a = 21) (hi : vp_in i (ddN M a)) (hd : decode mi.2.1 pc = .ok (.laload, 1)) (K : VV X mi R post (pc + 1) lv (.inr (.inl (ddL M a i.toNatClampNeg)) :: st) M k n) : VV X mi R post pc lv (.inl i :: .inr (.inr o) :: st) M k n := by
  intro p e s m args below meth c H locs ls B hl hh hS
  subst ho
  have hc := (hh.2.2.2.2 a).2.2.1 hT
  exact W.lald (v := .long (ddL M a i.toNatClampNeg)) B.1 B.2.1 hc ((B.2.2.2.2.2.2.2.2.1.2 1 _ rfl).1 _ _) (fun q => by cases q) (by rw [arrV_size]; exact hi) (arrV_read _ _ (ix_lt hi)) rfl rfl hd (K p e s m args below meth c H locs ls B hl hh hS)
theorem vv_zald {o : Option Nat} {a : Nat} {i : Int32} (ho : o = some a) (hT : ddT M a = 22) (hi : vp_in i (ddN M a)) (hd : decode mi.2.1 pc = .ok (.baload, 1)) (K : VV X mi R post (pc + 1) lv (.inl (ddI M a i.toNatClampNeg) :: st) M k n) : VV X mi R post pc lv (.inl i :: .inr (.inr o) :: st) M k n := by
  intro p e s m args below meth c H locs ls B hl hh hS
  subst ho
  have hc := (hh.2.2.2.2 a).2.2.2.1 hT
  exact W.zald (v := .int (ddI M a i.toNatClampNeg)) B.1 B.2.1 hc ((B.2.2.2.2.2.2.2.2.1.2 2 _ rfl).1 _ _) (fun q => by cases q) (by rw [arrV_size]; exact hi) (arrV_read _ _ (ix_lt hi)) rfl rfl hd (K p e s m args below meth c H locs ls B hl hh hS)
theorem vv_aald {o : Option Nat} {a t : Nat} {cn : String} {i : Int32} (ht : 23 ≤ t) (hty : (ty_s X)[t - 20]? = some (X.2.2.1 t, .object cn)) (ho : o = some a) (hT : ddT M a = t) (hi : vp_in i (ddN M a)) (hd : decode mi.2.1 pc = .ok (.aaload, 1)) (K : VV X mi R post (pc + 1) lv (.inr (.inr (ddR M a i.toNatClampNeg)) :: st) M k n) : VV X mi R post pc lv (.inl i :: .inr (.inr o) :: st) M k n := by
  intro p e s m args below meth c H locs ls B hl hh hS
  subst ho
  have hc := (hh.2.2.2.2 a).2.2.2.2 t ht hT
  exact W.aald (v := va_rf (ddR M a i.toNatClampNeg)) (ty := .object cn) B.1 B.2.1 hc ((B.2.2.2.2.2.2.2.2.1.2 (t - 20) _ hty).1 _ _) rfl (fun q => by cases q) (by rw [arrV_size]; exact hi) (arrV_read _ _ (ix_lt hi)) rfl rfl hd (K p e s m args below meth c H locs ls B hl hh hS)
theorem st_core {H H' : Heap} {a t j : Nat} {f : Nat → Value} {v : Value} {M' : Mm} (hh : hp_ X M H) (h20 : 20 ≤ t) (hT : ddT M a = t) (e1 : H'[a]? = some ((arrV (X.2.2.1 t) (ddN M a) f).setSlot j v)) (e2 : H'.size = H.size) (e3 : ∀ q, q ≠ a → H'[q]? = H[q]?)
    (eT : ddT M' = ddT M) (eN : ddN M' = ddN M) (eZ : ddZ M' = ddZ M) (eI : ∀ b, b ≠ a → ddI M' b = ddI M b) (eL : ∀ b, b ≠ a → ddL M' b = ddL M b) (eR : ∀ b, b ≠ a → ddR M' b = ddR M b)
    (hi : t = 20 ∨ t = 22 → updV f j v = fun x => .int (ddI M' a x)) (hl : t = 21 → updV f j v = fun x => .long (ddL M' a x)) (hr : 23 ≤ t → updV f j v = fun x => va_rf (ddR M' a x)) : hp_ X M' H' := by
  refine hp_set (a := a) hh eT eN eZ eI eL eR e2 e3 ?_
  rw [arrV_store] at e1
  have hT' : ddT M' a = t := by rw [eT]; exact hT
  have hN' : ddN M' a = ddN M a := by rw [eN]
  refine ⟨fun ci hc hl => by omega, fun h => ?_, fun h => ?_, fun h => ?_, fun t' ht' h => ?_⟩
  · have e : t = 20 := by omega
    rw [e1, hN', hi (Or.inl e), e]
  · have e : t = 21 := by omega
    rw [e1, hN', hl e, e]
  · have e : t = 22 := by omega
    rw [e1, hN', hi (Or.inr e), e]
  · have e : t = t' := by omega
    rw [e1, hN', hr (by omega), e]
theorem vv_iast {o : Option Nat} {a : Nat} {i v : Int32} (ho : o = some a) (hT : ddT M a = 20) (hi : vp_in i (ddN M a)) (hd : decode mi.2.1 pc = .ok (.iastore, 1)) {M' : Mm} (hM : M' = suI M a i.toNatClampNeg v) (K : VV X mi R post (pc + 1) lv st M' k n) : VV X mi R post pc lv (.inl v :: .inl i :: .inr (.inr o) :: st) M k n := by
  subst hM
  intro p e s m args below meth c H locs ls B hl hh hS
  subst ho
  have hc := (hh.2.2.2.2 a).2.1 hT
  refine W.iast B.1 B.2.1 hc ((B.2.2.2.2.2.2.2.2.1.2 0 _ rfl).1 _ _) (fun q => by cases q) (by rw [arrV_size]; exact hi) rfl rfl hd fun H' e1 e2 e3 => ?_
  refine K p e s m args below meth c H' _ ls B hl (st_core (M' := suI M a i.toNatClampNeg v) hh (by omega) hT e1 e2 e3 rfl rfl rfl (fun b hb => up2_ne hb) (fun b hb => rfl) (fun b hb => rfl) (fun _ => ?_) (fun h => by omega) (fun h => by omega)) (hS.put e2 e3 (hh.2.2.1 a (by omega)))
  funext x
  unfold updV suI ddI
  dsimp only
  rw [up2_at]
  by_cases h : x = i.toNatClampNeg <;> simp [h]
theorem vv_zast {o : Option Nat} {a : Nat} {i v : Int32} (hz : v = 0 ∨ v = 1) (ho : o = some a) (hT : ddT M a = 22) (hi : vp_in i (ddN M a)) (hd : decode mi.2.1 pc = .ok (.bastore, 1)) {M' : Mm} (hM : M' = suI M a i.toNatClampNeg v) (K : VV X mi R post (pc + 1) lv st M' k n) : VV X mi R post pc lv (.inl v :: .inl i :: .inr (.inr o) :: st) M k n := by
  subst hM
  intro p e s m args below meth c H locs ls B hl hh hS
  subst ho
  have hc := (hh.2.2.2.2 a).2.2.2.1 hT
  refine W.zast B.1 B.2.1 hc ((B.2.2.2.2.2.2.2.2.1.2 2 _ rfl).1 _ _) (fun q => by cases q) (by rw [arrV_size]; exact hi) rfl rfl hd fun H' e1 e2 e3 => ?_
  have e1 : H'[a]? = some ((arrV (X.2.2.1 22) (ddN M a) (fun j => .int (ddI M a j))).setSlot i.toNatClampNeg (.int v)) := by
    rw [e1]
    rcases hz with rfl | rfl <;> rfl
  refine K p e s m args below meth c H' _ ls B hl (st_core (M' := suI M a i.toNatClampNeg v) hh (by omega) hT e1 e2 e3 rfl rfl rfl (fun b hb => up2_ne hb) (fun b hb => rfl) (fun b hb => rfl) (fun _ => ?_) (fun h => by omega) (fun h => by omega)) (hS.put e2 e3 (hh.2.2.1 a (by omega)))
  funext x
  unfold updV suI ddI
  dsimp only
  rw [up2_at]
  by_cases h : x = i.toNatClampNeg <;> simp [h]
theorem vv_last {o : Option Nat} {a : Nat} {i : Int32} {v : Int64} (ho : o = some a) (hT : ddT M a = 21) (hi : vp_in i (ddN M a)) (hd : decode mi.2.1 pc = .ok (.lastore, 1)) {M' : Mm} (hM : M' = suL M a i.toNatClampNeg v) (K : VV X mi R post (pc + 1) lv st M' k n) : VV X mi R post pc lv (.inr (.inl v) :: .inl i :: .inr (.inr o) :: st) M k n := by
  subst hM
  intro p e s m args below meth c H locs ls B hl hh hS
  subst ho
  have hc := (hh.2.2.2.2 a).2.2.1 hT
  refine W.last B.1 B.2.1 hc ((B.2.2.2.2.2.2.2.2.1.2 1 _ rfl).1 _ _) (fun q => by cases q) (by rw [arrV_size]; exact hi) rfl rfl hd fun H' e1 e2 e3 => ?_
  refine K p e s m args below meth c H' _ ls B hl (st_core (M' := suL M a i.toNatClampNeg v) hh (by omega) hT e1 e2 e3 rfl rfl rfl (fun b hb => rfl) (fun b hb => up2_ne hb) (fun b hb => rfl) (fun h => by omega) (fun _ => ?_) (fun h => by omega)) (hS.put e2 e3 (hh.2.2.1 a (by omega)))
  funext x
  unfold updV suL ddL
  dsimp only
  rw [up2_at]
  by_cases h : x = i.toNatClampNeg <;> simp [h]
theorem vv_aastN {o : Option Nat} {a t : Nat} {cn : String} {i : Int32} (ht : 23 ≤ t) (hty : (ty_s X)[t - 20]? = some (X.2.2.1 t, .object cn)) (ho : o = some a) (hT : ddT M a = t) (hi : vp_in i (ddN M a)) (hd : decode mi.2.1 pc = .ok (.aastore, 1)) {M' : Mm} (hM : M' = suR M a i.toNatClampNeg none) (K : VV X mi R post (pc + 1) lv st M' k n) : VV X mi R post pc lv (.inr (.inr none) :: .inl i :: .inr (.inr o) :: st) M k n := by
  subst hM
  intro p e s m args below meth c H locs ls B hl hh hS
  subst ho
  have hc := (hh.2.2.2.2 a).2.2.2.2 t ht hT
  refine va_WaastN (C := cn) B.1 B.2.1 hc ((B.2.2.2.2.2.2.2.2.1.2 (t - 20) _ hty).1 _ _) (fun q => by cases q) (by rw [arrV_size]; exact hi) rfl rfl hd fun H' e1 e2 e3 => ?_
  refine K p e s m args below meth c H' _ ls B hl (st_core (M' := suR M a i.toNatClampNeg none) hh (by omega) hT e1 e2 e3 rfl rfl rfl (fun b hb => rfl) (fun b hb => rfl) (fun b hb => up2_ne hb) (fun h => by omega) (fun h => by omega) (fun _ => ?_)) (hS.put e2 e3 (hh.2.2.1 a (by omega)))
  funext x
  unfold updV suR ddR
  dsimp only
  rw [up2_at]
  by_cases h : x = i.toNatClampNeg <;> simp [h, va_rf]
theorem vv_aast {o w : Option Nat} {a t ci v : Nat} {r : vw_C} {i : Int32} (ht : 23 ≤ t) (hci : ci < 12) (hr : vwCl[ci]? = some r) (hty : (ty_s X)[t - 20]? = some (X.2.2.1 t, .object r.1)) (hw : w = some v) (hTv : ddT M v = ci + 1) (ho : o = some a) (hT : ddT M a = t) (hi : vp_in i (ddN M a)) (hd : decode mi.2.1 pc = .ok (.aastore, 1)) {M' : Mm} (hM : M' = suR M a i.toNatClampNeg w) (K : VV X mi R post (pc + 1) lv st M' k n) : VV X mi R post pc lv (.inr (.inr w) :: .inl i :: .inr (.inr o) :: st) M k n := by
  subst hM
  intro p e s m args below meth c H locs ls B hl hh hS
  subst ho
  subst hw
  have hc := (hh.2.2.2.2 a).2.2.2.2 t ht hT
  obtain ⟨cellV, g1, g2, g3, -⟩ := (hh.2.2.2.2 v).1 ci hTv hci
  have hcls := (B.2.2.2.2.2.2.2.2.1.1 ci r hr).2
  obtain ⟨kA, comp, k1, k2, k3, -⟩ := (B.2.2.2.2.2.2.2.2.1.2 (t - 20) _ hty).2
  have hcomp : comp = X.2.1.1 ci := Option.some.inj (k3.symm.trans hcls.1)
  subst hcomp
  have hcl2 := hcls
  obtain ⟨kC, hkC, -⟩ := hcl2.2
  refine W.aast B.1 B.2.1 hc (fun q h => by cases h) (fun h => by cases h) k1 k2 rfl hkC ⟨fun q => hi (Or.inl q), by rw [arrV_size]; exact ix_lt hi⟩ g1 (fun q h => by rw [g3] at h; cases h) (by rw [g2]; exact hkC) (by rw [g2]; exact va_assign hcls) rfl rfl hd fun H' e1 e2 e3 => ?_
  refine K p e s m args below meth c H' _ ls B hl (st_core (M' := suR M a i.toNatClampNeg (some v)) hh (by omega) hT e1 e2 e3 rfl rfl rfl (fun b hb => rfl) (fun b hb => rfl) (fun b hb => up2_ne hb) (fun h => by omega) (fun h => by omega) (fun _ => ?_)) (hS.put e2 e3 (hh.2.2.1 a (by omega)))
  funext x
  unfold updV suR ddR
  dsimp only
  rw [up2_at]
  by_cases h : x = i.toNatClampNeg <;> simp [h, va_rf]
theorem vv_alen {o : Option Nat} {a t : Nat} {ty : FieldType} (h20 : 20 ≤ t) (h28 : t < 28) (hty : (ty_s X)[t - 20]? = some (X.2.2.1 t, ty)) (ho : o = some a) (hT : ddT M a = t) (hd : decode mi.2.1 pc = .ok (.arraylength, 1)) (K : VV X mi R post (pc + 1) lv (.inl (Int32.ofNat (ddN M a)) :: st) M k n) : VV X mi R post pc lv (.inr (.inr o) :: st) M k n := by
  intro p e s m args below meth c H locs ls B hl hh hS
  subst ho
  have hc : ∃ f, H[a]? = some (arrV (X.2.2.1 t) (ddN M a) f) := by
    rcases (by omega : t = 20 ∨ t = 21 ∨ t = 22 ∨ 23 ≤ t) with rfl | rfl | rfl | h
    · exact ⟨_, (hh.2.2.2.2 a).2.1 hT⟩
    · exact ⟨_, (hh.2.2.2.2 a).2.2.1 hT⟩
    · exact ⟨_, (hh.2.2.2.2 a).2.2.2.1 hT⟩
    · exact ⟨_, (hh.2.2.2.2 a).2.2.2.2 t h hT⟩
  obtain ⟨f, hc⟩ := hc
  exact W.alen (n := Int32.ofNat (ddN M a)) B.1 B.2.1 hc ((B.2.2.2.2.2.2.2.2.1.2 (t - 20) _ hty).1 _ _) (by rw [arrV_size] <;> rfl) rfl rfl hd (K p e s m args below meth c H locs ls B hl hh hS)
/-! the table of tens -/
theorem vv_gets {idx : Nat} (hw : decide (Cond.fieldLink mi.1.cls idx "DialDesk" "TENS" "[J" ∈ lw_tbl) = true) (hd : decode mi.2.1 pc = .ok (.getstatic idx, 3)) (K : VV X mi R post (pc + 3) lv (.inr (.inr (some X.2.2.2.2.1)) :: st) M k n) : VV X mi R post pc lv st M k n := by
  intro p e s m args below meth c H locs ls B hl hh hS
  exact va_gets B.1 B.2.1 B.2.2.2.2.2.2.2.2.2.1 hS B.2.2.2.2.1 (B.2.2.2.2.2.1 _ (tg_ (of_decide_eq_true hw) rfl)) (fun _ h => h) hd (K p e s m args below meth c H locs ls B hl hh hS)
theorem vv_tlen (hd : decode mi.2.1 pc = .ok (.arraylength, 1)) (K : VV X mi R post (pc + 1) lv (.inl 17 :: st) M k n) : VV X mi R post pc lv (.inr (.inr (some X.2.2.2.2.1)) :: st) M k n := by
  intro p e s m args below meth c H locs ls B hl hh hS
  exact va_tlen B.1 B.2.1 B.2.2.2.2.2.2.2.2.2.2.1 hS (v := 17) rfl hd (K p e s m args below meth c H locs ls B hl hh hS)
theorem vv_tld {i : Int32} (hi : vp_in i 17) (hd : decode mi.2.1 pc = .ok (.laload, 1)) (K : VV X mi R post (pc + 1) lv (.inr (.inl (te_ i.toNatClampNeg)) :: st) M k n) : VV X mi R post pc lv (.inl i :: .inr (.inr (some X.2.2.2.2.1)) :: st) M k n := by
  intro p e s m args below meth c H locs ls B hl hh hS
  exact va_tl B.1 B.2.1 B.2.2.2.2.2.2.2.2.2.2.1 hS hi rfl hd (K p e s m args below meth c H locs ls B hl hh hS)
/-! the script -/
theorem vv_slen (hd : decode mi.2.1 pc = .ok (.arraylength, 1)) (K : VV X mi R post (pc + 1) lv (.inl (Int32.ofNat X.2.2.2.2.2.2.1) :: st) M k n) : VV X mi R post pc lv (.inr (.inr (some X.2.2.2.2.2.1)) :: st) M k n := by
  intro p e s m args below meth c H locs ls B hl hh hS
  have hX := B.2.2.2.2.2.2.2.2.2.2.2.2.2.1
  exact va_slen B.1 B.2.1 hX (Array.getElem?_eq_some_iff.mp hX.choose_spec.1).1 (Nat.not_le.mpr B.2.2.2.2.2.2.2.2.2.2.2.2.2.2) hS hd (K p e s m args below meth c H locs ls B hl hh hS)
theorem vv_sld {i : Int32} (hi : vp_in i X.2.2.2.2.2.2.1) (hd : decode mi.2.1 pc = .ok (.iaload, 1)) (K : VV X mi R post (pc + 1) lv (.inl (X.2.2.2.2.2.2.2 i.toNatClampNeg) :: st) M k n) : VV X mi R post pc lv (.inl i :: .inr (.inr (some X.2.2.2.2.2.1)) :: st) M k n := by
  intro p e s m args below meth c H locs ls B hl hh hS
  have hX := B.2.2.2.2.2.2.2.2.2.2.2.2.2.1
  exact va_sld B.1 B.2.1 hX (Array.getElem?_eq_some_iff.mp hX.choose_spec.1).1 (Nat.not_le.mpr B.2.2.2.2.2.2.2.2.2.2.2.2.2.2) hS hi hd (K p e s m args below meth c H locs ls B hl hh hS)
/-! new cells -/
theorem va_S.new_ {A : Nat → Prop} {H0 H H1 : Heap} {locs : List Loc} (hS : va_S A H0 H locs) (z : H1.size = H.size + 1) (o1 : ∀ q, q < H.size → H1[q]? = H[q]?) : va_S A H0 H1 locs :=
  ⟨Nat.le_trans hS.1 (by omega), fun x h1 h2 => (o1 x (Nat.lt_of_lt_of_le h1 hS.1)).trans (hS.2.1 x h1 h2), hS.2.2⟩
theorem su_at (M : Mm) (t len : Nat) : ddT (suN M t len) (ddZ M) = t ∧ ddN (suN M t len) (ddZ M) = len ∧ ddI (suN M t len) (ddZ M) = (fun _ => 0) ∧ ddL (suN M t len) (ddZ M) = (fun _ => 0) ∧ ddR (suN M t len) (ddZ M) = (fun _ => none) := by
  simp [ddT, ddN, ddI, ddL, ddR, suN, up1_]
theorem vv_newa (t N : Nat) (at_ : ArrayType) {z : Int32} (h3 : (t = 20 ∧ at_ = .int) ∨ (t = 21 ∧ at_ = .long) ∨ (t = 22 ∧ at_ = .boolean)) (hw : decide (Cond.arrayClass (newarray.typeOf at_) ∈ lw_tbl) = true) (hz : ¬ z < 0) (hN : z.toNatClampNeg = N) (hb : N * 8 ≤ 536870912) (hk : k + 1 ≤ R.cells) (hn : n + N ≤ R.slots) (hd : decode mi.2.1 pc = .ok (.newarray at_, 2))
    {a' : Nat} (ha : a' = ddZ M) {M' : Mm} (hM : M' = suN M t N) (K : VV X mi R post (pc + 2) lv (.inr (.inr (some a')) :: st) M' (k + 1) (n + N)) : VV X mi R post pc lv (.inl z :: st) M k n := by
  subst ha
  subst hM
  intro p e s m args below meth c H locs ls B hl hh hS
  refine va_newaK B.1 B.2.1 (B.2.2.2.2.2.1 _ (tg_ (of_decide_eq_true hw) rfl)) rfl hd rfl hz hN ?_ hk hn hh.1 fun H1 cA e1 z1 o1 hAr hNm => ?_
  · rcases h3 with ⟨-, rfl⟩ | ⟨-, rfl⟩ | ⟨-, rfl⟩
    · show N * 4 ≤ _
      omega
    · exact hb
    · show N * 1 ≤ _
      omega
  · have o2 : ∀ q, q < H.size → H1[q]? = H[q]? := fun q hq => o1 q (by rw [← hh.1]; exact hq)
    have z2 : H1.size = H.size + 1 := by rw [z1, hh.1]
    obtain ⟨s1, s2, s3, s4, s5⟩ := su_at M t N
    have hcA : cA = X.2.2.1 t := by
      rcases h3 with ⟨rfl, rfl⟩ | ⟨rfl, rfl⟩ | ⟨rfl, rfl⟩
      · exact Option.some.inj (hNm.symm.trans (B.2.2.2.2.2.2.2.2.1.2 0 _ rfl).2)
      · exact Option.some.inj (hNm.symm.trans (B.2.2.2.2.2.2.2.2.1.2 1 _ rfl).2)
      · exact Option.some.inj (hNm.symm.trans (B.2.2.2.2.2.2.2.2.1.2 2 _ rfl).2)
    refine K p e s m args below meth c H1 locs ls B hl (hp_new hh z2 o2 ?_) (hS.new_ z2 o2)
    unfold hpA
    rw [s1, s2, s3, s4, s5]
    rcases h3 with ⟨rfl, rfl⟩ | ⟨rfl, rfl⟩ | ⟨rfl, rfl⟩
    · exact ⟨fun ci hc hl => by omega, fun _ => by rw [e1, hcA]; rfl, fun h => by omega, fun h => by omega, fun t ht h => by omega⟩
    · exact ⟨fun ci hc hl => by omega, fun h => by omega, fun _ => by rw [e1, hcA]; rfl, fun h => by omega, fun t ht h => by omega⟩
    · exact ⟨fun ci hc hl => by omega, fun h => by omega, fun h => by omega, fun _ => by rw [e1, hcA]; rfl, fun t ht h => by omega⟩
theorem vv_anew (t N : Nat) (cn : String) {z : Int32} {idx : Nat} (ht : 23 ≤ t) (hty : (ty_s X)[t - 20]? = some (X.2.2.1 t, .object cn)) (hw : decide (Cond.classLink mi.1.cls idx cn ∈ lw_tbl) = true) (hw2 : decide (Cond.arrayOver (.object cn) ∈ lw_tbl) = true) (hz : ¬ z < 0) (hN : z.toNatClampNeg = N) (hb : N * 4 ≤ 536870912) (hk : k + 1 ≤ R.cells) (hn : n + N ≤ R.slots) (hd : decode mi.2.1 pc = .ok (.anewarray idx, 3))
    {a' : Nat} (ha : a' = ddZ M) {M' : Mm} (hM : M' = suN M t N) (K : VV X mi R post (pc + 3) lv (.inr (.inr (some a')) :: st) M' (k + 1) (n + N)) : VV X mi R post pc lv (.inl z :: st) M k n := by
  subst ha
  subst hM
  intro p e s m args below meth c H locs ls B hl hh hS
  subst hN
  refine W.anew B.1 B.2.1 B.2.2.2.2.1 (B.2.2.2.2.2.1 _ (tg_ (of_decide_eq_true hw) rfl)) (va_AO.use (B.2.2.2.2.2.2.2.2.2.2.2.2.1 cn (of_decide_eq_true hw2))) rfl hd rfl hz hb hk hn fun cA kA comp f1 f2 f3 f4 => ?_
  generalize hH1 : H.push ({ cls := cA, slots := Array.replicate z.toNatClampNeg .null, vm := .none } : Cell) = H1
  have z2 : H1.size = H.size + 1 := by rw [← hH1, Array.size_push]
  have e1 : H1[H.size]? = some (arrV cA z.toNatClampNeg (fun _ => .null)) := by rw [← hH1, Array.getElem?_push_size, ← arrV_new]
  have o2 : ∀ q : Nat, q < H.size → H1[q]? = H[q]? := fun q hq => by rw [← hH1, Array.getElem?_push, if_neg (Nat.ne_of_lt hq)]
  obtain ⟨s1, s2, s3, s4, s5⟩ := su_at M t z.toNatClampNeg
  obtain ⟨kA', comp', -, -, -, k4⟩ := (B.2.2.2.2.2.2.2.2.1.2 (t - 20) _ hty).2
  have hcA : cA = X.2.2.1 t := Option.some.inj (f1.symm.trans k4)
  have hz1 : H.size = ddZ M := hh.1
  have K2 := K p e s m args below meth c H1 locs ls B hl (hp_new hh z2 o2 (by
    unfold hpA
    rw [s1, s2, s3, s4, s5, ← hz1]
    exact ⟨fun ci hc hl => by omega, fun h => by omega, fun h => by omega, fun h => by omega, fun t' ht h => by rw [e1, hcA, h]; rfl⟩)) (hS.new_ z2 o2)
  rw [← hz1] at K2
  exact K2
theorem vv_new (ci : Nat) {idx : Nat} {r : vw_C} (hr : vwCl[ci]? = some r) (hci : ci < 12) (hN : r.2.2 = nf_ ci) (hdf : ∀ j, j < nf_ ci → defaultValue ((parseFieldDescriptor (r.2.1 j).2.2.1).getD .int) = if kd_ ci j = 0 then .int 0 else if kd_ ci j = 1 then .long 0 else .null)
    (hw : decide (Cond.classLink mi.1.cls idx r.1 ∈ lw_tbl) = true) (hw2 : decide (Cond.instantiable r.1 r.2.2 ∈ lw_tbl) = true) (hw3 : decide (Cond.initialized r.1 ∈ lw_tbl) = true) (hk : k + 1 ≤ R.cells) (hn : n + nf_ ci ≤ R.slots) (hd : decode mi.2.1 pc = .ok (.new idx, 3))
    {a' : Nat} (ha : a' = ddZ M) {M' : Mm} (hM : M' = suN M (ci + 1) 0) (K : VV X mi R post (pc + 3) lv (.inr (.inr (some a')) :: st) M' (k + 1) (n + nf_ ci)) : VV X mi R post pc lv st M k n := by
  subst ha
  subst hM
  intro p e s m args below meth c H locs ls B hl hh hS
  have hKn := B.2.2.2.2.2.2.2.2.1.1 ci r hr
  refine W.newcK B.1 B.2.1 B.2.2.2.2.1 (B.2.2.2.2.2.1 _ (tg_ (of_decide_eq_true hw) rfl)) (B.2.2.2.2.2.1 _ (tg_ (of_decide_eq_true hw2) rfl)) (B.2.2.2.2.2.1 _ (tg_ (of_decide_eq_true hw3) rfl)) rfl hd hk (by rw [hN]; exact hn) hKn.2.1 hh.1 fun H1 kC hkC e1 z1 o1 => ?_
  have o2 : ∀ q, q < H.size → H1[q]? = H[q]? := fun q hq => o1 q (by rw [← hh.1]; exact hq)
  have z2 : H1.size = H.size + 1 := by rw [z1, hh.1]
  obtain ⟨s1, s2, s3, s4, s5⟩ := su_at M (ci + 1) 0
  have hb := u_born (fun k => (parseFieldDescriptor (r.2.1 k).2.2.1).getD .int) B.2.2.2.2.2.1 (cl_in hr) hKn hkC e1 (cl_ty r (List.mem_of_getElem? hr))
  have K2 := K p e s m args below meth c H1 locs ls B hl (hp_new hh z2 o2 (by
    unfold hpA
    rw [s1]
    refine ⟨fun cj hc hl => ?_, fun h => by omega, fun h => by omega, fun h => by omega, fun t ht h => by omega⟩
    have e : cj = ci := by omega
    subst e
    rw [hN] at hb
    refine hb.to (fun j hj => ?_)
    rw [hdf j hj]
    unfold fv_
    rw [s3, s4, s5]
    rfl)) (hS.new_ z2 o2)
  rw [hN]
  exact K2
theorem vv_namI {x v : Int32} (hx : x = v) (K : VV X mi R post pc lv (.inl x :: st) M k n) : VV X mi R post pc lv (.inl v :: st) M k n := hx ▸ K
theorem vv_namL {x v : Int64} (hx : x = v) (K : VV X mi R post pc lv (.inr (.inl x) :: st) M k n) : VV X mi R post pc lv (.inr (.inl v) :: st) M k n := hx ▸ K
theorem tgI_ {M' : Mm} {a b j t : Nat} {v : Int32} (e : M' = suI M b j v) (h : ddT M a = t) : ddT M' a = t := by subst e; exact h
theorem tgL_ {M' : Mm} {a b j t : Nat} {v : Int64} (e : M' = suL M b j v) (h : ddT M a = t) : ddT M' a = t := by subst e; exact h
theorem tgR_ {M' : Mm} {a b j t : Nat} {v : Option Nat} (e : M' = suR M b j v) (h : ddT M a = t) : ddT M' a = t := by subst e; exact h
theorem tgN_ {M' : Mm} {a t l : Nat} (e : M' = suN M t l) (ha : a = ddZ M) : ddT M' a = t := by subst e; subst ha; exact (su_at M t l).1
end RM
