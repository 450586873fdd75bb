/-! Long.bitCount: by bytes -/
def mk_ (c : Nat) : Nat → Nat
  | 0 => 0
  | k + 1 => 256 * mk_ c k + c
def g1_ (m x : Nat) : Nat := x - (x / 2 &&& m)
def g2_ (m x : Nat) : Nat := (x &&& m) + (x / 4 &&& m)
def g3_ (m x : Nat) : Nat := (x + x / 16) &&& m
def p8_ (z : Nat) : Nat := ct_ (fun f => z.testBit f) 8
theorem an_split (x m : Nat) : x &&& m = 256 * (x / 256 &&& m / 256) + (x % 256 &&& m % 256) := by
  have h1 : (x &&& m) / 2 ^ 8 = x / 2 ^ 8 &&& m / 2 ^ 8 := Nat.and_div_two_pow
  have h2 : (x &&& m) % 2 ^ 8 = (x % 2 ^ 8) &&& (m % 2 ^ 8) := Nat.and_mod_two_pow
  have h3 := Nat.div_add_mod (x &&& m) 256
  have h1 : (x &&& m) / 256 = x / 256 &&& m / 256 := h1
  have h2 : (x &&& m) % 256 = (x % 256) &&& (m % 256) := h2
  rw [h1, h2] at h3
  exact h3.symm
theorem t55 : ∀ p, p < 2 → ∀ z, z < 256 → (p * 128 + z / 2) &&& 85 = z / 2 &&& 85 := by decide +kernel
theorem t33 : ∀ p, p < 4 → ∀ z, z < 256 → (p * 64 + z / 4) &&& 51 = z / 4 &&& 51 := by decide +kernel
theorem t0f : ∀ p, p < 5 → ∀ z, z < 69 → (p * 16 + (z + z / 16)) &&& 15 = (z + z / 16) &&& 15 := by decide +kernel
theorem b12 : ∀ z, z < 256 → g1_ 85 z < 256 ∧ g2_ 51 (g1_ 85 z) < 69 ∧ g2_ 51 (g1_ 85 z) % 16 < 5 ∧ g3_ 15 (g2_ 51 (g1_ 85 z)) = p8_ z := by decide +kernel
theorem b2s : ∀ z, z < 256 → g2_ 51 z < 256 := by decide +kernel
theorem g1_s {m y z : Nat} (hz : z < 256) : g1_ (256 * m + 85) (256 * y + z) = 256 * g1_ m y + g1_ 85 z := by
  unfold g1_
  rw [an_split ((256 * y + z) / 2)]
  have e1 : (256 * y + z) / 2 / 256 = y / 2 := by omega
  have e2 : (256 * y + z) / 2 % 256 = y % 2 * 128 + z / 2 := by omega
  have e3 : (256 * m + 85) / 256 = m := by omega
  have e4 : (256 * m + 85) % 256 = 85 := by omega
  rw [e1, e2, e3, e4, t55 _ (by omega) z hz]
  have h1 : (y / 2 &&& m) ≤ y / 2 := Nat.and_le_left
  have h2 : (z / 2 &&& 85) ≤ z / 2 := Nat.and_le_left
  omega
theorem g2_s {m y z : Nat} (hz : z < 256) : g2_ (256 * m + 51) (256 * y + z) = 256 * g2_ m y + g2_ 51 z := by
  unfold g2_
  rw [an_split (256 * y + z), an_split ((256 * y + z) / 4)]
  have e1 : (256 * y + z) / 4 / 256 = y / 4 := by omega
  have e2 : (256 * y + z) / 4 % 256 = y % 4 * 64 + z / 4 := by omega
  have e3 : (256 * m + 51) / 256 = m := by omega
  have e4 : (256 * m + 51) % 256 = 51 := by omega
  have e5 : (256 * y + z) / 256 = y := by omega
  have e6 : (256 * y + z) % 256 = z := by omega
  rw [e1, e2, e3, e4, e5, e6, t33 _ (by omega) z hz]
  omega
theorem g3_s {m y z : Nat} (hz : z < 69) (hy : y % 16 < 5) : g3_ (256 * m + 15) (256 * y + z) = 256 * g3_ m y + g3_ 15 z := by
  unfold g3_
  rw [an_split (256 * y + z + (256 * y + z) / 16)]
  have e1 : (256 * y + z + (256 * y + z) / 16) / 256 = y + y / 16 := by omega
  have e2 : (256 * y + z + (256 * y + z) / 16) % 256 = y % 16 * 16 + (z + z / 16) := by omega
  have e3 : (256 * m + 15) / 256 = m := by omega
  have e4 : (256 * m + 15) % 256 = 15 := by omega
  rw [e1, e2, e3, e4, t0f _ hy z hz]
def bs_ : Nat → Nat → Nat
  | 0, _ => 0
  | k + 1, x => 256 * bs_ k (x / 256) + p8_ (x % 256)
def ps_ : Nat → Nat → Nat
  | 0, _ => 0
  | k + 1, x => ps_ k (x / 256) + p8_ (x % 256)
theorem g12_s {k x : Nat} : g2_ (mk_ 51 (k + 1)) (g1_ (mk_ 85 (k + 1)) x) = 256 * g2_ (mk_ 51 k) (g1_ (mk_ 85 k) (x / 256)) + g2_ 51 (g1_ 85 (x % 256)) := by
  have ex : x = 256 * (x / 256) + x % 256 := (Nat.div_add_mod x 256).symm
  have hz : x % 256 < 256 := Nat.mod_lt _ (by decide)
  have e1 : g1_ (mk_ 85 (k + 1)) x = 256 * g1_ (mk_ 85 k) (x / 256) + g1_ 85 (x % 256) := by
    have := g1_s (m := mk_ 85 k) (y := x / 256) hz
    rw [← ex] at this
    exact this
  rw [e1]
  exact g2_s (m := mk_ 51 k) (b12 _ hz).1
theorem g12_low : ∀ (k x : Nat), x < 256 ^ k → g2_ (mk_ 51 k) (g1_ (mk_ 85 k) x) % 16 < 5
  | 0, x, h => by
    have : x = 0 := by simp at h; omega
    subst this
    decide
  | k + 1, x, h => by
    rw [g12_s]
    have := (b12 (x % 256) (Nat.mod_lt _ (by decide))).2.2.1
    omega
theorem g123 : ∀ (k x : Nat), x < 256 ^ k → g3_ (mk_ 15 k) (g2_ (mk_ 51 k) (g1_ (mk_ 85 k) x)) = bs_ k x
  | 0, x, h => by
    show (_ + _) &&& 0 = 0
    exact Nat.and_zero _
  | k + 1, x, h => by
    have hx : x / 256 < 256 ^ k := by
      rw [Nat.pow_succ] at h
      exact Nat.div_lt_of_lt_mul (by omega)
    rw [g12_s]
    have hz : x % 256 < 256 := Nat.mod_lt _ (by decide)
    have := g3_s (m := mk_ 15 k) (y := g2_ (mk_ 51 k) (g1_ (mk_ 85 k) (x / 256))) (b12 _ hz).2.1 (g12_low k _ hx)
    show g3_ (256 * mk_ 15 k + 15) _ = _
    rw [this, g123 k _ hx, (b12 _ hz).2.2.2]
    rfl
theorem ct_add {f : Nat → Bool} (n : Nat) : ∀ k, ct_ f (n + k) = ct_ f n + ct_ (fun i => f (n + i)) k
  | 0 => rfl
  | k + 1 => by
    show ct_ f (n + k) + (if f (n + k) then 1 else 0) = ct_ f n + (ct_ (fun i => f (n + i)) k + (if f (n + k) then 1 else 0))
    rw [ct_add n k]
    omega
theorem ps_ct : ∀ (k x : Nat), ps_ k x = ct_ (fun f => x.testBit f) (8 * k)
  | 0, _ => rfl
  | k + 1, x => by
    rw [show 8 * (k + 1) = 8 + 8 * k by omega, ct_add 8 (8 * k)]
    show ps_ k (x / 256) + p8_ (x % 256) = _
    rw [ps_ct k (x / 256)]
    have e1 : ct_ (fun f => x.testBit f) 8 = p8_ (x % 256) := ct_cg (fun i hi => by
      rw [show (256 : Nat) = 2 ^ 8 from rfl, Nat.testBit_mod_two_pow, decide_eq_true hi, Bool.true_and])
    have e2 : ct_ (fun f => (x / 256).testBit f) (8 * k) = ct_ (fun i => x.testBit (8 + i)) (8 * k) := ct_cg (fun i hi => by
      rw [show (256 : Nat) = 2 ^ 8 from rfl, Nat.testBit_div_two_pow, Nat.add_comm])
    rw [e1, e2]
    omega
theorem bs_sum (x : Nat) (n4 n5 n6 : Nat) (h4 : n4 = bs_ 8 x + bs_ 8 x / 256) (h5 : n5 = n4 + n4 / 65536) (h6 : n6 = n5 + n5 / 4294967296) : n6 % 128 = ct_ (fun f => x.testBit f) 64 ∧ bs_ 8 x < 2 ^ 60 := by
  have e := ps_ct 8 x
  rw [show 8 * 8 = 64 from rfl] at e
  rw [← e]
  unfold ps_ bs_ at *
  unfold ps_ bs_ at *
  unfold ps_ bs_ at *
  unfold ps_ bs_ at *
  unfold ps_ bs_ at *
  unfold ps_ bs_ at *
  unfold ps_ bs_ at *
  unfold ps_ bs_ at *
  unfold ps_ bs_ at *
  have q : ∀ z, p8_ z ≤ 8 := fun z => ct_le 8
  have q0 := q (x % 256)
  have q1 := q (x / 256 % 256)
  have q2 := q (x / 256 / 256 % 256)
  have q3 := q (x / 256 / 256 / 256 % 256)
  have q4 := q (x / 256 / 256 / 256 / 256 % 256)
  have q5 := q (x / 256 / 256 / 256 / 256 / 256 % 256)
  have q6 := q (x / 256 / 256 / 256 / 256 / 256 / 256 % 256)
  have q7 := q (x / 256 / 256 / 256 / 256 / 256 / 256 / 256 % 256)
  clear e q
  generalize p8_ (x % 256) = c0 at *
  generalize p8_ (x / 256 % 256) = c1 at *
  generalize p8_ (x / 256 / 256 % 256) = c2 at *
  generalize p8_ (x / 256 / 256 / 256 % 256) = c3 at *
  generalize p8_ (x / 256 / 256 / 256 / 256 % 256) = c4 at *
  generalize p8_ (x / 256 / 256 / 256 / 256 / 256 % 256) = c5 at *
  generalize p8_ (x / 256 / 256 / 256 / 256 / 256 / 256 % 256) = c6 at *
  generalize p8_ (x / 256 / 256 / 256 / 256 / 256 / 256 / 256 % 256) = c7 at *
  have f4 : n4 = (c0 + c1) + 256 * ((c1 + c2) + 256 * ((c2 + c3) + 256 * ((c3 + c4) + 256 * ((c4 + c5) + 256 * ((c5 + c6) + 256 * ((c6 + c7) + 256 * c7)))))) := by omega
  have f5 : n5 = (c0 + c1 + c2 + c3) + 256 * ((c1 + c2 + c3 + c4) + 256 * ((c2 + c3 + c4 + c5) + 256 * ((c3 + c4 + c5 + c6) + 256 * ((c4 + c5 + c6 + c7) + 256 * ((c5 + c6 + c7) + 256 * ((c6 + c7) + 256 * c7)))))) := by omega
  have lt0 : 256 * (256 * (256 * (256 * (256 * (256 * (256 * (256 * 0 + c7) + c6) + c5) + c4) + c3) + c2) + c1) + c0 < 2 ^ 60 := by omega
  refine ⟨?_, lt0⟩
  clear lt0 h4 f4 h5
  have f6 : n5 / 4294967296 = (c4 + c5 + c6 + c7) + 256 * ((c5 + c6 + c7) + 256 * ((c6 + c7) + 256 * c7)) := by omega
  have f7 : n6 = (c0 + c1 + c2 + c3 + c4 + c5 + c6 + c7) + 256 * ((c5 + c6 + c7) + 256 * ((c6 + c7) + 256 * c7) + ((c1 + c2 + c3 + c4) + 256 * ((c2 + c3 + c4 + c5) + 256 * ((c3 + c4 + c5 + c6) + 256 * ((c4 + c5 + c6 + c7) + 256 * ((c5 + c6 + c7) + 256 * ((c6 + c7) + 256 * c7))))))) := by omega
  clear f6 f5 h6
  omega
def tn_ (v : Int64) : Nat := v.toBitVec.toNat
theorem tn_lt (v : Int64) : tn_ v < 2 ^ 64 := v.toBitVec.isLt
theorem tn_and (v w : Int64) : tn_ (v &&& w) = tn_ v &&& tn_ w := by unfold tn_; rw [Int64.toBitVec_and, BitVec.toNat_and]
theorem tn_add {v w : Int64} (h : tn_ v + tn_ w < 2 ^ 64) : tn_ (v + w) = tn_ v + tn_ w := by
  unfold tn_ at *
  rw [Int64.toBitVec_add, BitVec.toNat_add, Nat.mod_eq_of_lt h]
theorem tn_sub {v w : Int64} (h : tn_ w ≤ tn_ v) : tn_ (v - w) = tn_ v - tn_ w := by
  have := tn_lt v
  have := tn_lt w
  unfold tn_ at *
  rw [Int64.toBitVec_sub, BitVec.toNat_sub]
  omega
theorem tn_shr (v s : Int64) (k : Nat) (hs : ((s.toUInt64 &&& Int64.toUInt64 63).toBitVec % 64).toNat = k) : tn_ ((v.toUInt64 >>> (s.toUInt64 &&& Int64.toUInt64 63)).toInt64) = tn_ v / 2 ^ k := by
  have e : (v.toUInt64 >>> (s.toUInt64 &&& Int64.toUInt64 63)).toInt64.toBitVec = v.toBitVec >>> k := by
    rw [← hs]
    exact UInt64.toBitVec_shiftRight _ _
  unfold tn_
  rw [e, BitVec.toNat_ushiftRight, Nat.shiftRight_eq_div_pow]
theorem lb_tn (v : Int64) (j : Nat) : lb_ v j = (tn_ v).testBit j := rfl
theorem sj_bitCountL {v : Int64} {M : Mm} {post : Int32 → Mm → Prop} (h : post (nI (ct_ (lb_ v) 64)) M) : PJ13_bitCount_95d88 v M post := by
  intro v1 e1 v2 e2 v3 e3 v4 e4 v5 e5 v6 e6
  have hx := tn_lt v
  have c5 : tn_ 6148914691236517205 = mk_ 85 8 := by decide
  have c3 : tn_ 3689348814741910323 = mk_ 51 8 := by decide
  have cf : tn_ 1085102592571150095 = mk_ 15 8 := by decide
  have m3 : mk_ 51 8 = 3689348814741910323 := by decide
  have mf : mk_ 15 8 = 1085102592571150095 := by decide
  have n1 : tn_ v1 = g1_ (mk_ 85 8) (tn_ v) := by
    have e : tn_ ((v.toUInt64 >>> ((Int32.toInt64 1).toUInt64 &&& Int64.toUInt64 63)).toInt64 &&& 6148914691236517205) = (tn_ v / 2 &&& mk_ 85 8) := by
      rw [tn_and, tn_shr _ _ 1 (by decide), c5]
    rw [e1, tn_sub, e]
    · rfl
    · rw [e]
      have : (tn_ v / 2 &&& mk_ 85 8) ≤ tn_ v / 2 := Nat.and_le_left
      omega
  have n2 : tn_ v2 = g2_ (mk_ 51 8) (tn_ v1) := by
    have ea : tn_ (v1 &&& 3689348814741910323) = (tn_ v1 &&& mk_ 51 8) := by rw [tn_and, c3]
    have eb : tn_ ((v1.toUInt64 >>> ((Int32.toInt64 2).toUInt64 &&& Int64.toUInt64 63)).toInt64 &&& 3689348814741910323) = (tn_ v1 / 4 &&& mk_ 51 8) := by
      rw [tn_and, tn_shr _ _ 2 (by decide), c3]
    have h1 : (tn_ v1 &&& mk_ 51 8) ≤ mk_ 51 8 := Nat.and_le_right
    have h2 : (tn_ v1 / 4 &&& mk_ 51 8) ≤ mk_ 51 8 := Nat.and_le_right
    rw [e2, tn_add, ea, eb]
    · rfl
    · rw [ea, eb]; omega
  have l2 : tn_ v2 < 2 ^ 63 := by
    rw [n2]
    unfold g2_
    have h1 : (tn_ v1 &&& mk_ 51 8) ≤ mk_ 51 8 := Nat.and_le_right
    have h2 : (tn_ v1 / 4 &&& mk_ 51 8) ≤ mk_ 51 8 := Nat.and_le_right
    omega
  have n3 : tn_ v3 = g3_ (mk_ 15 8) (tn_ v2) := by
    have eb : tn_ ((v2.toUInt64 >>> ((Int32.toInt64 4).toUInt64 &&& Int64.toUInt64 63)).toInt64) = tn_ v2 / 16 := tn_shr _ _ 4 (by decide)
    rw [e3, tn_and, tn_add, eb, cf]
    · rfl
    · rw [eb]; omega
  have e256 : (256 : Nat) ^ 8 = 2 ^ 64 := by decide
  have k3 : tn_ v3 = bs_ 8 (tn_ v) := by rw [n3, n2, n1]; exact g123 8 _ (by rw [e256]; exact hx)
  obtain ⟨-, l3⟩ := bs_sum (tn_ v) _ _ _ rfl rfl rfl
  rw [← k3] at l3
  have n4 : tn_ v4 = tn_ v3 + tn_ v3 / 256 := by
    have eb : tn_ ((v3.toUInt64 >>> ((Int32.toInt64 8).toUInt64 &&& Int64.toUInt64 63)).toInt64) = tn_ v3 / 256 := tn_shr _ _ 8 (by decide)
    rw [e4, tn_add, eb]
    rw [eb]; omega
  have n5 : tn_ v5 = tn_ v4 + tn_ v4 / 65536 := by
    have eb : tn_ ((v4.toUInt64 >>> ((Int32.toInt64 16).toUInt64 &&& Int64.toUInt64 63)).toInt64) = tn_ v4 / 65536 := tn_shr _ _ 16 (by decide)
    rw [e5, tn_add, eb]
    rw [eb]; omega
  have n6 : tn_ v6 = tn_ v5 + tn_ v5 / 4294967296 := by
    have eb : tn_ ((v5.toUInt64 >>> ((Int32.toInt64 32).toUInt64 &&& Int64.toUInt64 63)).toInt64) = tn_ v5 / 4294967296 := tn_shr _ _ 32 (by decide)
    rw [e6, tn_add, eb]
    rw [eb]; omega
  obtain ⟨s6, -⟩ := bs_sum (tn_ v) (tn_ v4) (tn_ v5) (tn_ v6) (by rw [← k3]; exact n4) n5 n6
  have e7 : v6 = lN (tn_ v6) := by
    apply Int64.toBitVec_inj.mp
    show v6.toBitVec = BitVec.ofNat 64 (tn_ v6)
    apply BitVec.eq_of_toNat_eq
    rw [BitVec.toNat_ofNat, Nat.mod_eq_of_lt (tn_lt v6)]
    rfl
  have e8 : Int64.toInt32 v6 &&& 127 = nI (ct_ (lb_ v) 64) := by
    rw [e7, lN_i, ← s6.trans (ct_cg (fun i _ => (lb_tn v i).symm))]
    rw [pk_and _ 7 (by decide)]
    congr 1
    show (BitVec.ofNat 32 (tn_ v6)).toNat % 128 = _
    rw [BitVec.toNat_ofNat]
    omega
  rw [e8]
  exact h
