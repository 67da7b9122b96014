/-! own: bits of ints and longs -/
set_option maxRecDepth 100000
def ib (x : Int32) (k : Nat) : Bool := x.toBitVec.getLsbD k
def lb (x : Int64) (k : Nat) : Bool := x.toBitVec.getLsbD k
theorem ib_or (x y : Int32) (k : Nat) : ib (x ||| y) k = (ib x k || ib y k) := by unfold ib; rw [Int32.toBitVec_or, BitVec.getLsbD_or]
theorem lb_or (x y : Int64) (k : Nat) : lb (x ||| y) k = (lb x k || lb y k) := by unfold lb; rw [Int64.toBitVec_or, BitVec.getLsbD_or]
theorem ib_and (x y : Int32) (k : Nat) : ib (x &&& y) k = (ib x k && ib y k) := by unfold ib; rw [Int32.toBitVec_and, BitVec.getLsbD_and]
theorem ib_0 (k : Nat) : ib 0 k = false := BitVec.getLsbD_zero
theorem lb_0 (k : Nat) : lb 0 k = false := BitVec.getLsbD_zero
theorem ib_ext {x y : Int32} (h : ∀ i, i < 32 → ib x i = ib y i) : x = y := Int32.toBitVec_inj.mp (BitVec.eq_of_getLsbD_eq (fun i hi => h i hi))
theorem i_cnt : ∀ n, n < 32 → ((nI n &&& 31).toBitVec.smod 32).toNat = n := by decide +kernel
theorem l_cnt : ∀ n, n < 64 → (((nI n).toInt64 &&& 63).toBitVec.smod 64).toNat = n := by decide +kernel
theorem i_and1 (x : Int32) : x &&& 1 = (if ib x 0 then 1 else 0) := by
  apply Int32.toBitVec_inj.mp
  rw [Int32.toBitVec_and]
  have e : x.toBitVec &&& 1#32 = BitVec.setWidth 32 (BitVec.ofBool (x.toBitVec.getLsbD 0)) := BitVec.and_one_eq_setWidth_ofBool_getLsbD
  refine Eq.trans e ?_
  show _ = (if x.toBitVec.getLsbD 0 = true then (1 : Int32) else 0).toBitVec
  cases x.toBitVec.getLsbD 0 <;> rfl
theorem l_and1 (x : Int64) : x &&& 1 = (if lb x 0 then 1 else 0) := by
  apply Int64.toBitVec_inj.mp
  rw [Int64.toBitVec_and]
  have e : x.toBitVec &&& 1#64 = BitVec.setWidth 64 (BitVec.ofBool (x.toBitVec.getLsbD 0)) := BitVec.and_one_eq_setWidth_ofBool_getLsbD
  refine Eq.trans e ?_
  show _ = (if x.toBitVec.getLsbD 0 = true then (1 : Int64) else 0).toBitVec
  cases x.toBitVec.getLsbD 0 <;> rfl
theorem i_shr {x : Int32} {k : Nat} (hk : k < 32) : ib (x >>> (nI k &&& 31)) 0 = ib x k := by
  unfold ib
  rw [Int32.toBitVec_shiftRight]
  show (x.toBitVec.sshiftRight ((nI k &&& 31).toBitVec.smod 32).toNat).getLsbD 0 = _
  rw [i_cnt k hk, BitVec.getLsbD_sshiftRight]
  simp [hk]
theorem l_shr {x : Int64} {k : Nat} (hk : k < 64) : lb (x >>> ((nI k).toInt64 &&& 63)) 0 = lb x k := by
  unfold lb
  rw [Int64.toBitVec_shiftRight]
  show (x.toBitVec.sshiftRight (((nI k).toInt64 &&& 63).toBitVec.smod 64).toNat).getLsbD 0 = _
  rw [l_cnt k hk, BitVec.getLsbD_sshiftRight]
  simp [hk]
theorem i_test {x : Int32} {k : Nat} (hk : k < 32) : (x >>> (nI k &&& 31)) &&& 1 = (if ib x k then 1 else 0) := by rw [i_and1, i_shr hk]
theorem l_test {x : Int64} {k : Nat} (hk : k < 64) : (x >>> ((nI k).toInt64 &&& 63)) &&& 1 = (if lb x k then 1 else 0) := by rw [l_and1, l_shr hk]
theorem lc_0 {x : Int64} {k : Nat} (hk : k < 64) : lg_cmp ((x >>> ((nI k).toInt64 &&& 63)) &&& 1) 0 = 0 ↔ lb x k = false := by
  rw [l_test hk]
  cases lb x k
  · exact ⟨fun _ => rfl, fun _ => by decide⟩
  · exact ⟨fun h => absurd h (by decide), fun h => by cases h⟩
theorem lc_1 {x : Int64} {k : Nat} (hk : k < 64) : lg_cmp ((x >>> ((nI k).toInt64 &&& 63)) &&& 1) 1 = 0 ↔ lb x k = true := by
  rw [l_test hk]
  cases lb x k
  · exact ⟨fun h => absurd h (by decide), fun h => by cases h⟩
  · exact ⟨fun _ => rfl, fun _ => by decide⟩
theorem i_one : ∀ j, j < 32 → ∀ k, k < 32 → ib ((1 : Int32) <<< (nI j &&& 31)) k = decide (k = j) := by decide +kernel
theorem l_one : ∀ j, j < 64 → ∀ k, k < 64 → lb ((1 : Int64) <<< ((nI j).toInt64 &&& 63)) k = decide (k = j) := by decide +kernel
theorem l_oneN {j k : Nat} (hj : j < 60) : lb ((1 : Int64) <<< ((nI j).toInt64 &&& 63)) k = decide (k = j) := by
  by_cases h : k < 64
  · exact l_one j (by omega) k h
  · unfold lb
    rw [BitVec.getLsbD_of_ge _ _ (by omega), decide_eq_false (by omega)]
theorem i_oneN {j k : Nat} (hj : j < 32) : ib ((1 : Int32) <<< (nI j &&& 31)) k = decide (k = j) := by
  by_cases h : k < 32
  · exact i_one j hj k h
  · unfold ib
    rw [BitVec.getLsbD_of_ge _ _ (by omega), decide_eq_false (by omega)]
