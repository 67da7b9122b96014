/-! own: the size of a sum of floats -/
set_option maxRecDepth 100000
def zv (a : UInt32) : Int := FP.Core.zval FP.Core.b32 (FP.Core.val32 a)
/-- the float of n times 2^30 -/
def bN (n : Nat) : UInt32 := UInt32.ofNat (if n = 0 then 0 else (157 + Nat.log2 n) * 2 ^ 23 + (n * 2 ^ (23 - Nat.log2 n) - 2 ^ 23))
theorem zv_bN : ∀ n, n < 410 → zv (bN n) = (n : Int) * 2 ^ 179 := by decide +kernel
theorem fk_bN : ∀ n, n < 410 → 0 ≤ fk (bN n) ∧ fk (bN n) < 1400000000 ∧ Nat.ble ((bN n).toNat % 2 ^ 31) 2139095040 = true := by decide +kernel
section ZV
variable {a b V : UInt32} {n : Nat}
theorem zv_key (ha : nn a) (hb : nn b) : compare (fk a) (fk b) = compare (zv a) (zv b) := by
  have h1 : FP.fcmp a b = some (compare (fk a) (fk b)) := FP.Core.fcmp_key ha hb
  have h2 : FP.fcmp a b = some (compare (zv a) (zv b)) := FP.Core.fcmp_zval ha hb
  exact Option.some.inj (h1.symm.trans h2)
theorem zv_lt (ha : nn a) (hb : nn b) : fk a < fk b ↔ zv a < zv b := by
  rw [← FP.Core.compare_lt_iff, zv_key ha hb, FP.Core.compare_lt_iff]
theorem zv_le (ha : nn a) (hb : nn b) : fk a ≤ fk b ↔ zv a ≤ zv b := by
  have := zv_lt hb ha
  omega
theorem zv_0 : zv 0 = 0 := by decide +kernel
theorem zv_pos (ha : nn a) : 0 ≤ fk a ↔ 0 ≤ zv a := by
  have h := zv_le nn_0 ha
  rw [fk_zero, zv_0] at h
  exact h
theorem nn_bN (h : n < 410) : nn (bN n) := nn_lit (fk_bN n h).2.2
theorem zv_fneg : zv (FP.fneg a) = - zv a := by
  have h : FP.Core.val32 (FP.fneg a) = FP.Core.negate (FP.Core.val32 a) := FP.val32_fneg a
  unfold zv
  rw [h, FP.Core.zval_negate]
theorem zv_add_le (ha : fin a) (hb : fin b) (hV : nn V) (h : zv a + zv b ≤ zv V) : zv (FP.fadd a b) ≤ zv V := by
  unfold zv
  rw [FP.Core.val32_fadd]
  exact FP.Core.sum_le FP.Core.good_b32 ha hb (FP.Core.val32_fits a) (FP.Core.val32_fits b) (FP.Core.val32_fits V) hV h
theorem zv_add_ge (ha : fin a) (hb : fin b) (hV : nn V) (h : zv V ≤ zv a + zv b) : zv V ≤ zv (FP.fadd a b) := by
  unfold zv
  rw [FP.Core.val32_fadd]
  exact FP.Core.sum_ge FP.Core.good_b32 ha hb (FP.Core.val32_fits a) (FP.Core.val32_fits b) (FP.Core.val32_fits V) hV h
theorem zv_sub_le (ha : fin a) (hb : fin b) (hV : nn V) (h : zv a - zv b ≤ zv V) : zv (FP.fsub a b) ≤ zv V := by
  rw [fsub_fadd]
  exact zv_add_le ha (fin_fneg hb) hV (by rw [zv_fneg]; omega)
theorem zv_sub_ge (ha : fin a) (hb : fin b) (hV : nn V) (h : zv V ≤ zv a - zv b) : zv V ≤ zv (FP.fsub a b) := by
  rw [fsub_fadd]
  exact zv_add_ge ha (fin_fneg hb) hV (by rw [zv_fneg]; omega)
/-- a float from 0 to n times 2^30 -/
def up (n : Nat) (a : UInt32) : Prop := nn a ∧ 0 ≤ zv a ∧ zv a ≤ (n : Int) * 2 ^ 179
theorem up.fin (h : up n a) (hn : n < 410) : fin a := by
  obtain ⟨h1, h2, h3⟩ := h
  have z := (zv_le h1 (nn_bN hn)).mpr (by rw [zv_bN n hn]; exact h3)
  have p := (zv_pos h1).mpr h2
  have f := (fk_bN n hn).2.1
  exact fin_fk (by omega) (by omega)
theorem up_0 : up n 0 := ⟨nn_0, by rw [zv_0]; exact Int.le_refl 0, by rw [zv_0]; exact Int.mul_nonneg (by omega) (by decide)⟩
theorem up.mono {k : Nat} (h : up n a) (hk : n ≤ k) : up k a := ⟨h.1, h.2.1, by have := h.2.2; have : (n : Int) * 2 ^ 179 ≤ (k : Int) * 2 ^ 179 := Int.mul_le_mul_of_nonneg_right (by omega) (by decide); omega⟩
theorem up_kv (h : kv a) (h0 : 0 ≤ fk a) : up 1 a := by
  have b1 : fk (bN 1) = 1317011456 := by decide +kernel
  have z := (zv_le h.nn (nn_bN (n := 1) (by decide))).mp (by rw [b1]; have := h.2.1; omega)
  rw [zv_bN 1 (by decide)] at z
  exact ⟨h.nn, (zv_pos h.nn).mp h0, z⟩
theorem up_add {k : Nat} (ha : up n a) (hb : up k b) (h : n + k < 410) : up (n + k) (FP.fadd a b) := by
  have fa := ha.fin (by omega)
  have fb := hb.fin (by omega)
  have e : ((n + k : Nat) : Int) * 2 ^ 179 = (n : Int) * 2 ^ 179 + (k : Int) * 2 ^ 179 := by rw [Int.natCast_add, Int.add_mul]
  have l1 : zv a + zv b ≤ zv (bN (n + k)) := by
    rw [zv_bN _ h, e]
    exact Int.add_le_add ha.2.2 hb.2.2
  have l := zv_add_le fa fb (nn_bN h) l1
  rw [zv_bN _ h] at l
  have g := zv_add_ge fa fb nn_0 (by rw [zv_0]; have := ha.2.1; have := hb.2.1; omega)
  rw [zv_0] at g
  exact ⟨nn_add ha.1 fb, g, l⟩
theorem up_sub (ha : up n a) (hn : n < 410) (fb : fin b) (h0 : 0 ≤ zv b) (h : zv b ≤ zv a) : up n (FP.fsub a b) ∧ zv (FP.fsub a b) ≤ zv a := by
  have fa := ha.fin hn
  have l := zv_sub_le fa fb ha.1 (by omega)
  have g := zv_sub_ge fa fb nn_0 (by rw [zv_0]; omega)
  rw [zv_0] at g
  exact ⟨⟨nn_sub ha.1 fb, g, by have := ha.2.2; omega⟩, l⟩
end ZV
