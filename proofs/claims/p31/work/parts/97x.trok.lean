/-! own: trust stays from 0 to 1 -/
set_option maxRecDepth 100000
def TrOk (x : UInt32) : Prop := fin x ∧ pz x ∧ zv x ≤ 2 ^ 149
section TO
variable {x k : UInt32}
theorem zv_one : zv 1065353216 = 2 ^ 149 := by decide +kernel
theorem nn_one : nn 1065353216 := nn_lit (by decide)
theorem fin_one : fin 1065353216 := fin_bits.mpr (by decide)
theorem pz_nn0 (h : nn x) (p : pz x) : 0 ≤ zv x := (zv_pos h).mp (pz_fk p)
theorem TrOk.of (h : nn x) (p : pz x) (l : zv x ≤ 2 ^ 149) : TrOk x := by
  have a := pz_fk p
  have b := (zv_le h nn_one).mpr (by rw [zv_one]; exact l)
  have e : fk 1065353216 = 1065353216 := by decide
  exact ⟨fin_fk (by omega) (by omega), p, l⟩
theorem TrOk.mul (h : TrOk x) (hk : TrOk k) : TrOk (FP.fmul x k) := by
  obtain ⟨fx, px, lx⟩ := h
  obtain ⟨fkk, pk, lk⟩ := hk
  have a := pz_nn0 fx.nn px
  have b := pz_nn0 fkk.nn pk
  have m : zv x * zv k ≤ 2 ^ 149 * 2 ^ 149 := Int.mul_le_mul lx lk b (by decide)
  obtain ⟨m1, m2⟩ := mul_zv (V := 1065353216) fx fkk px pk nn_one (by rw [zv_one]; exact m)
  rw [zv_one] at m1
  exact TrOk.of (nn_mul fx fkk) m2 m1
theorem tr_09 : TrOk 1063675494 := ⟨fin_bits.mpr (by decide), by unfold pz; decide, by decide +kernel⟩
theorem tr_075 : TrOk 1061158912 := ⟨fin_bits.mpr (by decide), by unfold pz; decide, by decide +kernel⟩
theorem zv_half : zv 1056964608 = 2 ^ 148 := by decide +kernel
theorem tr_half : TrOk 1056964608 := ⟨fin_bits.mpr (by decide), by unfold pz; decide, by rw [zv_half]; decide⟩
theorem tr_1 : TrOk 1065353216 := ⟨fin_one, by unfold pz; decide, by rw [zv_one]; exact Int.le_refl _⟩
theorem TrOk.lacks (h : TrOk x) : TrOk (FP.fsub 1065353216 x) := by
  obtain ⟨fx, px, lx⟩ := h
  have a := pz_nn0 fx.nn px
  have l := zv_sub_le fin_one fx nn_one (by rw [zv_one]; omega)
  rw [zv_one] at l
  exact TrOk.of (nn_sub nn_one fx) (sub_pz fin_one fx (by rw [zv_one]; exact lx) tr_1.2.1) l
/-- trust that rises -/
theorem TrOk.rise (h : TrOk x) : TrOk (FP.fadd x (FP.fmul (FP.fsub 1065353216 x) 1056964608)) := by
  have lk := h.lacks
  have hf := lk.mul tr_half
  obtain ⟨fx, px, lx⟩ := h
  have a := pz_nn0 fx.nn px
  have b := pz_nn0 hf.1.nn hf.2.1
  have c := pz_nn0 lk.1.nn lk.2.1
  have le : zv x + zv (FP.fmul (FP.fsub 1065353216 x) 1056964608) ≤ 2 ^ 149 := by
    by_cases hh : 2 ^ 148 ≤ zv x
    · have e := one_sub fx px hh lx
      obtain ⟨m1, _⟩ := mul_zv (V := FP.fsub 1065353216 x) lk.1 tr_half.1 lk.2.1 tr_half.2.1 lk.1.nn (by
        rw [zv_half]
        exact Int.mul_le_mul_of_nonneg_left (by decide) c)
      rw [e] at m1
      omega
    · obtain ⟨m1, _⟩ := mul_zv (V := 1056964608) lk.1 tr_half.1 lk.2.1 tr_half.2.1 tr_half.1.nn (by
        rw [zv_half, Int.mul_comm]
        exact Int.mul_le_mul_of_nonneg_left lk.2.2 (by decide))
      rw [zv_half] at m1
      omega
  have l := zv_add_le fx hf.1 nn_one (by rw [zv_one]; exact le)
  rw [zv_one] at l
  exact TrOk.of (nn_add fx.nn hf.1) (add_pz fx hf.1 (by omega) (Or.inl px)) l
end TO
