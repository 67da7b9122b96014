/-! own: the size of a product of floats -/
set_option maxRecDepth 100000
section ZM
variable {a b V : UInt32}
theorem mul_zv (ha : fin a) (hb : fin b) (pa : pz a) (pb : pz b) (hV : nn V) (h : zv a * zv b ≤ zv V * 2 ^ 149) : zv (FP.fmul a b) ≤ zv V ∧ pz (FP.fmul a b) := by
  have na := (pz_sgn ha.nn).mpr pa
  have nb := (pz_sgn hb.nn).mpr pb
  have nm := nn_mul ha hb
  obtain ⟨s, c, q, ea⟩ := ha
  obtain ⟨t, d, r, eb⟩ := hb
  have fa := FP.Core.val32_fits a
  have fb := FP.Core.val32_fits b
  rw [ea] at fa na
  rw [eb] at fb nb
  have s0 : s = false := na
  have t0 : t = false := nb
  subst s0 t0
  have hq := fa.2.1
  have hr := fb.2.1
  have z : FP.Core.val32 (FP.fmul a b) = FP.Core.round FP.Core.b32 (.fin false (c * d) (q + r)) := by
    have z1 : FP.Core.val32 (FP.fmul a b) = FP.Core.round FP.Core.b32 (FP.Core.exactProduct (FP.Core.val32 a) (FP.Core.val32 b)) := FP.Core.val32_fmul a b
    rw [z1, ea, eb]
    rfl
  have qm : FP.Core.b32.qmin = -149 := by decide
  constructor
  · have za : zv a = (c * 2 ^ (q - -149).toNat : Nat) := by
      unfold zv
      rw [ea]
      show FP.Core.signed false (FP.Core.inUnits c q FP.Core.b32.qmin) = _
      rw [qm]
      rfl
    have zb : zv b = (d * 2 ^ (r - -149).toNat : Nat) := by
      unfold zv
      rw [eb]
      show FP.Core.signed false (FP.Core.inUnits d r FP.Core.b32.qmin) = _
      rw [qm]
      rfl
    show FP.Core.zval FP.Core.b32 (FP.Core.val32 (FP.fmul a b)) ≤ zv V
    rw [z]
    refine FP.Core.zval_round_le FP.Core.good_b32 (e0 := -298) (FP.Core.val32_fits V) hV (by rw [qm]; decide) (by omega) ?_
    rw [qm]
    show ((c * d * 2 ^ (q + r - -298).toNat : Nat) : Int) ≤ zv V * ((2 ^ 149 : Nat) : Int)
    have e : c * d * 2 ^ (q + r - -298).toNat = (c * 2 ^ (q - -149).toNat) * (d * 2 ^ (r - -149).toNat) := by
      have : (q + r - -298).toNat = (q - -149).toNat + (r - -149).toNat := by omega
      rw [this, Nat.pow_add]
      simp only [Nat.mul_assoc, Nat.mul_comm, Nat.mul_left_comm]
    rw [e, Int.natCast_mul, ← za, ← zb]
    exact h
  · refine (pz_sgn nm).mp ?_
    rw [z]
    exact FP.Core.sgn_roundRatio _ _ _ _ _
end ZM
