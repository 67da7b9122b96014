/-! own: floats doubled and halved are exact -/
set_option maxRecDepth 100000
def uo (m : Nat) : Nat := FP.Core.unitsOf FP.Core.b32 m
def dbl (m : Nat) : Nat := if m < 8388608 then 2 * m else m + 8388608
theorem uo_def (m : Nat) : uo m = if m < 8388608 then m else (8388608 + m % 8388608) * 2 ^ (m / 8388608 - 1) := by
  unfold uo FP.Core.unitsOf
  rw [FP.Core.tails_b32]
theorem uo_dbl (m : Nat) : uo (dbl m) = 2 * uo m := by
  rw [uo_def, uo_def]
  unfold dbl
  by_cases h : m < 8388608
  · rw [if_pos h, if_pos h]
    by_cases h2 : 2 * m < 8388608
    · rw [if_pos h2]
    · rw [if_neg h2, show 2 * m / 8388608 - 1 = 0 by omega]
      omega
  · rw [if_neg h, if_neg h, if_neg (by omega), show (m + 8388608) / 8388608 - 1 = m / 8388608 - 1 + 1 by omega, show (m + 8388608) % 8388608 = m % 8388608 by omega, Nat.pow_succ, ← Nat.mul_assoc, Nat.mul_comm 2]
theorem uo_inj {a b : Nat} (h : uo a = uo b) : a = b := by
  rcases Nat.lt_trichotomy a b with l | l | l
  · have := FP.Core.unitsOf_lt (f := FP.Core.b32) l
    have e : FP.Core.unitsOf FP.Core.b32 a = FP.Core.unitsOf FP.Core.b32 b := h
    omega
  · exact l
  · have := FP.Core.unitsOf_lt (f := FP.Core.b32) l
    have e : FP.Core.unitsOf FP.Core.b32 a = FP.Core.unitsOf FP.Core.b32 b := h
    omega
/-- a finite float that is no negative one -/
theorem pos_val {a : UInt32} (h : a.toNat < 2139095040) : ∃ c q, FP.Core.val32 a = .fin false c q ∧ FP.Core.fits FP.Core.b32 (.fin false c q) ∧ FP.Core.zmag FP.Core.b32 (.fin false c q) = uo a.toNat := by
  have hm : a.toNat % 2 ^ 31 = a.toNat := Nat.mod_eq_of_lt (by omega)
  obtain ⟨s, c, q, e⟩ := (FP.Core.fin_bits32 a).mpr (by rw [hm]; exact h)
  have nn2 : FP.Core.val32 a ≠ .nan := by rw [e]; intro n; cases n
  have sg := FP.Core.sgn_bits32 nn2
  rw [e, decide_eq_false (by omega)] at sg
  have s0 : s = false := sg
  subst s0
  have z := FP.Core.zmag_toNat32 nn2
  rw [e, hm] at z
  have fi := FP.Core.val32_fits a
  rw [e] at fi
  exact ⟨c, q, e, fi, z⟩
theorem pos_of {a : UInt32} {A B : Nat} {e : Int} {m : Nat} (h : FP.Core.val32 a = FP.Core.roundRatio FP.Core.b32 false A B e) (hB : 0 < B) {e0 : Int} (h0 : e0 ≤ FP.Core.b32.qmin) (h0e : e0 ≤ e) (hm : m < 2139095040)
    (hu : FP.Core.inUnits A e e0 = uo m * 2 ^ (FP.Core.b32.qmin - e0).toNat * B) : a.toNat = m := by
  have l1 := FP.Core.mag_le FP.Core.good_b32 (n := a.toNat) h hB h0 h0e (m := m) (Nat.le_of_eq hu)
  have l2 := FP.Core.mag_ge FP.Core.good_b32 (n := a.toNat) h hB h0 h0e (m := m) (by rw [FP.Core.infBits_b32]; omega) (Nat.le_of_eq hu.symm)
  have nn2 : FP.Core.val32 a ≠ .nan := by rw [h]; exact FP.Core.roundRatio_ne_nan _ _ _ _ _
  have sg := FP.Core.sgn_bits32 nn2
  rw [h, FP.Core.sgn_roundRatio] at sg
  have lt : ¬ 2 ^ 31 ≤ a.toNat := of_decide_eq_false sg.symm
  rw [FP.Core.mag_toNat32, Nat.mod_eq_of_lt (by omega)] at l1 l2
  omega
