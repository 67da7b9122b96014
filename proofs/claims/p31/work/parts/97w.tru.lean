/-! own: 1 less a float from a half to 1 is exact -/
set_option maxRecDepth 100000
section ST
variable {x : UInt32}
theorem val_one : FP.Core.val32 1065353216 = .fin false 8388608 (-23) := by decide +kernel
theorem one_sub (hx : fin x) (px : pz x) (h1 : 2 ^ 148 ≤ zv x) (h2 : zv x ≤ 2 ^ 149) : zv (FP.fsub 1065353216 x) = 2 ^ 149 - zv x := by
  have nx := (pz_sgn hx.nn).mpr px
  obtain ⟨s, c, q, ex⟩ := hx
  have fx := FP.Core.val32_fits x
  rw [ex] at fx nx
  have s0 : s = false := nx
  subst s0
  have qm : FP.Core.b32.qmin = -149 := by decide
  have zx : zv x = (c * 2 ^ (q - -149).toNat : Nat) := by
    unfold zv
    rw [ex]
    show FP.Core.signed false (FP.Core.inUnits c q FP.Core.b32.qmin) = _
    rw [qm]
    rfl
  rw [zx] at h1 h2 ⊢
  obtain ⟨hc, hq, _, can⟩ := fx
  have hc2 : c < 16777216 := hc
  rw [qm] at hq can
  have can2 : q = -149 ∨ 8388608 ≤ c := can
  generalize hk : (q - -149).toNat = k at h1 h2
  have h1n : 2 ^ 148 ≤ c * 2 ^ k := by exact_mod_cast h1
  have h2n : c * 2 ^ k ≤ 2 ^ 149 := by exact_mod_cast h2
  have k1 : 125 ≤ k := by
    refine Nat.le_of_not_lt fun n => ?_
    have p : 2 ^ k ≤ 2 ^ 124 := Nat.pow_le_pow_right (by decide) (by omega)
    have : c * 2 ^ k ≤ 16777215 * 2 ^ 124 := Nat.mul_le_mul (by omega) p
    have : 16777215 * 2 ^ 124 < 2 ^ 148 := by decide
    omega
  have c1 : 8388608 ≤ c := by
    rcases can2 with e | e
    · rw [e] at hk
      have : k = 0 := by rw [← hk]; decide
      omega
    · exact e
  have k2 : k ≤ 126 := by
    refine Nat.le_of_not_lt fun n => ?_
    have p : 2 ^ 127 ≤ 2 ^ k := Nat.pow_le_pow_right (by decide) (by omega)
    have : 8388608 * 2 ^ 127 ≤ c * 2 ^ k := Nat.mul_le_mul c1 p
    have : 2 ^ 149 < 8388608 * 2 ^ 127 := by decide
    omega
  have z : FP.Core.val32 (FP.fsub 1065353216 x) = FP.Core.round FP.Core.b32 (FP.Core.exactSum (.fin false 8388608 (-23)) (.fin true c q)) := by
    have z1 : FP.Core.val32 (FP.fsub 1065353216 x) = FP.Core.round FP.Core.b32 (FP.Core.exactSum (FP.Core.val32 1065353216) (FP.Core.negate (FP.Core.val32 x))) := FP.Core.val32_fsub _ x
    rw [z1, val_one, ex]
    rfl
  have main : ∀ (n : Nat) (e : Int), n < 16777216 → -149 ≤ e → e ≤ 0 → FP.Core.exactSum (.fin false 8388608 (-23)) (.fin true c q) = .fin false n e → zv (FP.fsub 1065353216 x) = ((n * 2 ^ (e - -149).toNat : Nat) : Int) := fun n e hn he he2 hs => by
    unfold zv
    rw [z, hs]
    obtain ⟨c', q', r1, r2⟩ := FP.Core.round_exact FP.Core.good_b32 false (c := n) (q := e) hn (by rw [qm]; exact he) (Int.le_trans he2 (by decide))
    rw [r1]
    show FP.Core.signed false (FP.Core.inUnits c' q' FP.Core.b32.qmin) = _
    rw [r2, qm]
    rfl
  have kk : k = 125 ∨ k = 126 := by omega
  rcases kk with e | e
  · have q1 : q = -24 := by omega
    subst q1 e
    rw [main (16777216 - c) (-24) (by omega) (by decide) (by decide) (by
      unfold FP.Core.exactSum FP.Core.sumSign FP.Core.sumUnits FP.Core.inUnits FP.Core.signed
      have u : ((8388608 * 2 ^ ((-23 : Int) - min (-23) (-24)).toNat : Nat) : Int) + -((c * 2 ^ ((-24 : Int) - min (-23) (-24)).toNat : Nat) : Int) = ((16777216 - c : Nat) : Int) := by
        rw [show ((-23 : Int) - min (-23) (-24)).toNat = 1 by decide, show ((-24 : Int) - min (-23) (-24)).toNat = 0 by decide]
        omega
      simp only [if_true, Bool.false_eq_true, if_false]
      rw [u]
      rw [Int.natAbs_natCast]
      congr 1
      · split
        · rfl
        · exact decide_eq_false (by omega))]
    rw [show ((-24 : Int) - -149).toNat = 125 by decide]
    omega
  · have q1 : q = -23 := by omega
    have c2 : c = 8388608 := by
      rw [e] at h2n
      have : (8388608 + 1) * 2 ^ 126 ≤ c * 2 ^ 126 ∨ c = 8388608 := by
        by_cases cc : c = 8388608
        · exact Or.inr cc
        · exact Or.inl (Nat.mul_le_mul_right _ (by omega))
      rcases this with h | h
      · have : 2 ^ 149 < (8388608 + 1) * 2 ^ 126 := by decide
        omega
      · exact h
    subst q1 e c2
    rw [main 0 (-23) (by omega) (by decide) (by decide) (by decide)]
    decide
end ST
