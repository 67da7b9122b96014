/-! own: those who walk; trust that stays above 0 -/
set_option maxRecDepth 100000
section WK
variable {a b V x k : UInt32} {p : Nat}
/-- the size of a product, from below -/
theorem mul_ge (ha : fin a) (hb : fin b) (pa : pz a) (pb : pz b) (hV : nn V) (h : zv V * 2 ^ 149 ≤ zv a * zv b) : zv V ≤ zv (FP.fmul a b) := by
  have na := (pz_sgn ha.nn).mpr pa
  have nb := (pz_sgn hb.nn).mpr pb
  obtain ⟨s, c, q, ea⟩ := ha
  obtain ⟨t, d, r, eb⟩ := hb
  have fa := FP.Core.val32_fits a
  have fb := FP.Core.val32_fits b
  rw [ea] at fa na
  rw [eb] at fb nb
  have s0 : s = false := na
  have t0 : t = false := nb
  subst s0 t0
  have hq := fa.2.1
  have hr := fb.2.1
  have z : FP.Core.val32 (FP.fmul a b) = FP.Core.round FP.Core.b32 (.fin false (c * d) (q + r)) := by
    have z1 : FP.Core.val32 (FP.fmul a b) = FP.Core.round FP.Core.b32 (FP.Core.exactProduct (FP.Core.val32 a) (FP.Core.val32 b)) := FP.Core.val32_fmul a b
    rw [z1, ea, eb]
    rfl
  have qm : FP.Core.b32.qmin = -149 := by decide
  have za : zv a = (c * 2 ^ (q - -149).toNat : Nat) := by
    unfold zv
    rw [ea]
    show FP.Core.signed false (FP.Core.inUnits c q FP.Core.b32.qmin) = _
    rw [qm]
    rfl
  have zb : zv b = (d * 2 ^ (r - -149).toNat : Nat) := by
    unfold zv
    rw [eb]
    show FP.Core.signed false (FP.Core.inUnits d r FP.Core.b32.qmin) = _
    rw [qm]
    rfl
  show zv V ≤ FP.Core.zval FP.Core.b32 (FP.Core.val32 (FP.fmul a b))
  rw [z]
  refine FP.Core.zval_round_ge FP.Core.good_b32 (e0 := -298) (FP.Core.val32_fits V) hV (by rw [qm]; decide) (by omega) ?_
  rw [qm]
  show zv V * ((2 ^ 149 : Nat) : Int) ≤ ((c * d * 2 ^ (q + r - -298).toNat : Nat) : Int)
  have e : c * d * 2 ^ (q + r - -298).toNat = (c * 2 ^ (q - -149).toNat) * (d * 2 ^ (r - -149).toNat) := by
    have : (q + r - -298).toNat = (q - -149).toNat + (r - -149).toNat := by omega
    rw [this, Nat.pow_add]
    simp only [Nat.mul_assoc, Nat.mul_comm, Nat.mul_left_comm]
  rw [e, Int.natCast_mul, ← za, ← zb]
  exact h
theorem zv_u1 : zv 1 = 1 := by decide +kernel
theorem nn_u1 : nn 1 := nn_lit (by decide)
theorem zv_fk1 (h : nn x) (p : pz x) : 0 < fk x ↔ 0 < zv x := by
  have := zv_lt nn_0 h
  rw [fk_zero, zv_0] at this
  exact this
theorem pz_one (h : nn x) (p : pz x) (e : zv x = 1) : x = 1 := by
  have a := zv_le h nn_u1
  have b := zv_le nn_u1 h
  rw [e, zv_u1] at a b
  have c : fk x = fk 1 := by
    have := a.mpr (Int.le_refl _)
    have := b.mpr (Int.le_refl _)
    omega
  exact fk_inj c (by rw [c]; decide)
theorem zv_09 : zv 1063675494 * 2 ≥ 2 ^ 149 := by decide +kernel
theorem zv_075 : zv 1061158912 * 2 ≥ 2 ^ 149 := by decide +kernel
theorem u1_09 : FP.fmul 1 1063675494 = 1 := by decide +kernel
theorem u1_075 : FP.fmul 1 1061158912 = 1 := by decide +kernel
/-- a product with at least a half stays above 0 -/
theorem mul_pos1 (h : TrOk x) (hk : TrOk k) (h2 : zv k * 2 ≥ 2 ^ 149) (u : FP.fmul 1 k = 1) (hp : 0 < fk x) : 0 < fk (FP.fmul x k) := by
  have tm := h.mul hk
  obtain ⟨fx, px, lx⟩ := h
  obtain ⟨fkk, pk, lk⟩ := hk
  have z := (zv_fk1 fx.nn px).mp hp
  rw [zv_fk1 tm.1.nn tm.2.1]
  by_cases e : zv x = 1
  · rw [pz_one fx.nn px e, u, zv_u1]; decide
  · have l : 2 * zv k ≤ zv x * zv k := Int.mul_le_mul_of_nonneg_right (by omega) (pz_nn0 fkk.nn pk)
    have := mul_ge (V := 1) fx fkk px pk nn_u1 (by rw [zv_u1]; omega)
    rw [zv_u1] at this
    omega
theorem pos_09 (h : TrOk x) (hp : 0 < fk x) : 0 < fk (FP.fmul x 1063675494) := mul_pos1 h tr_09 zv_09 u1_09 hp
theorem pos_075 (h : TrOk x) (hp : 0 < fk x) : 0 < fk (FP.fmul x 1061158912) := mul_pos1 h tr_075 zv_075 u1_075 hp
theorem pos_rise (h : TrOk x) (hp : 0 < fk x) : 0 < fk (FP.fadd x (FP.fmul (FP.fsub 1065353216 x) 1056964608)) := by
  have tr := h.rise
  have hf := h.lacks.mul tr_half
  obtain ⟨fx, px, lx⟩ := h
  have z := (zv_fk1 fx.nn px).mp hp
  rw [zv_fk1 tr.1.nn tr.2.1]
  have b := pz_nn0 hf.1.nn hf.2.1
  have := zv_add_ge (V := x) fx hf.1 fx.nn (by omega)
  omega
/-- a float from 0 to a whole number, cast to int -/
theorem f2i_le (hx : fin x) (px : pz x) (hp : p ≤ 10000) (l : zv x ≤ (p : Int) * 2 ^ 149) : ∃ k, k ≤ p ∧ FP.f2i x = nI k := by
  have nx := (pz_sgn hx.nn).mpr px
  obtain ⟨s, c, q, ex⟩ := hx
  have fx := FP.Core.val32_fits x
  rw [ex] at fx nx
  have s0 : s = false := nx
  subst s0
  have hq := fx.2.1
  have qm : FP.Core.b32.qmin = -149 := by decide
  rw [qm] at hq
  have zx : zv x = (c * 2 ^ (q - -149).toNat : Nat) := by
    unfold zv
    rw [ex]
    show FP.Core.signed false (FP.Core.inUnits c q FP.Core.b32.qmin) = _
    rw [qm]
    rfl
  rw [zx] at l
  have l2 : c * 2 ^ (q - -149).toNat ≤ p * 2 ^ 149 := by
    have h : ((c * 2 ^ (q - -149).toNat : Nat) : Int) ≤ ((p * 2 ^ 149 : Nat) : Int) := by
      rw [Int.natCast_mul p]
      exact l
    exact Int.ofNat_le.mp h
  have le : c * 2 ^ q.toNat / 2 ^ (-q).toNat ≤ p := by
    by_cases q0 : 0 ≤ q
    · have e1 : (-q).toNat = 0 := by omega
      have e2 : (q - -149).toNat = q.toNat + 149 := by omega
      rw [e2, Nat.pow_add, ← Nat.mul_assoc] at l2
      rw [e1, Nat.pow_zero, Nat.div_one]
      exact Nat.le_of_mul_le_mul_right l2 (Nat.two_pow_pos 149)
    · have e1 : q.toNat = 0 := by omega
      have e2 : 149 = (q - -149).toNat + (-q).toNat := by omega
      rw [e1, Nat.pow_zero, Nat.mul_one]
      rw [show p * 2 ^ 149 = p * 2 ^ (-q).toNat * 2 ^ (q - -149).toNat by rw [Nat.mul_assoc, ← Nat.pow_add, Nat.add_comm, ← e2]] at l2
      have := Nat.le_of_mul_le_mul_right l2 (Nat.two_pow_pos _)
      exact Nat.div_le_of_le_mul (by rw [Nat.mul_comm]; exact this)
  refine ⟨c * 2 ^ q.toNat / 2 ^ (-q).toNat, le, ?_⟩
  show Int32.ofInt (FP.Core.toInt (-2 ^ 31) (2 ^ 31 - 1) (FP.Core.val32 x)) = _
  rw [ex]
  show Int32.ofInt (max (-2 ^ 31) (min (2 ^ 31 - 1) (FP.Core.signed false (c * 2 ^ q.toNat / 2 ^ (-q).toNat)))) = _
  generalize c * 2 ^ q.toNat / 2 ^ (-q).toNat = j at le
  have e : max (-2 ^ 31 : Int) (min (2 ^ 31 - 1) (FP.Core.signed false j)) = (j : Int) := by
    show max (-2 ^ 31 : Int) (min (2 ^ 31 - 1) (j : Int)) = (j : Int)
    omega
  rw [e]
  rfl
theorem i2f_zv (hp : p ≤ 10000) : zv (FP.i2f (nI p)) ≤ (p : Int) * 2 ^ 149 ∧ pz (FP.i2f (nI p)) := by
  have ti : (nI p).toInt = (p : Int) := by
    show (nI p).toBitVec.toInt = _
    rw [BitVec.toInt_eq_toNat_bmod, show (nI p).toBitVec.toNat = p % 2 ^ 32 from rfl, Int.bmod_def]
    split <;> omega
  have w := FP.Core.i2f_int (a := nI p) (by rw [ti]; omega)
  rw [ti] at w
  have sg : FP.Core.sgn (FP.Core.val32 (FP.i2f (nI p))) = false := by
    rw [show FP.Core.val32 (FP.i2f (nI p)) = FP.Core.round FP.Core.b32 (FP.Core.ofInt (nI p).toInt) from FP.Core.val32_i2f _, ti]
    show FP.Core.sgn (FP.Core.round FP.Core.b32 (.fin (decide ((p : Int) < 0)) _ 0)) = false
    rw [decide_eq_false (by omega)]
    exact FP.Core.sgn_roundRatio _ _ _ _ _
  refine ⟨?_, (pz_sgn (fin_i2f _).nn).mp sg⟩
  obtain ⟨s, c, q, ex⟩ := fin_i2f (nI p)
  have fx := FP.Core.val32_fits (FP.i2f (nI p))
  unfold FP.Core.FInt at w
  have ex2 : FP.Core.val32 (FP.Core.i2f (nI p)) = .fin s c q := ex
  rw [ex2] at w
  rw [ex] at fx sg
  have s0 : s = false := sg
  subst s0
  have hq := fx.2.1
  have qm : FP.Core.b32.qmin = -149 := by decide
  rw [qm] at hq
  have zx : zv (FP.i2f (nI p)) = (c * 2 ^ (q - -149).toNat : Nat) := by
    unfold zv
    rw [ex]
    show FP.Core.signed false (FP.Core.inUnits c q FP.Core.b32.qmin) = _
    rw [qm]
    rfl
  have w2 : ((c * 2 ^ q.toNat : Nat) : Int) = (p : Int) * ((2 ^ (-q).toNat : Nat) : Int) := w
  have w3 : c * 2 ^ q.toNat = p * 2 ^ (-q).toNat := by
    rw [← Int.natCast_mul] at w2
    exact Int.ofNat_inj.mp w2
  have e : c * 2 ^ (q - -149).toNat = p * 2 ^ 149 := by
    by_cases q0 : 0 ≤ q
    · have e1 : (-q).toNat = 0 := by omega
      have e2 : (q - -149).toNat = q.toNat + 149 := by omega
      rw [e1, Nat.pow_zero, Nat.mul_one] at w3
      rw [e2, Nat.pow_add, ← Nat.mul_assoc, w3]
    · have e1 : q.toNat = 0 := by omega
      have e2 : 149 = (-q).toNat + (q - -149).toNat := by omega
      rw [e1, Nat.pow_zero, Nat.mul_one] at w3
      rw [w3, Nat.mul_assoc, ← Nat.pow_add, ← e2]
  rw [zx, e, Int.natCast_mul]
  exact Int.le_refl _
/-- as many walk as people times trust, and no more than there are -/
theorem walk_ok (hp : p ≤ 10000) (h : TrOk x) : ∃ k, k ≤ p ∧ FP.f2i (FP.fmul (FP.i2f (nI p)) x) = nI k := by
  obtain ⟨fx, px, lx⟩ := h
  obtain ⟨z1, z2⟩ := i2f_zv hp
  have fi := fin_i2f (nI p)
  have a := pz_nn0 fi.nn z2
  obtain ⟨m1, m2⟩ := mul_zv (V := FP.i2f (nI p)) fi fx z2 px fi.nn (Int.mul_le_mul_of_nonneg_left lx a)
  have nm := nn_mul fi fx
  have fk1 : fk (FP.fmul (FP.i2f (nI p)) x) ≤ fk (FP.i2f (nI p)) := (zv_le nm fi.nn).mpr m1
  have := pz_fk m2
  have := (fk_fin fi).2
  exact f2i_le (fin_fk (by omega) (by omega)) m2 hp (by omega)
end WK
