/-! own: the bits of a float by arithmetic -/
set_option maxRecDepth 100000
section BX
variable {X : Nat × (Nat × (Nat → Int32))} {I : Nat → Nat → Int32} {L : Nat → Nat → Int64} {F : Nat → Nat → UInt32} {Q : AQ}
theorem qmin32 : FP.Core.b32.qmin = -149 := FP.Core.qmin_b32
theorem mul_pow {a b : UInt32} {j m : Nat} {r : Int} (hb : FP.Core.val32 b = .fin false 8388608 r) (hz : FP.Core.zmag FP.Core.b32 (.fin false 8388608 r) = 2 ^ 149 * 2 ^ j) (ha : a.toNat < 2139095040) (hm : m < 2139095040) (hu : uo m = uo a.toNat * 2 ^ j) : (FP.fmul a b).toNat = m := by
  obtain ⟨c, q, e, fi, z⟩ := pos_val ha
  have fb := FP.Core.val32_fits b
  rw [hb] at fb
  obtain ⟨p1, p2, p3⟩ := FP.Core.product_units fi fb
  have h : FP.Core.val32 (FP.fmul a b) = FP.Core.roundRatio FP.Core.b32 false (c * 8388608) 1 (q + r) := by
    have := FP.Core.val32_fmul a b
    rw [e, hb, p1] at this
    exact this
  rw [qmin32] at p2 p3
  refine pos_of h (by decide) (e0 := 2 * -149) (by rw [qmin32]; decide) p2 hm ?_
  rw [p3, z, hz, hu, qmin32, show ((-149 : Int) - 2 * -149).toNat = 149 from by decide, Nat.mul_one, Nat.mul_assoc, Nat.mul_comm (2 ^ 149)]
theorem mul_2 {a : UInt32} (ha : a.toNat < 2139095040) (hm : dbl a.toNat < 2139095040) : (FP.fmul a 1073741824).toNat = dbl a.toNat :=
  mul_pow (j := 1) (r := -22) (by decide +kernel) (by decide +kernel) ha hm (by rw [uo_dbl, Nat.mul_comm])
def dblN : Nat → Nat → Nat
  | 0, n => n
  | k + 1, n => dbl (dblN k n)
theorem uo_dblN (n : Nat) : ∀ k, uo (dblN k n) = uo n * 2 ^ k
  | 0 => (Nat.mul_one _).symm
  | k + 1 => by
    show uo (dbl (dblN k n)) = _
    rw [uo_dbl, uo_dblN n k, Nat.pow_succ, Nat.mul_left_comm, Nat.mul_comm 2]
theorem dbl_le (n : Nat) : dbl n ≤ n + 8388608 := by unfold dbl; split <;> omega
theorem dblN_le (n : Nat) : ∀ k, dblN k n ≤ n + k * 8388608
  | 0 => by show n ≤ _; omega
  | k + 1 => by
    have a := dblN_le n k
    have b := dbl_le (dblN k n)
    show dbl (dblN k n) ≤ _
    omega
theorem mul_23 {a : UInt32} (ha : a.toNat < 1073741824) : (FP.fmul a 1258291200).toNat = dblN 23 a.toNat :=
  mul_pow (j := 23) (r := 0) (by decide +kernel) (by decide +kernel) (by omega) (by have := dblN_le a.toNat 23; omega) (uo_dblN _ _)
theorem div_2 {a : UInt32} (h1 : 16777216 ≤ a.toNat) (ha : a.toNat < 2139095040) : (FP.fdiv a 1073741824).toNat = a.toNat - 8388608 := by
  obtain ⟨c, q, e, fi, z⟩ := pos_val ha
  have hb : FP.Core.val32 1073741824 = .fin false 8388608 (-22) := by decide +kernel
  have h : FP.Core.val32 (FP.fdiv a 1073741824) = FP.Core.roundRatio FP.Core.b32 false c 8388608 (q - -22) := by
    have := FP.Core.val32_fdiv a 1073741824
    rw [e, hb] at this
    exact this
  have q0 : -149 ≤ q := by have := fi.2.1; rw [qmin32] at this; exact this
  refine pos_of h (by decide) (e0 := -149) (by rw [qmin32]; decide) (by omega) (by omega) ?_
  have z2 : c * 2 ^ (q - -149).toNat = uo a.toNat := by
    have : FP.Core.inUnits c q FP.Core.b32.qmin = uo a.toNat := z
    rw [qmin32] at this
    exact this
  have u : uo a.toNat = 2 * uo (a.toNat - 8388608) := by
    have := uo_dbl (a.toNat - 8388608)
    unfold dbl at this
    rw [if_neg (by omega), show a.toNat - 8388608 + 8388608 = a.toNat by omega] at this
    exact this
  show c * 2 ^ (q - -22 - -149).toNat = _
  rw [show (q - -22 - -149).toNat = (q - -149).toNat + 22 by omega, Nat.pow_add, ← Nat.mul_assoc, z2, u, qmin32, show ((-149 : Int) - -149).toNat = 0 from by decide, Nat.pow_zero, Nat.mul_one]
  omega
theorem toNat_nI {x : UInt32} : UInt32.toInt32 x = nI x.toNat := by
  refine Int32.toBitVec_inj.mp (BitVec.eq_of_toNat_eq ?_)
  show x.toBitVec.toNat = (BitVec.ofNat 32 x.toNat).toNat
  rw [BitVec.toNat_ofNat, Nat.mod_eq_of_lt x.toNat_lt]
  rfl
theorem f2i_K {a : UInt32} {K : Nat} (ha : a.toNat < 1073741824) (hu : uo a.toNat = K * 2 ^ 126) (hK : K < 2 ^ 24) : FP.f2i (FP.fmul a 1258291200) = nI K ∧ nn (FP.fmul a 1258291200) := by
  have m := mul_23 ha
  have le := dblN_le a.toNat 23
  have nx : nn (FP.fmul a 1258291200) := nn_bits.mpr (by rw [m, Nat.mod_eq_of_lt (by omega)]; omega)
  refine ⟨?_, nx⟩
  have pv := pos_val (a := FP.fmul a 1258291200) (by rw [m]; omega)
  obtain ⟨c, q, e, _, z⟩ := pv
  have fv := FP.Core.f2i_val (a := FP.fmul a 1258291200) nx
  rw [e, z, m, uo_dblN, hu] at fv
  have sg : FP.Core.sgn (FP.Core.Datum.fin false c q) = false := rfl
  rw [sg] at fv
  have dv : K * 2 ^ 126 * 2 ^ 23 / FP.Core.one32 = K := by
    have : FP.Core.one32 = 2 ^ 126 * 2 ^ 23 := by decide +kernel
    rw [this, Nat.mul_assoc]
    exact Nat.mul_div_cancel K (by decide)
  rw [dv] at fv
  have s2 : FP.Core.signed false K = (K : Int) := rfl
  rw [s2] at fv
  refine Int32.toInt.inj ?_
  rw [nI_toInt (by omega)]
  refine fv.trans ?_
  omega
/-- what is told at the end: exponent and figures -/
theorem fin_bits2 {y : UInt32} {n0 x : Nat} (hy : y.toNat < 1073741824) (h1 : 1065353216 ≤ y.toNat) (hx : x < 255) (e : x * 8388608 + y.toNat % 8388608 = n0) : (((nI x : Int32) <<< (23 &&& 31 : Int32)) + (FP.f2i (FP.fmul y 1258291200))) - 8388608 = nI n0 ∧ nn (FP.fmul y 1258291200) := by
  have k := f2i_K (K := 8388608 + y.toNat % 8388608) hy (by
    rw [uo_def, if_neg (by omega), show y.toNat / 8388608 - 1 = 126 by omega]) (by omega)
  refine ⟨?_, k.2⟩
  rw [k.1]
  have sh : (nI x : Int32) <<< (23 &&& 31 : Int32) = nI (x * 8388608) := by
    have : (nI x : Int32) <<< (23 &&& 31 : Int32) = nI x * 8388608 := by
      have all : ∀ x, x < 255 → (nI x : Int32) <<< (23 &&& 31 : Int32) = nI x * 8388608 := by decide +kernel
      exact all x hx
    rw [this, show (8388608 : Int32) = nI 8388608 from by decide, nI_mul]
  rw [sh, nI_add, ← e, show x * 8388608 + (8388608 + y.toNat % 8388608) = x * 8388608 + y.toNat % 8388608 + 8388608 by omega, ← nI_add, show (8388608 : Int32) = nI 8388608 from by decide, Int32.add_sub_cancel]
/-- the floats below one -/
theorem sp_b62 {x : UInt32} {sg : Int32} {n0 : Nat} (h0 : n0 < 1065353216) (hp : 0 < n0) (q : Q (.inl (some (.int (sg ||| nI n0)))) (G X I L F)) : ∀ (m k : Nat) (y : UInt32), k + m = 126 → y.toNat = dblN k n0 → (y.toNat < 1073741824) → (k = 0 ∨ dblN (k - 1) n0 < 1065353216) →
    WP mX9_bitsOf 62 [some (.float x), some (.int sg), some (.float y), some (.int (nI (127 - k))), none] [] (G X I L F) 0 0 Q := by
  -- a normal one has grown by one exponent each time
  have nrm : 8388608 ≤ n0 → ∀ k, dblN k n0 = n0 + k * 8388608 := by
    intro h k
    induction k with
    | zero => show n0 = _; omega
    | succ k ih =>
      show dbl (dblN k n0) = _
      rw [ih]
      unfold dbl
      rw [if_neg (by omega)]
      omega
  have sub : n0 < 8388608 → ∀ k, k ≤ 126 → dblN k n0 < 1065353216 := by
    intro h k hk
    have u := uo_dblN n0 k
    have u0 : uo n0 = n0 := by rw [uo_def, if_pos h]
    rw [u0] at u
    have lt : uo (dblN k n0) < uo 1065353216 := by
      rw [u, show uo 1065353216 = 8388608 * 2 ^ 126 from by decide +kernel]
      have p1 : 2 ^ k ≤ 2 ^ 126 := Nat.pow_le_pow_right (by decide) hk
      exact Nat.lt_of_lt_of_le (Nat.mul_lt_mul_of_pos_right h (Nat.two_pow_pos k)) (Nat.mul_le_mul_left _ p1)
    exact FP.Core.unitsOf_lt_iff.mp lt
  have c1 : fk 1065353216 = 1065353216 := by decide
  have n1 : nn 1065353216 := nn_lit (by decide)
  intro m
  induction m with
  | zero =>
    intro k y hk hy hlt hpre
    have k126 : k = 126 := by omega
    subst k126
    have ny : nn y := nn_bits.mpr (by rw [Nat.mod_eq_of_lt (by omega)]; omega)
    have fy : fk y = (y.toNat : Int) := by rw [fk_def, if_neg (by omega)]
    have ge := fc_ge (op := .g) ny n1
    rw [fy, c1] at ge
    by_cases c : 1065353216 ≤ y.toNat
    · have b : 8388608 ≤ n0 := Nat.le_of_not_lt fun n => by have := sub n 126 (by omega); omega
      have e := nrm b 126
      have fb := fin_bits2 (y := y) (x := 1) (n0 := n0) hlt c (by decide) (by omega)
      refine k_X9_bitsOf_62 ⟨fun _ => ⟨nn_vf.mpr fb.2, ?_⟩, fun n => absurd (ge.mpr (by omega)) n⟩
      rw [show nI (127 - 126) = nI 1 from rfl, fb.1]
      exact q
    · have b : n0 < 8388608 := Nat.lt_of_not_le fun n => by have := nrm n 126; omega
      have u := uo_dblN n0 126
      have u0 : uo n0 = n0 := by rw [uo_def, if_pos b]
      have k := f2i_K (a := y) (K := n0) hlt (by rw [hy, u, u0]) (by omega)
      refine k_X9_bitsOf_62 ⟨fun n => absurd (ge.mp n) (by omega), fun _ => ⟨fun _ => ⟨nn_vf.mpr k.2, ?_⟩, fun n => absurd (by decide) n⟩⟩
      rw [k.1]
      exact q
  | succ m ih =>
    intro k y hk hy hlt hpre
    have ny : nn y := nn_bits.mpr (by rw [Nat.mod_eq_of_lt (by omega)]; omega)
    have fy : fk y = (y.toNat : Int) := by rw [fk_def, if_neg (by omega)]
    have ge := fc_ge (op := .g) ny n1
    rw [fy, c1] at ge
    by_cases c : 1065353216 ≤ y.toNat
    · have b : 8388608 ≤ n0 := Nat.le_of_not_lt fun n => by have := sub n k (by omega); omega
      have e := nrm b k
      have fb := fin_bits2 (y := y) (x := 127 - k) (n0 := n0) hlt c (by omega) (by omega)
      refine k_X9_bitsOf_62 ⟨fun _ => ⟨nn_vf.mpr fb.2, ?_⟩, fun n => absurd (ge.mpr (by omega)) n⟩
      rw [fb.1]
      exact q
    · have mm := mul_2 (a := y) (by omega) (by have := dbl_le y.toNat; omega)
      have dle := dbl_le y.toNat
      have nm : nn (FP.fmul y 1073741824) := nn_bits.mpr (by rw [mm, Nat.mod_eq_of_lt (by omega)]; omega)
      refine k_X9_bitsOf_62 ⟨fun n => absurd (ge.mp n) (by omega), fun _ => ⟨fun n => absurd ((nI_leI (a := 127 - k) (b := 1) (by omega) (by decide)).mp n) (by omega), fun _ => ⟨nn_vf.mpr nm, ?_⟩⟩⟩
      rw [← Int32.sub_eq_add_neg]
      have e : nI (127 - k) - 1 = nI (127 - (k + 1)) := by
        have := nI_pred (127 - (k + 1))
        rw [show 127 - (k + 1) + 1 = 127 - k by omega] at this
        exact this
      rw [e]
      exact ih (k + 1) _ (by omega) (by rw [mm, hy]; rfl) (by rw [mm]; omega) (Or.inr (by rw [show k + 1 - 1 = k by omega, ← hy]; omega))
end BX
