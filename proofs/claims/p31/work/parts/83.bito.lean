/-! own: the class's bits of a float are the float's -/
set_option maxRecDepth 100000
section BO
variable {X : Nat × (Nat × (Nat → Int32))} {I : Nat → Nat → Int32} {L : Nat → Nat → Int64} {F : Nat → Nat → UInt32} {Q : AQ}
theorem sp_b39 {x : UInt32} {sg : Int32} {n0 : Nat} (h1 : n0 < 2139095040) (hp : 0 < n0) (q : Q (.inl (some (.int (sg ||| nI n0)))) (G X I L F)) : ∀ (m k : Nat) (y : UInt32), k + m = 127 → y.toNat + k * 8388608 = n0 → (k = 0 ∨ 1065353216 ≤ y.toNat) →
    WP mX9_bitsOf 39 [some (.float x), some (.int sg), some (.float y), some (.int (nI (127 + k))), none] [] (G X I L F) 0 0 Q := by
  have c2 : fk 1073741824 = 1073741824 := by decide
  have n2 : nn 1073741824 := nn_lit (by decide)
  have c1 : fk 1065353216 = 1065353216 := by decide
  have n1 : nn 1065353216 := nn_lit (by decide)
  have stop : ∀ (k : Nat) (y : UInt32), k ≤ 127 → y.toNat + k * 8388608 = n0 → (k = 0 ∨ 1065353216 ≤ y.toNat) → y.toNat < 1073741824 → WP mX9_bitsOf 62 [some (.float x), some (.int sg), some (.float y), some (.int (nI (127 + k))), none] [] (G X I L F) 0 0 Q := by
    intro k y hk hy hc lt
    by_cases c : 1065353216 ≤ y.toNat
    · have ny : nn y := nn_bits.mpr (by rw [Nat.mod_eq_of_lt (by omega)]; omega)
      have fy : fk y = (y.toNat : Int) := by rw [fk_def, if_neg (by omega)]
      have ge := fc_ge (op := .g) ny n1
      rw [fy, c1] at ge
      have fb := fin_bits2 (y := y) (x := 127 + k) (n0 := n0) lt c (by omega) (by omega)
      refine k_X9_bitsOf_62 ⟨fun _ => ⟨nn_vf.mpr fb.2, ?_⟩, fun n => absurd (ge.mpr (by omega)) n⟩
      rw [fb.1]
      exact q
    · have k0 : k = 0 := by omega
      subst k0
      exact sp_b62 (n0 := n0) (by omega) hp q 126 0 y rfl (by show y.toNat = n0; omega) (by omega) (Or.inl rfl)
  intro m
  induction m with
  | zero =>
    intro k y hk hy hc
    have ny : nn y := nn_bits.mpr (by rw [Nat.mod_eq_of_lt (by omega)]; omega)
    have fy : fk y = (y.toNat : Int) := by rw [fk_def, if_neg (by omega)]
    have lt := fc_lt (op := .l) ny n2
    rw [fy, c2] at lt
    exact k_X9_bitsOf_39 ⟨fun n => stop k y (by omega) hy hc (by have := lt.mp n; omega), fun n => absurd (lt.mpr (by omega)) n⟩
  | succ m ih =>
    intro k y hk hy hc
    have ny : nn y := nn_bits.mpr (by rw [Nat.mod_eq_of_lt (by omega)]; omega)
    have fy : fk y = (y.toNat : Int) := by rw [fk_def, if_neg (by omega)]
    have lt := fc_lt (op := .l) ny n2
    rw [fy, c2] at lt
    refine k_X9_bitsOf_39 ⟨fun n => stop k y (by omega) hy hc (by have := lt.mp n; omega), fun n => ⟨fun n3 => absurd ((nI_leI (a := 254) (b := 127 + k) (by decide) (by omega)).mp n3) ?_, fun _ => ?_⟩⟩
    · have : ¬ (y.toNat : Int) < 1073741824 := fun z => n (lt.mpr z)
      omega
    · have ge : ¬ (y.toNat : Int) < 1073741824 := fun z => n (lt.mpr z)
      have dv := div_2 (a := y) (by omega) (by omega)
      have nd : nn (FP.fdiv y 1073741824) := nn_bits.mpr (by rw [dv, Nat.mod_eq_of_lt (by omega)]; omega)
      refine ⟨nn_vf.mpr nd, ?_⟩
      rw [nI_1]
      exact ih (k + 1) _ (by omega) (by rw [dv]; omega) (Or.inr (by rw [dv]; omega))
theorem or_sign {x : UInt32} (h : 2147483648 ≤ x.toNat) : (-2147483648 : Int32) ||| nI (x.toNat - 2147483648) = UInt32.toInt32 x := by
  refine Int32.toBitVec_inj.mp (BitVec.eq_of_toNat_eq ?_)
  have lt := x.toNat_lt
  rw [Int32.toBitVec_or, BitVec.toNat_or]
  show 2147483648 ||| (BitVec.ofNat 32 (x.toNat - 2147483648)).toNat = x.toBitVec.toNat
  rw [BitVec.toNat_ofNat, Nat.mod_eq_of_lt (by omega)]
  have := Nat.two_pow_add_eq_or_of_lt (i := 31) (b := x.toNat - 2147483648) (by omega) 1
  rw [Nat.mul_one] at this
  show 2 ^ 31 ||| (x.toNat - 2147483648) = x.toNat
  rw [← this]
  show 2147483648 + (x.toNat - 2147483648) = x.toNat
  omega
/-- the class's bits of a float that is finite and no -0 -/
theorem sp_bitsOf {x : UInt32} (hf : fin x) (hz : fk x = 0 → x = 0) (q : Q (.inl (some (.int (UInt32.toInt32 x)))) (G X I L F)) : WP mX9_bitsOf 0 (am_ent 5 [.float x]) [] (G X I L F) 0 0 Q := by
  have lt := x.toNat_lt
  have nx := hf.nn
  have eq0 := fc_eq (op := .l) nx nn_0
  have ge0 := fc_ge (op := .g) nx nn_0
  rw [fk_zero] at eq0 ge0
  have fb := fin_bits.mp hf
  refine k_X9_bitsOf_0 ⟨fun c => ?_, fun c s11 e11 => ⟨fun _ => ⟨nn_vf.mpr (nn_sub nn_0 hf), trivial⟩, fun s25 e25 => ?_⟩⟩
  · rw [hz (eq0.mp c)] at q
    exact q
  · have ne : fk x ≠ 0 := fun z => c (eq0.mpr z)
    by_cases p : 0 ≤ fk x
    · rw [if_pos (ge0.mpr p)] at e11 e25
      rw [e11, e25]
      have xl : x.toNat < 2147483648 := by
        rw [fk_def] at p ne
        split at p <;> omega
      rw [Nat.mod_eq_of_lt (by omega)] at fb
      have xp : 0 < x.toNat := by
        rw [fk_def, if_neg (by omega)] at ne
        omega
      refine sp_b39 (n0 := x.toNat) fb xp ?_ 127 0 x rfl (by omega) (Or.inl rfl)
      rw [Int32.zero_or, ← toNat_nI]
      exact q
    · rw [if_neg (fun n => p (ge0.mp n))] at e11 e25
      rw [e11, e25]
      have xl : 2147483648 < x.toNat := by
        rw [fk_def] at p
        split at p <;> omega
      have fx : fk x = 2147483648 - (x.toNat : Int) := by rw [fk_def, if_pos (by omega)]; rfl
      have s0 := fk_sub0 hf
      have sn : (FP.fsub 0 x).toNat = x.toNat - 2147483648 := by
        have l2 := (FP.fsub 0 x).toNat_lt
        rw [fx, fk_def] at s0
        split at s0 <;> omega
      refine sp_b39 (n0 := x.toNat - 2147483648) (by omega) (by omega) ?_ 127 0 (FP.fsub 0 x) rfl (by rw [sn]; omega) (Or.inl rfl)
      rw [or_sign (by omega)]
      exact q
theorem kv_bits {x : UInt32} (h : kv x) : fin x ∧ (fk x = 0 → x = 0) := ⟨h.fin, h.2.2⟩
end BO
