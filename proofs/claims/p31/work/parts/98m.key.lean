/-! own: the order of bits; the bits of a small number -/
set_option maxRecDepth 100000
theorem xor_31 {m : Nat} (h : m < 2 ^ 31) : (2 ^ 31 + m) ^^^ (2 ^ 31 - 1) = 2 ^ 31 + (2 ^ 31 - (m + 1)) := by
  refine Nat.eq_of_testBit_eq (fun i => ?_)
  rw [Nat.testBit_xor, Nat.testBit_two_pow_sub_one]
  rcases Nat.lt_trichotomy i 31 with l | e | g
  · rw [Nat.testBit_two_pow_add_gt l, Nat.testBit_two_pow_add_gt l, Nat.testBit_two_pow_sub_succ h]
    rw [decide_eq_true l, Bool.true_and, Bool.xor_true]
  · subst e
    rw [Nat.testBit_two_pow_add_eq, Nat.testBit_two_pow_add_eq, Nat.testBit_lt_two_pow h, Nat.testBit_lt_two_pow (show 2 ^ 31 - (m + 1) < 2 ^ 31 by omega)]
    rfl
  · have p : (2 : Nat) ^ 32 ≤ 2 ^ i := Nat.pow_le_pow_right (by decide) g
    rw [Nat.testBit_lt_two_pow (show 2 ^ 31 + m < 2 ^ i by omega), Nat.testBit_lt_two_pow (show 2 ^ 31 + (2 ^ 31 - (m + 1)) < 2 ^ i by omega), decide_eq_false (by omega)]
    rfl
theorem key_int (x : UInt32) : (f_L_key (UInt32.toInt32 x)).toInt = if 2 ^ 31 ≤ x.toNat then ((2 ^ 31 : Nat) : Int) - (x.toNat : Int) - 1 else (x.toNat : Int) := by
  have lt : x.toNat < 2 ^ 32 := x.toNat_lt
  have tb : (UInt32.toInt32 x).toBitVec.toNat = x.toNat := rfl
  have ti : (UInt32.toInt32 x).toInt = Int.bmod (x.toNat : Int) (2 ^ 32) := by
    show (UInt32.toInt32 x).toBitVec.toInt = _
    rw [BitVec.toInt_eq_toNat_bmod, tb]
  unfold f_L_key
  by_cases c : 2 ^ 31 ≤ x.toNat
  · rw [if_pos c]
    have ng : ¬ 0 ≤ UInt32.toInt32 x := fun z => by
      have := Int32.le_iff_toInt_le.mp z
      rw [ti, Int.bmod_def] at this
      have z0 : (0 : Int32).toInt = 0 := rfl
      rw [z0] at this
      split at this <;> omega
    rw [if_neg ng]
    show (UInt32.toInt32 x ^^^ 2147483647).toBitVec.toInt = _
    rw [Int32.toBitVec_xor, BitVec.toInt_eq_toNat_bmod, BitVec.toNat_xor, tb]
    have e : x.toNat ^^^ (2147483647 : Int32).toBitVec.toNat = 2 ^ 31 + (2 ^ 31 - (x.toNat - 2 ^ 31 + 1)) := by
      have h := xor_31 (m := x.toNat - 2 ^ 31) (by omega)
      rw [show 2 ^ 31 + (x.toNat - 2 ^ 31) = x.toNat by omega] at h
      exact h
    rw [e, Int.bmod_def]
    split <;> omega
  · rw [if_neg c]
    have ps : 0 ≤ UInt32.toInt32 x := Int32.le_iff_toInt_le.mpr (by
      rw [ti, Int.bmod_def]
      have z0 : (0 : Int32).toInt = 0 := rfl
      rw [z0]
      split <;> omega)
    rw [if_pos ps, ti, Int.bmod_def]
    split <;> omega
theorem key_le {x y : UInt32} (hx : fk x = 0 → x = 0) (hy : fk y = 0 → y = 0) : f_L_key (UInt32.toInt32 x) ≤ f_L_key (UInt32.toInt32 y) ↔ fk x ≤ fk y := by
  rw [Int32.le_iff_toInt_le, key_int, key_int]
  have nz : ∀ z : UInt32, (fk z = 0 → z = 0) → ¬ z.toNat = 2 ^ 31 := fun z h e => by
    have f : fk z = 0 := by
      rw [fk_def, if_pos (by omega), e]; decide
    have := h f
    rw [this] at e
    exact absurd e (by decide)
  have n1 := nz x hx
  have n2 := nz y hy
  rw [fk_def, fk_def]
  by_cases a : 2 ^ 31 ≤ x.toNat
  · rw [if_pos a, if_pos a]
    by_cases b : 2 ^ 31 ≤ y.toNat
    · rw [if_pos b, if_pos b]; omega
    · rw [if_neg b, if_neg b]; omega
  · rw [if_neg a, if_neg a]
    by_cases b : 2 ^ 31 ≤ y.toNat
    · rw [if_pos b, if_pos b]; omega
    · rw [if_neg b, if_neg b]
/-- the law's bits of a whole number -/
def bitR (g : Int32) : Nat → Int32 → Int32
  | 0, _ => 0
  | f + 1, p => if (g >>> (p &&& 31 : Int32)) ≤ 1 then (((127 + p) : Int32) <<< (23 &&& 31 : Int32)) + ((g <<< ((23 - p) &&& 31 : Int32)) &&& 8388607) else bitR g f (p + 1)
def bitD (g : Int32) : Nat → Int32 → Bool
  | 0, _ => false
  | f + 1, p => if (g >>> (p &&& 31 : Int32)) ≤ 1 then true else bitD g f (p + 1)
theorem bit_ok : ∀ g, g < 501 → 1 ≤ g → bitD (nI g) 10 0 = true ∧ bitR (nI g) 10 0 = UInt32.toInt32 (FP.i2f (nI g)) ∧ (FP.i2f (nI g)).toNat < 2 ^ 31 := by decide +kernel
section BT
variable {X : Nat × (Nat × (Nat → Int32))} {I : Nat → Nat → Int32} {L : Nat → Nat → Int64} {F : Nat → Nat → UInt32} {Q : AQ} {g : Nat}
theorem sp_bits2 {x : Int32} : ∀ (f : Nat) (p : Int32) (c s : Nat), bitD x f p = true → Q (.inl (some (.int (bitR x f p)))) (G X I L F) → WP mL_bits 2 [some (.int x), some (.int p)] [] (G X I L F) c s Q
  | 0, p, c, s, d, _ => by cases d
  | f + 1, p, c, s, d, q => by
    have d2 : (if (x >>> (p &&& 31 : Int32)) ≤ 1 then true else bitD x f (p + 1)) = true := d
    have q2 : Q (.inl (some (.int (if (x >>> (p &&& 31 : Int32)) ≤ 1 then (((127 + p) : Int32) <<< (23 &&& 31 : Int32)) + ((x <<< ((23 - p) &&& 31 : Int32)) &&& 8388607) else bitR x f (p + 1))))) (G X I L F) := q
    refine k_L_bits_2 ⟨fun h => ?_, fun h => ?_⟩
    · rw [if_pos h] at q2; exact q2
    · rw [if_neg h] at q2 d2; exact sp_bits2 f (p + 1) c s d2 q2
theorem sp_bits (h1 : 1 ≤ g) (h2 : g ≤ 500) (q : Q (.inl (some (.int (UInt32.toInt32 (FP.i2f (nI g)))))) (G X I L F)) : WP mL_bits 0 (am_ent 2 [.int (nI g)]) [] (G X I L F) 0 0 Q := by
  obtain ⟨a, b, _⟩ := bit_ok g (by omega) h1
  refine k_L_bits_0 (sp_bits2 10 0 0 0 a ?_)
  rw [b]; exact q
end BT
/-- a float is not less than a small number, by its bits -/
theorem key_bits {x : UInt32} {g : Nat} (hx : kv x) (h1 : 1 ≤ g) (h2 : g ≤ 500) : UInt32.toInt32 (FP.i2f (nI g)) ≤ f_L_key (UInt32.toInt32 x) ↔ ¬ fk x < fk (FP.i2f (nI g)) := by
  obtain ⟨_, _, p⟩ := bit_ok g (by omega) h1
  have hz : fk (FP.i2f (nI g)) = 0 → FP.i2f (nI g) = 0 := fun z => by
    rw [fk_def, if_neg (by omega)] at z
    exact UInt32.toNat_inj.mp (by rw [show (0 : UInt32).toNat = 0 from rfl]; omega)
  have e : f_L_key (UInt32.toInt32 (FP.i2f (nI g))) = UInt32.toInt32 (FP.i2f (nI g)) := by
    have k := key_int (FP.i2f (nI g))
    rw [if_neg (by omega)] at k
    refine Int32.toInt_inj.mp (k.trans ?_)
    show _ = (UInt32.toInt32 (FP.i2f (nI g))).toBitVec.toInt
    rw [BitVec.toInt_eq_toNat_bmod, show (UInt32.toInt32 (FP.i2f (nI g))).toBitVec.toNat = (FP.i2f (nI g)).toNat from rfl, Int.bmod_def]
    split <;> omega
  rw [← e, key_le hz hx.2.2]
  omega
