/-! own: floats: order by keys, kept values -/
def fk (a : UInt32) : Int := FP.Core.fkey a
def nn (a : UInt32) : Prop := FP.Core.val32 a ≠ .nan
theorem nn_bits {a : UInt32} : nn a ↔ a.toNat % 2 ^ 31 ≤ 2139095040 := FP.Core.ne_nan32 a
theorem nn_vf {a : UInt32} : vf_n32 a ↔ nn a := by
  unfold vf_n32
  rw [nn_bits, UInt32.le_iff_toNat_le, FP.Core.mask_toNat32]
  exact Iff.rfl
theorem nn_no {a : UInt32} : FP.Core.fIsNaN a = false ↔ nn a := FP.Core.notNaN_iff32 a
theorem fc_cases {a b : UInt32} (ha : nn a) (hb : nn b) (op : CmpOp) : (fk a < fk b ∧ Op.cmpValue (FP.fcmp a b) op = -1) ∨ (fk a = fk b ∧ Op.cmpValue (FP.fcmp a b) op = 0) ∨ (fk b < fk a ∧ Op.cmpValue (FP.fcmp a b) op = 1) := by
  have h : FP.fcmp a b = some (compare (fk a) (fk b)) := FP.Core.fcmp_key ha hb
  rw [h]
  rcases Int.lt_trichotomy (fk a) (fk b) with h1 | h1 | h1
  · left
    rw [(FP.Core.compare_lt_iff _ _).mpr h1]
    exact ⟨h1, rfl⟩
  · right; left
    rw [(FP.Core.compare_eq_iff _ _).mpr h1]
    exact ⟨h1, rfl⟩
  · right; right
    rw [(FP.Core.compare_gt_iff _ _).mpr h1]
    exact ⟨h1, rfl⟩
section FC
variable {a b : UInt32} {op : CmpOp}
theorem fc_lt (ha : nn a) (hb : nn b) : Op.cmpValue (FP.fcmp a b) op < 0 ↔ fk a < fk b := by
  rcases fc_cases ha hb op with ⟨h, e⟩ | ⟨h, e⟩ | ⟨h, e⟩ <;> rw [e] <;> constructor <;> intro z <;> first | omega | exact absurd z (by decide) | decide
theorem fc_le (ha : nn a) (hb : nn b) : Op.cmpValue (FP.fcmp a b) op ≤ 0 ↔ fk a ≤ fk b := by
  rcases fc_cases ha hb op with ⟨h, e⟩ | ⟨h, e⟩ | ⟨h, e⟩ <;> rw [e] <;> constructor <;> intro z <;> first | omega | exact absurd z (by decide) | decide
theorem fc_gt (ha : nn a) (hb : nn b) : 0 < Op.cmpValue (FP.fcmp a b) op ↔ fk b < fk a := by
  rcases fc_cases ha hb op with ⟨h, e⟩ | ⟨h, e⟩ | ⟨h, e⟩ <;> rw [e] <;> constructor <;> intro z <;> first | omega | exact absurd z (by decide) | decide
theorem fc_ge (ha : nn a) (hb : nn b) : 0 ≤ Op.cmpValue (FP.fcmp a b) op ↔ fk b ≤ fk a := by
  rcases fc_cases ha hb op with ⟨h, e⟩ | ⟨h, e⟩ | ⟨h, e⟩ <;> rw [e] <;> constructor <;> intro z <;> first | omega | exact absurd z (by decide) | decide
theorem fc_eq (ha : nn a) (hb : nn b) : Op.cmpValue (FP.fcmp a b) op = 0 ↔ fk a = fk b := by
  rcases fc_cases ha hb op with ⟨h, e⟩ | ⟨h, e⟩ | ⟨h, e⟩ <;> rw [e] <;> constructor <;> intro z <;> first | omega | exact absurd z (by decide) | decide | rfl
end FC
theorem fk_def (a : UInt32) : fk a = if 2 ^ 31 ≤ a.toNat then ((2 ^ 31 : Nat) : Int) - (a.toNat : Int) else (a.toNat : Int) := rfl
theorem fk_inj {a b : UInt32} (h : fk a = fk b) (h0 : fk a ≠ 0) : a = b := by
  have e1 := a.toNat_lt
  have e2 := b.toNat_lt
  rw [fk_def, fk_def] at h
  rw [fk_def] at h0
  refine UInt32.toNat_inj.mp ?_
  repeat' split at h
  all_goals (try split at h0)
  all_goals omega
theorem fk_zero : fk 0 = 0 := by decide
theorem fk_z {a : UInt32} (h : fk a = 0) : a = 0 ∨ a = 2147483648 := by
  have e1 := a.toNat_lt
  rw [fk_def] at h
  split at h
  · right; refine UInt32.toNat_inj.mp ?_
    show a.toNat = 2147483648
    omega
  · left; refine UInt32.toNat_inj.mp ?_
    show a.toNat = 0
    omega
theorem nn_lit {a : UInt32} (h : Nat.ble (a.toNat % 2 ^ 31) 2139095040 = true) : nn a := nn_bits.mpr (Nat.le_of_ble_eq_true h)
theorem nn_0 : nn 0 := nn_lit (by decide)
/-- finite -/
def fin (a : UInt32) : Prop := FP.Core.FFin a
theorem fin_bits {a : UInt32} : fin a ↔ a.toNat % 2 ^ 31 < 2139095040 := FP.Core.fin_bits32 a
theorem fin.nn {a : UInt32} (h : fin a) : nn a := nn_bits.mpr (Nat.le_of_lt (fin_bits.mp h))
theorem fin_fk {a : UInt32} (h : -2139095040 < fk a) (h2 : fk a < 2139095040) : fin a := by
  have e1 := a.toNat_lt
  rw [fin_bits]
  rw [fk_def] at h h2
  split at h <;> omega
theorem fk_fin {a : UInt32} (h : fin a) : -2139095040 < fk a ∧ fk a < 2139095040 := by
  have e1 := a.toNat_lt
  rw [fin_bits] at h
  rw [fk_def]
  split <;> omega
/-- what is kept: no -0, at most 1e9 -/
def kv (a : UInt32) : Prop := -1315859240 ≤ fk a ∧ fk a ≤ 1315859240 ∧ (fk a = 0 → a = 0)
theorem kv.fin {a : UInt32} (h : kv a) : fin a := fin_fk (by have := h.1; omega) (by have := h.2.1; omega)
theorem kv.nn {a : UInt32} (h : kv a) : nn a := h.fin.nn
theorem kv_0 : kv 0 := ⟨by decide, by decide, fun _ => rfl⟩
theorem kv_eq {a b : UInt32} (ha : kv a) (hb : kv b) (h : fk a = fk b) : a = b := by
  by_cases z : fk a = 0
  · rw [ha.2.2 z, hb.2.2 (by rw [← h]; exact z)]
  · exact fk_inj h z
def kp (x : UInt32) : UInt32 := if 1315859240 < fk x then 1315859240 else if fk x < -1315859240 then 3463342888 else if fk x = 0 then 0 else x
theorem kp_kv {x : UInt32} : kv (kp x) := by
  unfold kp
  split
  · exact ⟨by decide, by decide, fun z => absurd z (by decide)⟩
  · split
    · exact ⟨by decide, by decide, fun z => absurd z (by decide)⟩
    · split
      · exact kv_0
      · exact ⟨by omega, by omega, fun z => absurd z ‹_›⟩
theorem kp_cong {x y : UInt32} (h : fk x = fk y) : kp x = kp y := by
  unfold kp
  rw [h]
  split
  · rfl
  · split
    · rfl
    · split
      · rfl
      · exact fk_inj h (by rw [h]; assumption)
theorem kp_id {x : UInt32} (h : kv x) : kp x = x := by
  obtain ⟨h1, h2, h3⟩ := h
  unfold kp
  rw [if_neg (by omega), if_neg (by omega)]
  split
  · exact (h3 ‹_›).symm
  · rfl
section FO
variable {a b : UInt32}
theorem nn_add (ha : nn a) (hb : fin b) : nn (FP.fadd a b) := nn_no.mp (FP.Core.fadd_out (nn_no.mpr ha) hb)
theorem nn_sub (ha : nn a) (hb : fin b) : nn (FP.fsub a b) := nn_no.mp (FP.Core.fsub_out (nn_no.mpr ha) hb)
theorem nn_mul (ha : fin a) (hb : fin b) : nn (FP.fmul a b) := nn_no.mp (FP.Core.fmul_out ha hb)
theorem nn_div (ha : nn a) (hb : fin b) (hz : fk b ≠ 0) : nn (FP.fdiv a b) := nn_no.mp (FP.Core.fdiv_out (nn_no.mpr ha) hb (fun z => hz (by
  rw [FP.Core.zero_bits232] at z
  have := b.toNat_lt
  rw [fk_def]
  split <;> omega)))
theorem fin_i2f (v : Int32) : fin (FP.i2f v) := FP.Core.i2f_fin v
theorem fk_fneg {a : UInt32} : fk (FP.fneg a) = - fk a := by
  have e1 := a.toNat_lt
  have h : (FP.fneg a).toNat = if 2 ^ 31 ≤ a.toNat then a.toNat - 2 ^ 31 else a.toNat + 2 ^ 31 := by
    show (a ^^^ 0x80000000).toNat = _
    rw [UInt32.toNat_xor]
    have z := FP.xor_top (a := a.toNat) (k := 31) (by omega)
    show a.toNat ^^^ 2 ^ 31 = _
    split
    · exact z.2 ‹_›
    · exact z.1 (by omega)
  rw [fk_def, fk_def, h]
  repeat' split
  all_goals omega
theorem fin_fneg {a : UInt32} (h : fin a) : fin (FP.fneg a) := by
  have z := fk_fin h
  exact fin_fk (by rw [fk_fneg]; omega) (by rw [fk_fneg]; omega)
theorem fsub_fadd : FP.fsub a b = FP.fadd a (FP.fneg b) := by
  have h : FP.Core.decode FP.Core.b32 (FP.fneg b).toNat = FP.Core.negate (FP.Core.decode FP.Core.b32 b.toNat) := FP.val32_fneg b
  show UInt32.ofNat (FP.Core.sub FP.Core.b32 a.toNat b.toNat) = UInt32.ofNat (FP.Core.add FP.Core.b32 a.toNat (FP.fneg b).toNat)
  unfold FP.Core.sub FP.Core.add
  rw [h]
theorem fk_add0 (h : fin a) : fk (FP.fadd 0 a) = fk a := by
  have z : FP.Core.FZero 0 := ⟨false, _, FP.Core.val32_zero⟩
  have e := (FP.Core.fadd_zero_eq (a := a) (z := 0) h z).2
  have e2 := FP.Core.fcmp_some e
  rw [FP.Core.fcmp_key e2.1 e2.2, Option.some.injEq, FP.Core.compare_eq_iff] at e
  exact e
theorem fk_sub0 (h : fin a) : fk (FP.fsub 0 a) = - fk a := by
  rw [fsub_fadd, fk_add0 (fin_fneg h), fk_fneg]
/-- the two ways of turning a sign, kept, agree -/
theorem kp_neg (h : fin a) : kp (FP.fsub 0 a) = kp (FP.fneg a) := kp_cong (by rw [fk_sub0 h, fk_fneg])
end FO
