/-! own: specs of the small methods -/
set_option maxRecDepth 100000
def b2 (p : Prop) [Decidable p] : Int32 := if p then 1 else 0
theorem b2_t {p : Prop} [Decidable p] (h : p) : b2 p = 1 := if_pos h
theorem b2_f {p : Prop} [Decidable p] (h : ¬ p) : b2 p = 0 := if_neg h
theorem b2_01 {p : Prop} [Decidable p] {z : Nat} : am_b01 z (b2 p) := by
  unfold am_b01 b2
  split
  · trivial
  · split
    · exact Or.inr rfl
    · exact Or.inl rfl
theorem b2_ne {p : Prop} [Decidable p] (h : ¬ b2 p = 0) : p := Classical.byContradiction fun z => h (b2_f z)
theorem b2_eq {p : Prop} [Decidable p] (h : b2 p = 0) : ¬ p := fun z => absurd ((b2_t z).symm.trans h) (by decide)
section SP1
variable {X : Nat × (Nat → Int32)} {I : Nat → Nat → Int32} {L : Nat → Nat → Int64} {F : Nat → Nat → UInt32}
theorem s_X10_isIn {v a b : Int32} {Q : AQ} (q : Q (.inl (some (.int (b2 (a ≤ v ∧ v ≤ b))))) (G X I L F)) : WP mX10_isIn 0 (am_ent 3 [.int v, .int a, .int b]) [] (G X I L F) 0 0 Q := by
  refine w_iload_n rX10_isIn_0 rfl ?_
  refine w_iload_n rX10_isIn_1 rfl ?_
  refine w_icmplt rX10_isIn_2 (fun h2 => ?_) (fun h2 => ?_)
  · refine w_iconst rX10_isIn_14 (x := 0) (by decide) ?_
    refine w_ireturn rX10_isIn_15 (Or.inl rfl) ?_
    rw [b2_f (fun z => Int32.not_lt.mpr z.1 h2)] at q
    exact q
  · refine w_iload_n rX10_isIn_5 rfl ?_
    refine w_iload_n rX10_isIn_6 rfl ?_
    refine w_icmpgt rX10_isIn_7 (fun h7 => ?_) (fun h7 => ?_)
    · refine w_iconst rX10_isIn_14 (x := 0) (by decide) ?_
      refine w_ireturn rX10_isIn_15 (Or.inl rfl) ?_
      rw [b2_f (fun z => Int32.not_lt.mpr z.2 h7)] at q
      exact q
    · refine w_iconst rX10_isIn_10 (x := 1) (by decide) ?_
      refine w_goto rX10_isIn_11 ?_
      refine w_ireturn rX10_isIn_15 (Or.inr rfl) ?_
      rw [b2_t ⟨Int32.not_lt.mp h2, Int32.not_lt.mp h7⟩] at q
      exact q
theorem s_X10_isModel {m : Int32} {Q : AQ} (q : Q (.inl (some (.int (b2 (0 ≤ m ∧ m ≤ 5))))) (G X I L F)) : WP mX10_isModel 0 (am_ent 1 [.int m]) [] (G X I L F) 0 0 Q := by
  refine w_iload_n rX10_isModel_0 rfl ?_
  refine w_iconst rX10_isModel_1 (x := 0) (by decide) ?_
  refine w_iconst rX10_isModel_2 (x := 5) (by decide) ?_
  refine w_invokestatic rX10_isModel_3 rfl rfl rfl (by decide) ⟨trivial, trivial, trivial, trivial⟩ trivial (by decide) (by decide) ?_
  refine s_X10_isIn ?_
  show WP mX10_isModel 6 _ _ _ _ _ _
  refine w_ireturn rX10_isModel_6 b2_01 ?_
  exact q
theorem s_X10_holds {v : Int32} {Q : AQ} (q : Q (.inl (some (.int (b2 (v = 0))))) (G X (am_u I 498 0 v) L F)) : WP mX10_holds 0 (am_ent 2 [.ref 498, .int v]) [] (G X I L F) 0 0 Q := by
  refine w_aload_n rX10_holds_0 rfl ?_
  refine w_iload_n rX10_holds_1 rfl ?_
  refine w_putI rX10_holds_2 rfl (G_is (by decide) rfl) trivial ?_
  rw [G_sI]
  refine w_iload_n rX10_holds_5 rfl ?_
  refine w_ifne rX10_holds_6 (fun h6 => ?_) (fun h6 => ?_)
  · refine w_iconst rX10_holds_13 (x := 0) (by decide) ?_
    refine w_ireturn rX10_holds_14 (Or.inl rfl) ?_
    rw [b2_f h6] at q
    exact q
  · refine w_iconst rX10_holds_9 (x := 1) (by decide) ?_
    refine w_goto rX10_holds_10 ?_
    refine w_ireturn rX10_holds_14 (Or.inr rfl) ?_
    rw [b2_t h6] at q
    exact q
/-- the model's answer to latest: the place thrown, the number -/
theorem s_X10_latest {m : Int32} {Q : AQ} (q1 : 0 ≤ m ∧ m < 6 → Q (.inl (some (.int (I 505 m.toNatClampNeg)))) (G X (am_u I 498 0 0) L F)) (q2 : ¬ (0 ≤ m ∧ m < 6) → Q (.inl (some (.int 0))) (G X (am_u I 498 0 1) L F)) : WP mX10_latest 0 (am_ent 2 [.ref 498, .int m]) [] (G X I L F) 0 0 Q := by
  have h56 : (0 ≤ m ∧ m ≤ 5) ↔ (0 ≤ m ∧ m < 6) := by
    rw [Int32.le_iff_toInt_le (x := m), Int32.lt_iff_toInt_lt (x := m)]
    have e5 : (5 : Int32).toInt = 5 := by decide
    have e6 : (6 : Int32).toInt = 6 := by decide
    rw [e5, e6]
    constructor
    · exact fun z => ⟨z.1, by omega⟩
    · exact fun z => ⟨z.1, by omega⟩
  refine w_aload_n rX10_latest_0 rfl ?_
  refine w_iload_n rX10_latest_1 rfl ?_
  refine w_invokestatic rX10_latest_2 rfl rfl rfl (by decide) ⟨trivial, trivial⟩ trivial (by decide) (by decide) ?_
  refine s_X10_isModel ?_
  show WP mX10_latest 5 _ _ _ _ _ _
  refine w_ifeq rX10_latest_5 (fun h5 => ?_) (fun h5 => ?_)
  · refine w_iconst rX10_latest_12 (x := 1) (by decide) ?_
    refine w_invokevirtual rX10_latest_13 rfl rfl rfl (by decide) ⟨trivial, trivial, trivial⟩ (G_is (by decide) rfl) (by decide) (by decide) ?_
    refine s_X10_holds ?_
    show WP mX10_latest 16 _ _ _ _ _ _
    refine w_ifeq rX10_latest_16 (fun h16 => ?_) (fun h16 => ?_)
    · refine w_iconst rX10_latest_28 (x := 0) (by decide) ?_
      refine w_ireturn rX10_latest_29 trivial ?_
      exact q2 (fun z => b2_eq h5 (h56.mpr z))
    · exact absurd (b2_ne h16) (by decide)
  · refine w_iconst rX10_latest_8 (x := 0) (by decide) ?_
    refine w_goto rX10_latest_9 ?_
    refine w_invokevirtual rX10_latest_13 rfl rfl rfl (by decide) ⟨trivial, trivial, trivial⟩ (G_is (by decide) rfl) (by decide) (by decide) ?_
    refine s_X10_holds ?_
    show WP mX10_latest 16 _ _ _ _ _ _
    have hz := h56.mp (b2_ne h5)
    refine w_ifeq rX10_latest_16 (fun h16 => absurd rfl (b2_eq h16)) (fun h16 => ?_)
    refine w_aload_n rX10_latest_19 rfl ?_
    refine w_getR rX10_latest_20 rfl rfl (G_is (by decide) rfl) (x := 505) rfl ?_
    refine w_iload_n rX10_latest_23 rfl ?_
    refine w_iaload rX10_latest_24 (G_at (by decide) rfl rfl (am_vin (n := 6) (by decide) (Int32.not_lt.mpr hz.1) hz.2)) ?_
    refine w_goto rX10_latest_25 ?_
    refine w_ireturn rX10_latest_29 trivial ?_
    exact q1 hz
/-- the law's call of latest: 0 and the number told, or 1 -/
theorem s_L_latest {m : Int32} {Q : AQ} (q1 : 0 ≤ m ∧ m < 6 → Q (.inl (some (.int 0))) (G X I (am_u L 540 0 (I 14 m.toNatClampNeg).toInt64) F)) (q2 : ¬ (0 ≤ m ∧ m < 6) → Q (.inl (some (.int 1))) (G X I L F)) : WP mL_latest 0 (am_ent 4 [.ref 0, .int m, .ref 540]) [] (G X I L F) 0 0 Q := by
  refine w_aload_n rL_latest_0 rfl ?_
  refine w_iconst rL_latest_1 (x := 0) (by decide) ?_
  refine w_aload_n rL_latest_2 rfl ?_
  refine w_iload_n rL_latest_3 rfl ?_
  refine w_invokevirtual rL_latest_4 rfl rfl rfl (by decide) ⟨trivial, trivial, trivial⟩ (G_is (by decide) rfl) (by decide) (by decide) ?_
  refine s_X9_latest (fun hz => ?_) (fun hz => ?_)
  · show WP mL_latest 7 _ _ _ _ _ _
    refine w_i2l rL_latest_7 ?_
    refine w_lastore rL_latest_8 (G_at (by decide) rfl (n := 1) rfl (by unfold vp_in; decide)) ?_
    rw [G_sL]
    refine w_goto rL_latest_9 ?_
    refine w_iconst rL_latest_15 (x := 0) (by decide) ?_
    refine w_ireturn rL_latest_16 trivial ?_
    exact q1 hz
  · refine ⟨_, rfl, trivial, ?_⟩
    show WP mL_latest 13 _ _ _ _ _ _
    refine w_iconst rL_latest_13 (x := 1) (by decide) ?_
    refine w_ireturn rL_latest_14 trivial ?_
    exact q2 hz
end SP1
