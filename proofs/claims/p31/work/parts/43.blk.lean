/-! own: the blocks of the methods that go round or call on, written by a program -/
set_option maxRecDepth 100000
theorem k_L_publishes_0 {X : Nat × (Nat × (Nat → Int32))} {I : Nat → Nat → Int32} {L : Nat → Nat → Int64} {F : Nat → Nat → UInt32} {Q : AQ} {model : Int32} (q : WP mX9_publish 0 (am_ent 2 [.ref 0, .int model]) [] (G X I L F) 0 0 (am_kq mL_publishes 2 [some (.ref 0), some (.ref 498), some (.ref 499), some (.int model), none, none, none, none, none, none, none] [] 1 6 Q)) : WP mL_publishes 0 (am_ent 11 [.ref 0, .ref 498, .ref 499, .int model]) [] (G X I L F) 0 0 Q := by
  refine w_aload_n rL_publishes_0 rfl ?_
  refine w_iload_n rL_publishes_1 rfl ?_
  refine w_invokevirtual rL_publishes_2 rfl rfl rfl (Nat.le_of_ble_eq_true rfl) ⟨trivial, trivial, trivial⟩ (G_is (by decide) rfl) (by decide) (by decide) ?_
  exact q
theorem k_L_publishes_5 {X : Nat × (Nat × (Nat → Int32))} {I : Nat → Nat → Int32} {L : Nat → Nat → Int64} {F : Nat → Nat → UInt32} {Q : AQ} {c s : Nat} {x3 : Int32} {e0 : Int32} (q : ∀ s15_0 : Int32, s15_0 = (if e0 = (I 498 3) then 1 else 0 : Int32) → (WP mL_publishes 28 [some (.ref 0), some (.ref 498), some (.ref 499), some (.int x3), some (.int e0), some (.int (-1)), some (.int s15_0), some (.int 0), none, none, none] [] (G X I L F) c s Q)) : WP mL_publishes 5 [some (.ref 0), some (.ref 498), some (.ref 499), some (.int x3), none, none, none, none, none, none, none] [.int e0] (G X I L F) c s Q := by
  refine w_istore rL_publishes_5 rfl trivial ?_
  refine w_iconst rL_publishes_7 (x := -1) (by decide) ?_
  refine w_istore rL_publishes_8 rfl trivial ?_
  refine w_iload rL_publishes_10 rfl ?_
  refine w_aload_n rL_publishes_12 rfl ?_
  refine w_iconst rL_publishes_13 (x := 3) (by decide) ?_
  refine xl_iaload rL_publishes_14 (G_at (by decide) rfl rfl (by unfold vp_in; decide)) (i := 3) (by decide) ?_
  have j15 : ∀ s15_0 : Int32, s15_0 = (if e0 = (I 498 3) then 1 else 0 : Int32) → WP mL_publishes 23 [some (.ref 0), some (.ref 498), some (.ref 499), some (.int x3), some (.int e0), some (.int (-1)), none, none, none, none, none] [.int s15_0] (G X I L F) c s Q := by
    intro s15_0 es15_0
    replace q := q s15_0 es15_0
    refine w_istore rL_publishes_23 rfl trivial ?_
    refine w_iconst rL_publishes_25 (x := 0) (by decide) ?_
    refine w_istore rL_publishes_26 rfl trivial ?_
    exact q
  refine w_icmpne rL_publishes_15 (fun h15 => ?_) (fun h15 => ?_)
  · skip
    refine w_iconst rL_publishes_22 (x := 0) (by decide) ?_
    exact j15 _ (if_neg h15).symm
  · skip
    refine w_iconst rL_publishes_18 (x := 1) (by decide) ?_
    refine w_goto rL_publishes_19 ?_
    exact j15 _ (if_pos h15).symm
theorem k_L_publishes_28 {X : Nat × (Nat × (Nat → Int32))} {I : Nat → Nat → Int32} {L : Nat → Nat → Int64} {F : Nat → Nat → UInt32} {Q : AQ} {c s : Nat} {x3 : Int32} {x4 : Int32} {x5 : Int32} {x6 : Int32} {x7 : Int32} {d8 : Option Value} {d9 : Option Value} {d10 : Option Value} (q : (6 ≤ x7 → (x6 = 0 → Q (.inl (some (.int 0))) (G X (am_u I 498 3 (x5 + 1)) L F)) ∧ (¬ x6 = 0 → (c + 1 ≤ 100 ∧ s + 6 ≤ 600) ∧ (WP mX9_latest 0 (am_ent 2 [.ref 0, .int x3]) [] (G X (am_u I 498 3 (x5 + 1)) L F) 0 0 (am_kq mL_publishes 159 [some (.ref 0), some (.ref 498), some (.ref 499), some (.int x3), some (.int x4), some (.int x5), some (.int x6), some (.int x7), d8, d9, d10] [] (c + 1) (s + 6) Q)))) ∧ (¬ 6 ≤ x7 → (c + 1 ≤ 100 ∧ s + 6 ≤ 600) ∧ (WP mX9_latest 0 (am_ent 2 [.ref 0, .int x7]) [] (G X I L F) 0 0 (am_kq mL_publishes 38 [some (.ref 0), some (.ref 498), some (.ref 499), some (.int x3), some (.int x4), some (.int x5), some (.int x6), some (.int x7), d8, d9, d10] [] (c + 1) (s + 6) Q)))) : WP mL_publishes 28 [some (.ref 0), some (.ref 498), some (.ref 499), some (.int x3), some (.int x4), some (.int x5), some (.int x6), some (.int x7), d8, d9, d10] [] (G X I L F) c s Q := by
  refine w_iload rL_publishes_28 rfl ?_
  refine w_bipush rL_publishes_30 (x := 6) (by decide) ?_
  refine w_icmpge rL_publishes_32 (fun h32 => ?_) (fun h32 => ?_)
  · replace q := q.1 h32
    refine w_aload_n rL_publishes_145 rfl ?_
    refine w_iconst rL_publishes_146 (x := 3) (by decide) ?_
    refine w_iload rL_publishes_147 rfl ?_
    refine w_iconst rL_publishes_149 (x := 1) (by decide) ?_
    refine w_iadd rL_publishes_150 ?_
    refine xl_iastore rL_publishes_151 (G_at (by decide) rfl rfl (by unfold vp_in; decide)) (i := 3) (by decide) ?_
    refine w_iload rL_publishes_152 rfl ?_
    refine w_ifeq rL_publishes_154 (fun h154 => ?_) (fun h154 => ?_)
    · replace q := q.1 h154
      refine w_iconst rL_publishes_188 (x := 0) (by decide) ?_
      refine w_ireturn rL_publishes_189 (Or.inl rfl) ?_
      exact q
    · replace q := q.2 h154
      refine w_aload_n rL_publishes_157 rfl ?_
      refine w_iload_n rL_publishes_158 rfl ?_
      refine w_invokevirtual rL_publishes_159 rfl rfl rfl (Nat.le_of_ble_eq_true rfl) ⟨trivial, trivial, trivial⟩ (G_is (by decide) rfl) q.1.1 q.1.2 ?_
      replace q := q.2
      exact q
  · replace q := q.2 h32
    refine w_aload_n rL_publishes_35 rfl ?_
    refine w_iload rL_publishes_36 rfl ?_
    refine w_invokevirtual rL_publishes_38 rfl rfl rfl (Nat.le_of_ble_eq_true rfl) ⟨trivial, trivial, trivial⟩ (G_is (by decide) rfl) q.1.1 q.1.2 ?_
    replace q := q.2
    exact q
theorem k_L_publishes_41 {X : Nat × (Nat × (Nat → Int32))} {I : Nat → Nat → Int32} {L : Nat → Nat → Int64} {F : Nat → Nat → UInt32} {Q : AQ} {c s : Nat} {x3 : Int32} {x4 : Int32} {x5 : Int32} {x6 : Int32} {x7 : Int32} {d8 : Option Value} {d9 : Option Value} {d10 : Option Value} {e0 : Int32} (q : ∀ s47_0 : Int32, s47_0 = (if e0 ≤ x5 then x5 else e0 : Int32) → (((¬ e0 = (-1) → vp_in e0 64 ∧ (True))) ∧ (∀ I62 : Nat → Nat → Int32, I62 = (if e0 = (-1) then I else (am_u I 499 (Int32.toNatClampNeg e0) x7) : Nat → Nat → Int32) → (WP mL_publishes 74 [some (.ref 0), some (.ref 498), some (.ref 499), some (.int x3), some (.int x4), some (.int s47_0), some (.int x6), some (.int x7), some (.int e0), some (.int 0), d10] [] (G X I62 L F) c s Q)))) : WP mL_publishes 41 [some (.ref 0), some (.ref 498), some (.ref 499), some (.int x3), some (.int x4), some (.int x5), some (.int x6), some (.int x7), d8, d9, d10] [.int e0] (G X I L F) c s Q := by
  refine w_istore rL_publishes_41 rfl trivial ?_
  refine w_iload rL_publishes_43 rfl ?_
  refine w_iload rL_publishes_45 rfl ?_
  have j47 : ∀ s47_0 : Int32, s47_0 = (if e0 ≤ x5 then x5 else e0 : Int32) → WP mL_publishes 57 [some (.ref 0), some (.ref 498), some (.ref 499), some (.int x3), some (.int x4), some (.int x5), some (.int x6), some (.int x7), some (.int e0), d9, d10] [.int s47_0] (G X I L F) c s Q := by
    intro s47_0 es47_0
    replace q := q s47_0 es47_0
    refine w_istore rL_publishes_57 rfl trivial ?_
    refine w_iload rL_publishes_59 rfl ?_
    refine w_iconst rL_publishes_61 (x := -1) (by decide) ?_
    have j62 : ∀ I62 : Nat → Nat → Int32, I62 = (if e0 = (-1) then I else (am_u I 499 (Int32.toNatClampNeg e0) x7) : Nat → Nat → Int32) → WP mL_publishes 71 [some (.ref 0), some (.ref 498), some (.ref 499), some (.int x3), some (.int x4), some (.int s47_0), some (.int x6), some (.int x7), some (.int e0), d9, d10] [] (G X I62 L F) c s Q := by
      intro I62 eI62
      replace q := q.2
      replace q := q I62 eI62
      refine w_iconst rL_publishes_71 (x := 0) (by decide) ?_
      refine w_istore rL_publishes_72 rfl trivial ?_
      exact q
    replace q := q.1
    refine w_icmpeq rL_publishes_62 (fun h62 => ?_) (fun h62 => ?_)
    · skip
      exact j62 _ (if_pos h62).symm
    · replace q := q h62
      refine w_aload_n rL_publishes_65 rfl ?_
      refine w_iload rL_publishes_66 rfl ?_
      refine w_iload rL_publishes_68 rfl ?_
      have h70 := q.1
      replace q := q.2
      refine x_iastore rL_publishes_70 (G_at (by decide) rfl rfl h70) ?_
      exact j62 _ (if_neg h62).symm
  refine w_icmple rL_publishes_47 (fun h47 => ?_) (fun h47 => ?_)
  · skip
    refine w_iload rL_publishes_55 rfl ?_
    exact j47 _ (if_pos h47).symm
  · skip
    refine w_iload rL_publishes_50 rfl ?_
    refine w_goto rL_publishes_52 ?_
    exact j47 _ (if_neg h47).symm
theorem k_L_publishes_74 {X : Nat × (Nat × (Nat → Int32))} {I : Nat → Nat → Int32} {L : Nat → Nat → Int64} {F : Nat → Nat → UInt32} {Q : AQ} {c s : Nat} {x3 : Int32} {x4 : Int32} {x5 : Int32} {x6 : Int32} {x7 : Int32} {x8 : Int32} {x9 : Int32} {d10 : Option Value} (q : (6 ≤ x9 → WP mL_publishes 28 [some (.ref 0), some (.ref 498), some (.ref 499), some (.int x3), some (.int x4), some (.int x5), some (.int x6), some (.int (x7 + 1)), some (.int x8), some (.int x9), d10] [] (G X I L F) c s Q) ∧ (¬ 6 ≤ x9 → (x8 = (-1) → WP mL_publishes 28 [some (.ref 0), some (.ref 498), some (.ref 499), some (.int x3), some (.int x4), some (.int x5), some (.int x6), some (.int (x7 + 1)), some (.int x8), some (.int x9), d10] [] (G X I L F) c s Q) ∧ (¬ x8 = (-1) → (c + 1 ≤ 100 ∧ s + 6 ≤ 600) ∧ (WP mX9_pin 0 (am_ent 3 [.ref 0, .int x8, .int x9]) [] (G X I L F) 0 0 (am_kq mL_publishes 92 [some (.ref 0), some (.ref 498), some (.ref 499), some (.int x3), some (.int x4), some (.int x5), some (.int x6), some (.int x7), some (.int x8), some (.int x9), d10] [] (c + 1) (s + 6) Q))))) : WP mL_publishes 74 [some (.ref 0), some (.ref 498), some (.ref 499), some (.int x3), some (.int x4), some (.int x5), some (.int x6), some (.int x7), some (.int x8), some (.int x9), d10] [] (G X I L F) c s Q := by
  refine w_iload rL_publishes_74 rfl ?_
  refine w_bipush rL_publishes_76 (x := 6) (by decide) ?_
  refine w_icmpge rL_publishes_78 (fun h78 => ?_) (fun h78 => ?_)
  · replace q := q.1 h78
    refine w_iinc rL_publishes_139 rfl rfl trivial ?_
    refine w_goto rL_publishes_142 ?_
    exact q
  · replace q := q.2 h78
    refine w_iload rL_publishes_81 rfl ?_
    refine w_iconst rL_publishes_83 (x := -1) (by decide) ?_
    refine w_icmpeq rL_publishes_84 (fun h84 => ?_) (fun h84 => ?_)
    · replace q := q.1 h84
      refine w_iinc rL_publishes_139 rfl rfl trivial ?_
      refine w_goto rL_publishes_142 ?_
      exact q
    · replace q := q.2 h84
      refine w_aload_n rL_publishes_87 rfl ?_
      refine w_iload rL_publishes_88 rfl ?_
      refine w_iload rL_publishes_90 rfl ?_
      refine w_invokevirtual rL_publishes_92 rfl rfl rfl (Nat.le_of_ble_eq_true rfl) ⟨trivial, trivial, trivial, trivial⟩ (G_is (by decide) rfl) q.1.1 q.1.2 ?_
      replace q := q.2
      exact q
theorem k_L_publishes_95 {X : Nat × (Nat × (Nat → Int32))} {I : Nat → Nat → Int32} {L : Nat → Nat → Int64} {F : Nat → Nat → UInt32} {Q : AQ} {c s : Nat} {x3 : Int32} {x4 : Int32} {x5 : Int32} {x6 : Int32} {x7 : Int32} {x8 : Int32} {x9 : Int32} {d10 : Option Value} {e0 : Int32} (q : (x6 = 0 → WP mL_publishes 74 [some (.ref 0), some (.ref 498), some (.ref 499), some (.int x3), some (.int x4), some (.int x5), some (.int 0), some (.int x7), some (.int x8), some (.int (x9 + 1)), some (.int e0)] [] (G X I L F) c s Q) ∧ (¬ x6 = 0 → (e0 = (-1) → WP mL_publishes 74 [some (.ref 0), some (.ref 498), some (.ref 499), some (.int x3), some (.int x4), some (.int x5), some (.int 1), some (.int x7), some (.int x8), some (.int (x9 + 1)), some (.int e0)] [] (G X I L F) c s Q) ∧ (¬ e0 = (-1) → (c + 1 ≤ 100 ∧ s + 6 ≤ 600) ∧ (WP mX9_latest 0 (am_ent 2 [.ref 0, .int x9]) [] (G X I L F) 0 0 (am_kq mL_publishes 113 [some (.ref 0), some (.ref 498), some (.ref 499), some (.int x3), some (.int x4), some (.int x5), some (.int x6), some (.int x7), some (.int x8), some (.int x9), some (.int e0)] [.int e0] (c + 1) (s + 6) Q))))) : WP mL_publishes 95 [some (.ref 0), some (.ref 498), some (.ref 499), some (.int x3), some (.int x4), some (.int x5), some (.int x6), some (.int x7), some (.int x8), some (.int x9), d10] [.int e0] (G X I L F) c s Q := by
  refine w_istore rL_publishes_95 rfl trivial ?_
  refine w_iload rL_publishes_97 rfl ?_
  refine w_ifeq rL_publishes_99 (fun h99 => ?_) (fun h99 => ?_)
  · replace q := q.1 h99
    refine w_iconst rL_publishes_130 (x := 0) (by decide) ?_
    refine w_istore rL_publishes_131 rfl trivial ?_
    refine w_iinc rL_publishes_133 rfl rfl trivial ?_
    refine w_goto rL_publishes_136 ?_
    exact q
  · replace q := q.2 h99
    refine w_iload rL_publishes_102 rfl ?_
    refine w_iconst rL_publishes_104 (x := -1) (by decide) ?_
    refine w_icmpeq rL_publishes_105 (fun h105 => ?_) (fun h105 => ?_)
    · replace q := q.1 h105
      refine w_iconst rL_publishes_126 (x := 1) (by decide) ?_
      refine w_goto rL_publishes_127 ?_
      refine w_istore rL_publishes_131 rfl trivial ?_
      refine w_iinc rL_publishes_133 rfl rfl trivial ?_
      refine w_goto rL_publishes_136 ?_
      exact q
    · replace q := q.2 h105
      refine w_iload rL_publishes_108 rfl ?_
      refine w_aload_n rL_publishes_110 rfl ?_
      refine w_iload rL_publishes_111 rfl ?_
      refine w_invokevirtual rL_publishes_113 rfl rfl rfl (Nat.le_of_ble_eq_true rfl) ⟨trivial, trivial, trivial⟩ (G_is (by decide) rfl) q.1.1 q.1.2 ?_
      replace q := q.2
      exact q
theorem k_L_publishes_116 {X : Nat × (Nat × (Nat → Int32))} {I : Nat → Nat → Int32} {L : Nat → Nat → Int64} {F : Nat → Nat → UInt32} {Q : AQ} {c s : Nat} {x3 : Int32} {x4 : Int32} {x5 : Int32} {x6 : Int32} {x7 : Int32} {x8 : Int32} {x9 : Int32} {x10 : Int32} {e0 : Int32} {e1 : Int32} (q : ∀ s116_0 : Int32, s116_0 = (if e0 = e1 then (if x8 ≤ x10 then 0 else 1 : Int32) else 0 : Int32) → (WP mL_publishes 74 [some (.ref 0), some (.ref 498), some (.ref 499), some (.int x3), some (.int x4), some (.int x5), some (.int s116_0), some (.int x7), some (.int x8), some (.int (x9 + 1)), some (.int x10)] [] (G X I L F) c s Q)) : WP mL_publishes 116 [some (.ref 0), some (.ref 498), some (.ref 499), some (.int x3), some (.int x4), some (.int x5), some (.int x6), some (.int x7), some (.int x8), some (.int x9), some (.int x10)] [.int e1, .int e0] (G X I L F) c s Q := by
  have j116 : ∀ s116_0 : Int32, s116_0 = (if e0 = e1 then (if x8 ≤ x10 then 0 else 1 : Int32) else 0 : Int32) → WP mL_publishes 131 [some (.ref 0), some (.ref 498), some (.ref 499), some (.int x3), some (.int x4), some (.int x5), some (.int x6), some (.int x7), some (.int x8), some (.int x9), some (.int x10)] [.int s116_0] (G X I L F) c s Q := by
    intro s116_0 es116_0
    replace q := q s116_0 es116_0
    refine w_istore rL_publishes_131 rfl trivial ?_
    refine w_iinc rL_publishes_133 rfl rfl trivial ?_
    refine w_goto rL_publishes_136 ?_
    exact q
  refine w_icmpne rL_publishes_116 (fun h116 => ?_) (fun h116 => ?_)
  · skip
    refine w_iconst rL_publishes_130 (x := 0) (by decide) ?_
    exact j116 _ (if_neg h116).symm
  · skip
    refine w_iload rL_publishes_119 rfl ?_
    refine w_iload rL_publishes_121 rfl ?_
    refine w_icmpge rL_publishes_123 (fun h123 => ?_) (fun h123 => ?_)
    · skip
      refine w_iconst rL_publishes_130 (x := 0) (by decide) ?_
      exact j116 _ ((if_pos h116).trans (if_pos h123)).symm
    · skip
      refine w_iconst rL_publishes_126 (x := 1) (by decide) ?_
      refine w_goto rL_publishes_127 ?_
      exact j116 _ ((if_pos h116).trans (if_neg h123)).symm
theorem k_L_publishes_162 {X : Nat × (Nat × (Nat → Int32))} {I : Nat → Nat → Int32} {L : Nat → Nat → Int64} {F : Nat → Nat → UInt32} {Q : AQ} {c s : Nat} {x3 : Int32} {x4 : Int32} {x5 : Int32} {x6 : Int32} {x7 : Int32} {d8 : Option Value} {d9 : Option Value} {d10 : Option Value} {e0 : Int32} (q : ∀ s164_0 : Int32, s164_0 = (if e0 = x4 then (if x5 < x4 then 0 else (if (x4 + 6) ≤ x5 then 0 else 1 : Int32) : Int32) else 0 : Int32) → ((s164_0 = 0 ∨ s164_0 = 1) ∧ (Q (.inl (some (.int s164_0))) (G X I L F)))) : WP mL_publishes 162 [some (.ref 0), some (.ref 498), some (.ref 499), some (.int x3), some (.int x4), some (.int x5), some (.int x6), some (.int x7), d8, d9, d10] [.int e0] (G X I L F) c s Q := by
  refine w_iload rL_publishes_162 rfl ?_
  have j164 : ∀ s164_0 : Int32, s164_0 = (if e0 = x4 then (if x5 < x4 then 0 else (if (x4 + 6) ≤ x5 then 0 else 1 : Int32) : Int32) else 0 : Int32) → WP mL_publishes 189 [some (.ref 0), some (.ref 498), some (.ref 499), some (.int x3), some (.int x4), some (.int x5), some (.int x6), some (.int x7), d8, d9, d10] [.int s164_0] (G X I L F) c s Q := by
    intro s164_0 es164_0
    replace q := q s164_0 es164_0
    have z189 := q.1
    replace q := q.2
    refine w_ireturn rL_publishes_189 z189 ?_
    exact q
  refine w_icmpne rL_publishes_164 (fun h164 => ?_) (fun h164 => ?_)
  · skip
    refine w_iconst rL_publishes_188 (x := 0) (by decide) ?_
    exact j164 _ (if_neg h164).symm
  · skip
    refine w_iload rL_publishes_167 rfl ?_
    refine w_iload rL_publishes_169 rfl ?_
    refine w_icmplt rL_publishes_171 (fun h171 => ?_) (fun h171 => ?_)
    · skip
      refine w_iconst rL_publishes_188 (x := 0) (by decide) ?_
      exact j164 _ ((if_pos h164).trans (if_pos h171)).symm
    · skip
      refine w_iload rL_publishes_174 rfl ?_
      refine w_iload rL_publishes_176 rfl ?_
      refine w_bipush rL_publishes_178 (x := 6) (by decide) ?_
      refine w_iadd rL_publishes_180 ?_
      refine w_icmpge rL_publishes_181 (fun h181 => ?_) (fun h181 => ?_)
      · skip
        refine w_iconst rL_publishes_188 (x := 0) (by decide) ?_
        exact j164 _ (((if_pos h164).trans (if_neg h171)).trans (if_pos h181)).symm
      · skip
        refine w_iconst rL_publishes_184 (x := 1) (by decide) ?_
        refine w_goto rL_publishes_185 ?_
        exact j164 _ (((if_pos h164).trans (if_neg h171)).trans (if_neg h181)).symm
theorem k_L_letters_0 {X : Nat × (Nat × (Nat → Int32))} {I : Nat → Nat → Int32} {L : Nat → Nat → Int64} {F : Nat → Nat → UInt32} {Q : AQ} {a : Int32} {b : Int32} (q : ∀ s12_0 : Int32, s12_0 = (if (f_X9_wipe I) < 0 then 99 else 0 : Int32) → (WP mL_letters 26 [some (.ref 0), some (.int a), some (.int b), some (.int 1), some (.int (a - a / 60000 * 60000)), some (.int s12_0), some (.int 0), none, none, none, none] [] (G X (fI_X9_wipe I) L F) 0 0 Q)) : WP mL_letters 0 (am_ent 11 [.ref 0, .int a, .int b]) [] (G X I L F) 0 0 Q := by
  refine w_iconst rL_letters_0 (x := 1) (by decide) ?_
  refine w_istore_n rL_letters_1 rfl trivial ?_
  refine w_iload_n rL_letters_2 rfl ?_
  refine w_ldcI rL_letters_3 (x := 60000) (by decide) ?_
  refine w_irem rL_letters_5 (by decide) ?_
  refine w_istore rL_letters_6 rfl trivial ?_
  refine w_aload_n rL_letters_8 rfl ?_
  refine w_invokevirtual rL_letters_9 rfl rfl rfl (Nat.le_of_ble_eq_true rfl) ⟨trivial, trivial⟩ (G_is (by decide) rfl) (by decide) (by decide) ?_
  refine s_X9_wipe ?_
  show WP mL_letters 12 _ _ _ 0 0 _
  have j12 : ∀ s12_0 : Int32, s12_0 = (if (f_X9_wipe I) < 0 then 99 else 0 : Int32) → WP mL_letters 21 [some (.ref 0), some (.int a), some (.int b), some (.int 1), some (.int (a - a / 60000 * 60000)), none, none, none, none, none, none] [.int s12_0] (G X (fI_X9_wipe I) L F) 0 0 Q := by
    intro s12_0 es12_0
    replace q := q s12_0 es12_0
    refine w_istore rL_letters_21 rfl trivial ?_
    refine w_iconst rL_letters_23 (x := 0) (by decide) ?_
    refine w_istore rL_letters_24 rfl trivial ?_
    exact q
  refine w_iflt rL_letters_12 (fun h12 => ?_) (fun h12 => ?_)
  · skip
    refine w_bipush rL_letters_19 (x := 99) (by decide) ?_
    exact j12 _ (if_pos h12).symm
  · skip
    refine w_iconst rL_letters_15 (x := 0) (by decide) ?_
    refine w_goto rL_letters_16 ?_
    exact j12 _ (if_neg h12).symm
theorem k_L_letters_26 {X : Nat × (Nat × (Nat → Int32))} {I : Nat → Nat → Int32} {L : Nat → Nat → Int64} {F : Nat → Nat → UInt32} {Q : AQ} {c s : Nat} {x1 : Int32} {x2 : Int32} {x3 : Int32} {x4 : Int32} {x5 : Int32} {x6 : Int32} {d7 : Option Value} {d8 : Option Value} {d9 : Option Value} {d10 : Option Value} (q : ((1 + (x2 - x2 / 12 * 12)) ≤ x6 → (x3 = 0 ∨ x3 = 1) ∧ (Q (.inl (some (.int x3))) (G X I L F))) ∧ (¬ (1 + (x2 - x2 / 12 * 12)) ≤ x6 → (x3 = 0 → (x3 = 0 ∨ x3 = 1) ∧ (Q (.inl (some (.int x3))) (G X I L F))) ∧ (¬ x3 = 0 → ∀ s66_0 : Int32, s66_0 = (if 8 ≤ (((((x4 * 37) + 5) - ((x4 * 37) + 5) / 60013 * 60013) / 3) - ((((x4 * 37) + 5) - ((x4 * 37) + 5) / 60013 * 60013) / 3) / 24 * 24) then (if 12 ≤ (((((x4 * 37) + 5) - ((x4 * 37) + 5) / 60013 * 60013) / 3) - ((((x4 * 37) + 5) - ((x4 * 37) + 5) / 60013 * 60013) / 3) / 24 * 24) then (if 15 ≤ (((((x4 * 37) + 5) - ((x4 * 37) + 5) / 60013 * 60013) / 3) - ((((x4 * 37) + 5) - ((x4 * 37) + 5) / 60013 * 60013) / 3) / 24 * 24) then (if 18 ≤ (((((x4 * 37) + 5) - ((x4 * 37) + 5) / 60013 * 60013) / 3) - ((((x4 * 37) + 5) - ((x4 * 37) + 5) / 60013 * 60013) / 3) / 24 * 24) then (if (((((x4 * 37) + 5) - ((x4 * 37) + 5) / 60013 * 60013) / 3) - ((((x4 * 37) + 5) - ((x4 * 37) + 5) / 60013 * 60013) / 3) / 24 * 24) = 18 then 44 else (if (((((x4 * 37) + 5) - ((x4 * 37) + 5) / 60013 * 60013) / 3) - ((((x4 * 37) + 5) - ((x4 * 37) + 5) / 60013 * 60013) / 3) / 24 * 24) = 19 then 46 else (if (((((x4 * 37) + 5) - ((x4 * 37) + 5) / 60013 * 60013) / 3) - ((((x4 * 37) + 5) - ((x4 * 37) + 5) / 60013 * 60013) / 3) / 24 * 24) = 20 then 43 else (if (((((x4 * 37) + 5) - ((x4 * 37) + 5) / 60013 * 60013) / 3) - ((((x4 * 37) + 5) - ((x4 * 37) + 5) / 60013 * 60013) / 3) / 24 * 24) = 21 then 42 else (if (((((x4 * 37) + 5) - ((x4 * 37) + 5) / 60013 * 60013) / 3) - ((((x4 * 37) + 5) - ((x4 * 37) + 5) / 60013 * 60013) / 3) / 24 * 24) = 22 then 47 else 45 : Int32) : Int32) : Int32) : Int32) : Int32) else 41 : Int32) else 40 : Int32) else ((48 + (((((x4 * 37) + 5) - ((x4 * 37) + 5) / 60013 * 60013) / 3) - ((((x4 * 37) + 5) - ((x4 * 37) + 5) / 60013 * 60013) / 3) / 24 * 24)) - 8) : Int32) else (103 + ((((((x4 * 37) + 5) - ((x4 * 37) + 5) / 60013 * 60013) / 3) - ((((x4 * 37) + 5) - ((x4 * 37) + 5) / 60013 * 60013) / 3) / 24 * 24) * 2)) : Int32) → ((c + 0 ≤ 20 ∧ s + 0 ≤ 120) ∧ (WP mX9_fault 0 (am_ent 2 [.ref 0, .int 0]) [] (G X I L F) 0 0 (am_kq mL_letters 187 [some (.ref 0), some (.int x1), some (.int x2), some (.int x3), some (.int (((x4 * 37) + 5) - ((x4 * 37) + 5) / 60013 * 60013)), some (.int x5), some (.int x6), some (.int (((((x4 * 37) + 5) - ((x4 * 37) + 5) / 60013 * 60013) / 3) - ((((x4 * 37) + 5) - ((x4 * 37) + 5) / 60013 * 60013) / 3) / 24 * 24)), some (.int s66_0), d9, d10] [] (c + 0) (s + 0) Q)))))) : WP mL_letters 26 [some (.ref 0), some (.int x1), some (.int x2), some (.int x3), some (.int x4), some (.int x5), some (.int x6), d7, d8, d9, d10] [] (G X I L F) c s Q := by
  refine w_iload rL_letters_26 rfl ?_
  refine w_iconst rL_letters_28 (x := 1) (by decide) ?_
  refine w_iload_n rL_letters_29 rfl ?_
  refine w_bipush rL_letters_30 (x := 12) (by decide) ?_
  refine w_irem rL_letters_32 (by decide) ?_
  refine w_iadd rL_letters_33 ?_
  refine w_icmpge rL_letters_34 (fun h34 => ?_) (fun h34 => ?_)
  · replace q := q.1 h34
    refine w_iload_n rL_letters_256 rfl ?_
    have z257 := q.1
    replace q := q.2
    refine w_ireturn rL_letters_257 z257 ?_
    exact q
  · replace q := q.2 h34
    refine w_iload_n rL_letters_37 rfl ?_
    refine w_ifeq rL_letters_38 (fun h38 => ?_) (fun h38 => ?_)
    · replace q := q.1 h38
      refine w_iload_n rL_letters_256 rfl ?_
      have z257 := q.1
      replace q := q.2
      refine w_ireturn rL_letters_257 z257 ?_
      exact q
    · replace q := q.2 h38
      refine w_iload rL_letters_41 rfl ?_
      refine w_bipush rL_letters_43 (x := 37) (by decide) ?_
      refine w_imul rL_letters_45 ?_
      refine w_iconst rL_letters_46 (x := 5) (by decide) ?_
      refine w_iadd rL_letters_47 ?_
      refine w_ldcI rL_letters_48 (x := 60013) (by decide) ?_
      refine w_irem rL_letters_50 (by decide) ?_
      refine w_istore rL_letters_51 rfl trivial ?_
      refine w_iload rL_letters_53 rfl ?_
      refine w_iconst rL_letters_55 (x := 3) (by decide) ?_
      refine w_idiv rL_letters_56 (by decide) ?_
      refine w_bipush rL_letters_57 (x := 24) (by decide) ?_
      refine w_irem rL_letters_59 (by decide) ?_
      refine w_istore rL_letters_60 rfl trivial ?_
      refine w_iload rL_letters_62 rfl ?_
      refine w_bipush rL_letters_64 (x := 8) (by decide) ?_
      have j66 : ∀ s66_0 : Int32, s66_0 = (if 8 ≤ (((((x4 * 37) + 5) - ((x4 * 37) + 5) / 60013 * 60013) / 3) - ((((x4 * 37) + 5) - ((x4 * 37) + 5) / 60013 * 60013) / 3) / 24 * 24) then (if 12 ≤ (((((x4 * 37) + 5) - ((x4 * 37) + 5) / 60013 * 60013) / 3) - ((((x4 * 37) + 5) - ((x4 * 37) + 5) / 60013 * 60013) / 3) / 24 * 24) then (if 15 ≤ (((((x4 * 37) + 5) - ((x4 * 37) + 5) / 60013 * 60013) / 3) - ((((x4 * 37) + 5) - ((x4 * 37) + 5) / 60013 * 60013) / 3) / 24 * 24) then (if 18 ≤ (((((x4 * 37) + 5) - ((x4 * 37) + 5) / 60013 * 60013) / 3) - ((((x4 * 37) + 5) - ((x4 * 37) + 5) / 60013 * 60013) / 3) / 24 * 24) then (if (((((x4 * 37) + 5) - ((x4 * 37) + 5) / 60013 * 60013) / 3) - ((((x4 * 37) + 5) - ((x4 * 37) + 5) / 60013 * 60013) / 3) / 24 * 24) = 18 then 44 else (if (((((x4 * 37) + 5) - ((x4 * 37) + 5) / 60013 * 60013) / 3) - ((((x4 * 37) + 5) - ((x4 * 37) + 5) / 60013 * 60013) / 3) / 24 * 24) = 19 then 46 else (if (((((x4 * 37) + 5) - ((x4 * 37) + 5) / 60013 * 60013) / 3) - ((((x4 * 37) + 5) - ((x4 * 37) + 5) / 60013 * 60013) / 3) / 24 * 24) = 20 then 43 else (if (((((x4 * 37) + 5) - ((x4 * 37) + 5) / 60013 * 60013) / 3) - ((((x4 * 37) + 5) - ((x4 * 37) + 5) / 60013 * 60013) / 3) / 24 * 24) = 21 then 42 else (if (((((x4 * 37) + 5) - ((x4 * 37) + 5) / 60013 * 60013) / 3) - ((((x4 * 37) + 5) - ((x4 * 37) + 5) / 60013 * 60013) / 3) / 24 * 24) = 22 then 47 else 45 : Int32) : Int32) : Int32) : Int32) : Int32) else 41 : Int32) else 40 : Int32) else ((48 + (((((x4 * 37) + 5) - ((x4 * 37) + 5) / 60013 * 60013) / 3) - ((((x4 * 37) + 5) - ((x4 * 37) + 5) / 60013 * 60013) / 3) / 24 * 24)) - 8) : Int32) else (103 + ((((((x4 * 37) + 5) - ((x4 * 37) + 5) / 60013 * 60013) / 3) - ((((x4 * 37) + 5) - ((x4 * 37) + 5) / 60013 * 60013) / 3) / 24 * 24) * 2)) : Int32) → WP mL_letters 183 [some (.ref 0), some (.int x1), some (.int x2), some (.int x3), some (.int (((x4 * 37) + 5) - ((x4 * 37) + 5) / 60013 * 60013)), some (.int x5), some (.int x6), some (.int (((((x4 * 37) + 5) - ((x4 * 37) + 5) / 60013 * 60013) / 3) - ((((x4 * 37) + 5) - ((x4 * 37) + 5) / 60013 * 60013) / 3) / 24 * 24)), d8, d9, d10] [.int s66_0] (G X I L F) c s Q := by
        intro s66_0 es66_0
        replace q := q s66_0 es66_0
        refine w_istore rL_letters_183 rfl trivial ?_
        refine w_aload_n rL_letters_185 rfl ?_
        refine w_iconst rL_letters_186 (x := 0) (by decide) ?_
        refine w_invokevirtual rL_letters_187 rfl rfl rfl (Nat.le_of_ble_eq_true rfl) ⟨trivial, trivial, trivial⟩ (G_is (by decide) rfl) q.1.1 q.1.2 ?_
        replace q := q.2
        exact q
      refine w_icmpge rL_letters_66 (fun h66 => ?_) (fun h66 => ?_)
      · skip
        refine w_iload rL_letters_79 rfl ?_
        refine w_bipush rL_letters_81 (x := 12) (by decide) ?_
        refine w_icmpge rL_letters_83 (fun h83 => ?_) (fun h83 => ?_)
        · skip
          refine w_iload rL_letters_97 rfl ?_
          refine w_bipush rL_letters_99 (x := 15) (by decide) ?_
          refine w_icmpge rL_letters_101 (fun h101 => ?_) (fun h101 => ?_)
          · skip
            refine w_iload rL_letters_109 rfl ?_
            refine w_bipush rL_letters_111 (x := 18) (by decide) ?_
            refine w_icmpge rL_letters_113 (fun h113 => ?_) (fun h113 => ?_)
            · skip
              refine w_iload rL_letters_121 rfl ?_
              refine w_bipush rL_letters_123 (x := 18) (by decide) ?_
              refine w_icmpne rL_letters_125 (fun h125 => ?_) (fun h125 => ?_)
              · skip
                refine w_iload rL_letters_133 rfl ?_
                refine w_bipush rL_letters_135 (x := 19) (by decide) ?_
                refine w_icmpne rL_letters_137 (fun h137 => ?_) (fun h137 => ?_)
                · skip
                  refine w_iload rL_letters_145 rfl ?_
                  refine w_bipush rL_letters_147 (x := 20) (by decide) ?_
                  refine w_icmpne rL_letters_149 (fun h149 => ?_) (fun h149 => ?_)
                  · skip
                    refine w_iload rL_letters_157 rfl ?_
                    refine w_bipush rL_letters_159 (x := 21) (by decide) ?_
                    refine w_icmpne rL_letters_161 (fun h161 => ?_) (fun h161 => ?_)
                    · skip
                      refine w_iload rL_letters_169 rfl ?_
                      refine w_bipush rL_letters_171 (x := 22) (by decide) ?_
                      refine w_icmpne rL_letters_173 (fun h173 => ?_) (fun h173 => ?_)
                      · skip
                        refine w_bipush rL_letters_181 (x := 45) (by decide) ?_
                        exact j66 _ (((((((((if_pos h66).trans (if_pos h83)).trans (if_pos h101)).trans (if_pos h113)).trans (if_neg h125)).trans (if_neg h137)).trans (if_neg h149)).trans (if_neg h161)).trans (if_neg h173)).symm
                      · skip
                        refine w_bipush rL_letters_176 (x := 47) (by decide) ?_
                        refine w_goto rL_letters_178 ?_
                        exact j66 _ (((((((((if_pos h66).trans (if_pos h83)).trans (if_pos h101)).trans (if_pos h113)).trans (if_neg h125)).trans (if_neg h137)).trans (if_neg h149)).trans (if_neg h161)).trans (if_pos h173)).symm
                    · skip
                      refine w_bipush rL_letters_164 (x := 42) (by decide) ?_
                      refine w_goto rL_letters_166 ?_
                      exact j66 _ ((((((((if_pos h66).trans (if_pos h83)).trans (if_pos h101)).trans (if_pos h113)).trans (if_neg h125)).trans (if_neg h137)).trans (if_neg h149)).trans (if_pos h161)).symm
                  · skip
                    refine w_bipush rL_letters_152 (x := 43) (by decide) ?_
                    refine w_goto rL_letters_154 ?_
                    exact j66 _ (((((((if_pos h66).trans (if_pos h83)).trans (if_pos h101)).trans (if_pos h113)).trans (if_neg h125)).trans (if_neg h137)).trans (if_pos h149)).symm
                · skip
                  refine w_bipush rL_letters_140 (x := 46) (by decide) ?_
                  refine w_goto rL_letters_142 ?_
                  exact j66 _ ((((((if_pos h66).trans (if_pos h83)).trans (if_pos h101)).trans (if_pos h113)).trans (if_neg h125)).trans (if_pos h137)).symm
              · skip
                refine w_bipush rL_letters_128 (x := 44) (by decide) ?_
                refine w_goto rL_letters_130 ?_
                exact j66 _ (((((if_pos h66).trans (if_pos h83)).trans (if_pos h101)).trans (if_pos h113)).trans (if_pos h125)).symm
            · skip
              refine w_bipush rL_letters_116 (x := 41) (by decide) ?_
              refine w_goto rL_letters_118 ?_
              exact j66 _ ((((if_pos h66).trans (if_pos h83)).trans (if_pos h101)).trans (if_neg h113)).symm
          · skip
            refine w_bipush rL_letters_104 (x := 40) (by decide) ?_
            refine w_goto rL_letters_106 ?_
            exact j66 _ (((if_pos h66).trans (if_pos h83)).trans (if_neg h101)).symm
        · skip
          refine w_bipush rL_letters_86 (x := 48) (by decide) ?_
          refine w_iload rL_letters_88 rfl ?_
          refine w_iadd rL_letters_90 ?_
          refine w_bipush rL_letters_91 (x := 8) (by decide) ?_
          refine w_isub rL_letters_93 ?_
          refine w_goto rL_letters_94 ?_
          exact j66 _ ((if_pos h66).trans (if_neg h83)).symm
      · skip
        refine w_bipush rL_letters_69 (x := 103) (by decide) ?_
        refine w_iload rL_letters_71 rfl ?_
        refine w_iconst rL_letters_73 (x := 2) (by decide) ?_
        refine w_imul rL_letters_74 ?_
        refine w_iadd rL_letters_75 ?_
        refine w_goto rL_letters_76 ?_
        exact j66 _ (if_neg h66).symm
theorem k_L_letters_190 {X : Nat × (Nat × (Nat → Int32))} {I : Nat → Nat → Int32} {L : Nat → Nat → Int64} {F : Nat → Nat → UInt32} {Q : AQ} {c s : Nat} {x1 : Int32} {x2 : Int32} {x3 : Int32} {x4 : Int32} {x5 : Int32} {x6 : Int32} {x7 : Int32} {x8 : Int32} {d9 : Option Value} {d10 : Option Value} {e0 : Int32} (q : (c + 0 ≤ 20 ∧ s + 0 ≤ 120) ∧ (WP mX9_fault 0 (am_ent 2 [.ref 0, .int 1]) [] (G X I L F) 0 0 (am_kq mL_letters 194 [some (.ref 0), some (.int x1), some (.int x2), some (.int x3), some (.int x4), some (.int x5), some (.int x6), some (.int x7), some (.int x8), some (.int e0), d10] [] (c + 0) (s + 0) Q))) : WP mL_letters 190 [some (.ref 0), some (.int x1), some (.int x2), some (.int x3), some (.int x4), some (.int x5), some (.int x6), some (.int x7), some (.int x8), d9, d10] [.int e0] (G X I L F) c s Q := by
  refine w_istore rL_letters_190 rfl trivial ?_
  refine w_aload_n rL_letters_192 rfl ?_
  refine w_iconst rL_letters_193 (x := 1) (by decide) ?_
  refine w_invokevirtual rL_letters_194 rfl rfl rfl (Nat.le_of_ble_eq_true rfl) ⟨trivial, trivial, trivial⟩ (G_is (by decide) rfl) q.1.1 q.1.2 ?_
  replace q := q.2
  exact q
theorem k_L_letters_197 {X : Nat × (Nat × (Nat → Int32))} {I : Nat → Nat → Int32} {L : Nat → Nat → Int64} {F : Nat → Nat → UInt32} {Q : AQ} {c s : Nat} {x1 : Int32} {x2 : Int32} {x3 : Int32} {x4 : Int32} {x5 : Int32} {x6 : Int32} {x7 : Int32} {x8 : Int32} {x9 : Int32} {d10 : Option Value} {e0 : Int32} (q : (c + 1 ≤ 20 ∧ s + 6 ≤ 120) ∧ (WP mX9_type 0 (am_ent 2 [.ref 0, .int (UInt32.toInt32 ((Int32.toUInt32 x8) % 65536))]) [] (G X I L F) 0 0 (am_kq mL_letters 206 [some (.ref 0), some (.int x1), some (.int x2), some (.int x3), some (.int x4), some (.int (x5 + 1)), some (.int x6), some (.int x7), some (.int x8), some (.int x9), some (.int e0)] [] (c + 1) (s + 6) Q))) : WP mL_letters 197 [some (.ref 0), some (.int x1), some (.int x2), some (.int x3), some (.int x4), some (.int x5), some (.int x6), some (.int x7), some (.int x8), some (.int x9), d10] [.int e0] (G X I L F) c s Q := by
  refine w_istore rL_letters_197 rfl trivial ?_
  refine w_iinc rL_letters_199 rfl rfl trivial ?_
  refine w_aload_n rL_letters_202 rfl ?_
  refine w_iload rL_letters_203 rfl ?_
  refine w_i2c rL_letters_205 ?_
  refine w_invokevirtual rL_letters_206 rfl rfl rfl (Nat.le_of_ble_eq_true rfl) ⟨trivial, trivial, trivial⟩ (G_is (by decide) rfl) q.1.1 q.1.2 ?_
  replace q := q.2
  exact q
theorem k_L_letters_209 {X : Nat × (Nat × (Nat → Int32))} {I : Nat → Nat → Int32} {L : Nat → Nat → Int64} {F : Nat → Nat → UInt32} {Q : AQ} {c s : Nat} {x1 : Int32} {x2 : Int32} {x3 : Int32} {x4 : Int32} {x5 : Int32} {x6 : Int32} {x7 : Int32} {x8 : Int32} {x9 : Int32} {x10 : Int32} {e0 : Int32} (q : (e0 = x5 → (c + 0 ≤ 20 ∧ s + 0 ≤ 120) ∧ (WP mX9_fault 0 (am_ent 2 [.ref 0, .int 0]) [] (G X I L F) 0 0 (am_kq mL_letters 218 [some (.ref 0), some (.int x1), some (.int x2), some (.int x3), some (.int x4), some (.int x5), some (.int x6), some (.int x7), some (.int x8), some (.int x9), some (.int x10)] [.int x9] (c + 0) (s + 0) Q))) ∧ (¬ e0 = x5 → WP mL_letters 26 [some (.ref 0), some (.int x1), some (.int x2), some (.int 0), some (.int x4), some (.int x5), some (.int (x6 + 1)), some (.int x7), some (.int x8), some (.int x9), some (.int x10)] [] (G X I L F) c s Q)) : WP mL_letters 209 [some (.ref 0), some (.int x1), some (.int x2), some (.int x3), some (.int x4), some (.int x5), some (.int x6), some (.int x7), some (.int x8), some (.int x9), some (.int x10)] [.int e0] (G X I L F) c s Q := by
  refine w_iload rL_letters_209 rfl ?_
  refine w_icmpne rL_letters_211 (fun h211 => ?_) (fun h211 => ?_)
  · replace q := q.2 h211
    refine w_iconst rL_letters_248 (x := 0) (by decide) ?_
    refine w_istore_n rL_letters_249 rfl trivial ?_
    refine w_iinc rL_letters_250 rfl rfl trivial ?_
    refine w_goto rL_letters_253 ?_
    exact q
  · replace q := q.1 h211
    refine w_iload rL_letters_214 rfl ?_
    refine w_aload_n rL_letters_216 rfl ?_
    refine w_iconst rL_letters_217 (x := 0) (by decide) ?_
    refine w_invokevirtual rL_letters_218 rfl rfl rfl (Nat.le_of_ble_eq_true rfl) ⟨trivial, trivial, trivial⟩ (G_is (by decide) rfl) q.1.1 q.1.2 ?_
    replace q := q.2
    exact q
theorem k_L_letters_221 {X : Nat × (Nat × (Nat → Int32))} {I : Nat → Nat → Int32} {L : Nat → Nat → Int64} {F : Nat → Nat → UInt32} {Q : AQ} {c s : Nat} {x1 : Int32} {x2 : Int32} {x3 : Int32} {x4 : Int32} {x5 : Int32} {x6 : Int32} {x7 : Int32} {x8 : Int32} {x9 : Int32} {x10 : Int32} {e0 : Int32} {e1 : Int32} (q : (c ≤ 20 ∧ s ≤ 120) ∧ (((f_L_follows e0 e1 x5) = 0 → WP mL_letters 26 [some (.ref 0), some (.int x1), some (.int x2), some (.int 0), some (.int x4), some (.int x5), some (.int (x6 + 1)), some (.int x7), some (.int x8), some (.int x9), some (.int x10)] [] (G X I L F) c s Q) ∧ (¬ (f_L_follows e0 e1 x5) = 0 → (c + 0 ≤ 20 ∧ s + 0 ≤ 120) ∧ (WP mX9_fault 0 (am_ent 2 [.ref 0, .int 1]) [] (G X I L F) 0 0 (am_kq mL_letters 233 [some (.ref 0), some (.int x1), some (.int x2), some (.int x3), some (.int x4), some (.int x5), some (.int x6), some (.int x7), some (.int x8), some (.int x9), some (.int x10)] [.int x10] (c + 0) (s + 0) Q))))) : WP mL_letters 221 [some (.ref 0), some (.int x1), some (.int x2), some (.int x3), some (.int x4), some (.int x5), some (.int x6), some (.int x7), some (.int x8), some (.int x9), some (.int x10)] [.int e1, .int e0] (G X I L F) c s Q := by
  refine w_iload rL_letters_221 rfl ?_
  have bd223 := q.1
  replace q := q.2
  refine w_invokestatic rL_letters_223 rfl rfl rfl (Nat.le_of_ble_eq_true rfl) ⟨trivial, trivial, trivial, trivial⟩ trivial bd223.1 bd223.2 ?_
  refine s_L_follows ?_
  show WP mL_letters 226 _ _ _ c s _
  refine w_ifeq rL_letters_226 (fun h226 => ?_) (fun h226 => ?_)
  · replace q := q.1 h226
    refine w_iconst rL_letters_248 (x := 0) (by decide) ?_
    refine w_istore_n rL_letters_249 rfl trivial ?_
    refine w_iinc rL_letters_250 rfl rfl trivial ?_
    refine w_goto rL_letters_253 ?_
    exact q
  · replace q := q.2 h226
    refine w_iload rL_letters_229 rfl ?_
    refine w_aload_n rL_letters_231 rfl ?_
    refine w_iconst rL_letters_232 (x := 1) (by decide) ?_
    refine w_invokevirtual rL_letters_233 rfl rfl rfl (Nat.le_of_ble_eq_true rfl) ⟨trivial, trivial, trivial⟩ (G_is (by decide) rfl) q.1.1 q.1.2 ?_
    replace q := q.2
    exact q
theorem k_L_letters_236 {X : Nat × (Nat × (Nat → Int32))} {I : Nat → Nat → Int32} {L : Nat → Nat → Int64} {F : Nat → Nat → UInt32} {Q : AQ} {c s : Nat} {x1 : Int32} {x2 : Int32} {x3 : Int32} {x4 : Int32} {x5 : Int32} {x6 : Int32} {x7 : Int32} {x8 : Int32} {x9 : Int32} {x10 : Int32} {e0 : Int32} {e1 : Int32} (q : (c ≤ 20 ∧ s ≤ 120) ∧ (∀ s241_0 : Int32, s241_0 = (if (f_L_follows e0 e1 x5) = 0 then 0 else 1 : Int32) → (WP mL_letters 26 [some (.ref 0), some (.int x1), some (.int x2), some (.int s241_0), some (.int x4), some (.int x5), some (.int (x6 + 1)), some (.int x7), some (.int x8), some (.int x9), some (.int x10)] [] (G X I L F) c s Q))) : WP mL_letters 236 [some (.ref 0), some (.int x1), some (.int x2), some (.int x3), some (.int x4), some (.int x5), some (.int x6), some (.int x7), some (.int x8), some (.int x9), some (.int x10)] [.int e1, .int e0] (G X I L F) c s Q := by
  refine w_iload rL_letters_236 rfl ?_
  have bd238 := q.1
  replace q := q.2
  refine w_invokestatic rL_letters_238 rfl rfl rfl (Nat.le_of_ble_eq_true rfl) ⟨trivial, trivial, trivial, trivial⟩ trivial bd238.1 bd238.2 ?_
  refine s_L_follows ?_
  show WP mL_letters 241 _ _ _ c s _
  have j241 : ∀ s241_0 : Int32, s241_0 = (if (f_L_follows e0 e1 x5) = 0 then 0 else 1 : Int32) → WP mL_letters 249 [some (.ref 0), some (.int x1), some (.int x2), some (.int x3), some (.int x4), some (.int x5), some (.int x6), some (.int x7), some (.int x8), some (.int x9), some (.int x10)] [.int s241_0] (G X I L F) c s Q := by
    intro s241_0 es241_0
    replace q := q s241_0 es241_0
    refine w_istore_n rL_letters_249 rfl trivial ?_
    refine w_iinc rL_letters_250 rfl rfl trivial ?_
    refine w_goto rL_letters_253 ?_
    exact q
  refine w_ifeq rL_letters_241 (fun h241 => ?_) (fun h241 => ?_)
  · skip
    refine w_iconst rL_letters_248 (x := 0) (by decide) ?_
    exact j241 _ (if_pos h241).symm
  · skip
    refine w_iconst rL_letters_244 (x := 1) (by decide) ?_
    refine w_goto rL_letters_245 ?_
    exact j241 _ (if_neg h241).symm
theorem k_L_ofRetire_0 {X : Nat × (Nat × (Nat → Int32))} {I : Nat → Nat → Int32} {L : Nat → Nat → Int64} {F : Nat → Nat → UInt32} {Q : AQ} {model : Int32} (q : WP mX9_retire 0 (am_ent 2 [.ref 0, .int model]) [] (G X I L F) 0 0 (am_kq mL_ofRetire 2 [some (.ref 0), some (.int model), none] [] 1 6 Q)) : WP mL_ofRetire 0 (am_ent 3 [.ref 0, .int model]) [] (G X I L F) 0 0 Q := by
  refine w_aload_n rL_ofRetire_0 rfl ?_
  refine w_iload_n rL_ofRetire_1 rfl ?_
  refine w_invokevirtual rL_ofRetire_2 rfl rfl rfl (Nat.le_of_ble_eq_true rfl) ⟨trivial, trivial, trivial⟩ (G_is (by decide) rfl) (by decide) (by decide) ?_
  exact q
theorem k_L_ofRetire_5 {X : Nat × (Nat × (Nat → Int32))} {I : Nat → Nat → Int32} {L : Nat → Nat → Int64} {F : Nat → Nat → UInt32} {Q : AQ} {c s : Nat} {x1 : Int32} {e0 : Int32} (q : Q (.inl (some (.int e0))) (G X I L F)) : WP mL_ofRetire 5 [some (.ref 0), some (.int x1), none] [.int e0] (G X I L F) c s Q := by
  refine w_ireturn rL_ofRetire_5 trivial ?_
  exact q
theorem k_L_ofRetire_7 {X : Nat × (Nat × (Nat → Int32))} {I : Nat → Nat → Int32} {L : Nat → Nat → Int64} {F : Nat → Nat → UInt32} {Q : AQ} {c s : Nat} {x1 : Int32} (q : Q (.inl (some (.int (-2)))) (G X I L F)) : WP mL_ofRetire 7 [some (.ref 0), some (.int x1), none] [] (G X I L F) c s Q := by
  refine w_bipush rL_ofRetire_7 (x := -2) (by decide) ?_
  refine w_ireturn rL_ofRetire_9 trivial ?_
  exact q
theorem k_L_isNamed_0 {X : Nat × (Nat × (Nat → Int32))} {I : Nat → Nat → Int32} {L : Nat → Nat → Int64} {F : Nat → Nat → UInt32} {Q : AQ} {model : Int32} (q : WP mL_isNamed 4 [some (.ref 0), some (.int model), some (.int 0), some (.int 0)] [] (G X I L F) 0 0 Q) : WP mL_isNamed 0 (am_ent 4 [.ref 0, .int model]) [] (G X I L F) 0 0 Q := by
  refine w_iconst rL_isNamed_0 (x := 0) (by decide) ?_
  refine w_istore_n rL_isNamed_1 rfl trivial ?_
  refine w_iconst rL_isNamed_2 (x := 0) (by decide) ?_
  refine w_istore_n rL_isNamed_3 rfl trivial ?_
  exact q
theorem k_L_isNamed_4 {X : Nat × (Nat × (Nat → Int32))} {I : Nat → Nat → Int32} {L : Nat → Nat → Int64} {F : Nat → Nat → UInt32} {Q : AQ} {c s : Nat} {x1 : Int32} {x2 : Int32} {x3 : Int32} (q : (6 ≤ x3 → (x2 = 0 ∨ x2 = 1) ∧ (Q (.inl (some (.int x2))) (G X I L F))) ∧ (¬ 6 ≤ x3 → (x2 = 0 → (c + 1 ≤ 30 ∧ s + 6 ≤ 180) ∧ (WP mX9_latest 0 (am_ent 2 [.ref 0, .int x3]) [] (G X I L F) 0 0 (am_kq mL_isNamed 16 [some (.ref 0), some (.int x1), some (.int x2), some (.int x3)] [] (c + 1) (s + 6) Q))) ∧ (¬ x2 = 0 → WP mL_isNamed 4 [some (.ref 0), some (.int x1), some (.int 1), some (.int (x3 + 1))] [] (G X I L F) c s Q))) : WP mL_isNamed 4 [some (.ref 0), some (.int x1), some (.int x2), some (.int x3)] [] (G X I L F) c s Q := by
  refine w_iload_n rL_isNamed_4 rfl ?_
  refine w_bipush rL_isNamed_5 (x := 6) (by decide) ?_
  refine w_icmpge rL_isNamed_7 (fun h7 => ?_) (fun h7 => ?_)
  · replace q := q.1 h7
    refine w_iload_n rL_isNamed_49 rfl ?_
    have z50 := q.1
    replace q := q.2
    refine w_ireturn rL_isNamed_50 z50 ?_
    exact q
  · replace q := q.2 h7
    refine w_iload_n rL_isNamed_10 rfl ?_
    refine w_ifne rL_isNamed_11 (fun h11 => ?_) (fun h11 => ?_)
    · replace q := q.2 h11
      refine w_iconst rL_isNamed_37 (x := 1) (by decide) ?_
      refine w_goto rL_isNamed_38 ?_
      refine w_istore_n rL_isNamed_42 rfl trivial ?_
      refine w_iinc rL_isNamed_43 rfl rfl trivial ?_
      refine w_goto rL_isNamed_46 ?_
      exact q
    · replace q := q.1 h11
      refine w_aload_n rL_isNamed_14 rfl ?_
      refine w_iload_n rL_isNamed_15 rfl ?_
      refine w_invokevirtual rL_isNamed_16 rfl rfl rfl (Nat.le_of_ble_eq_true rfl) ⟨trivial, trivial, trivial⟩ (G_is (by decide) rfl) q.1.1 q.1.2 ?_
      replace q := q.2
      exact q
theorem k_L_isNamed_19 {X : Nat × (Nat × (Nat → Int32))} {I : Nat → Nat → Int32} {L : Nat → Nat → Int64} {F : Nat → Nat → UInt32} {Q : AQ} {c s : Nat} {x1 : Int32} {x2 : Int32} {x3 : Int32} {e0 : Int32} (q : (e0 = (-1) → WP mL_isNamed 4 [some (.ref 0), some (.int x1), some (.int 0), some (.int (x3 + 1))] [] (G X I L F) c s Q) ∧ (¬ e0 = (-1) → (c + 1 ≤ 30 ∧ s + 6 ≤ 180) ∧ (WP mX9_latest 0 (am_ent 2 [.ref 0, .int x3]) [] (G X I L F) 0 0 (am_kq mL_isNamed 26 [some (.ref 0), some (.int x1), some (.int x2), some (.int x3)] [.ref 0] (c + 1) (s + 6) Q)))) : WP mL_isNamed 19 [some (.ref 0), some (.int x1), some (.int x2), some (.int x3)] [.int e0] (G X I L F) c s Q := by
  refine w_iconst rL_isNamed_19 (x := -1) (by decide) ?_
  refine w_icmpeq rL_isNamed_20 (fun h20 => ?_) (fun h20 => ?_)
  · replace q := q.1 h20
    refine w_iconst rL_isNamed_41 (x := 0) (by decide) ?_
    refine w_istore_n rL_isNamed_42 rfl trivial ?_
    refine w_iinc rL_isNamed_43 rfl rfl trivial ?_
    refine w_goto rL_isNamed_46 ?_
    exact q
  · replace q := q.2 h20
    refine w_aload_n rL_isNamed_23 rfl ?_
    refine w_aload_n rL_isNamed_24 rfl ?_
    refine w_iload_n rL_isNamed_25 rfl ?_
    refine w_invokevirtual rL_isNamed_26 rfl rfl rfl (Nat.le_of_ble_eq_true rfl) ⟨trivial, trivial, trivial⟩ (G_is (by decide) rfl) q.1.1 q.1.2 ?_
    replace q := q.2
    exact q
theorem k_L_isNamed_29 {X : Nat × (Nat × (Nat → Int32))} {I : Nat → Nat → Int32} {L : Nat → Nat → Int64} {F : Nat → Nat → UInt32} {Q : AQ} {c s : Nat} {x1 : Int32} {x2 : Int32} {x3 : Int32} {e1 : Int32} (q : (c + 1 ≤ 30 ∧ s + 6 ≤ 180) ∧ (WP mX9_pin 0 (am_ent 3 [.ref 0, .int e1, .int x1]) [] (G X I L F) 0 0 (am_kq mL_isNamed 30 [some (.ref 0), some (.int x1), some (.int x2), some (.int x3)] [] (c + 1) (s + 6) Q))) : WP mL_isNamed 29 [some (.ref 0), some (.int x1), some (.int x2), some (.int x3)] [.int e1, .ref 0] (G X I L F) c s Q := by
  refine w_iload_n rL_isNamed_29 rfl ?_
  refine w_invokevirtual rL_isNamed_30 rfl rfl rfl (Nat.le_of_ble_eq_true rfl) ⟨trivial, trivial, trivial, trivial⟩ (G_is (by decide) rfl) q.1.1 q.1.2 ?_
  replace q := q.2
  exact q
theorem k_L_isNamed_33 {X : Nat × (Nat × (Nat → Int32))} {I : Nat → Nat → Int32} {L : Nat → Nat → Int64} {F : Nat → Nat → UInt32} {Q : AQ} {c s : Nat} {x1 : Int32} {x2 : Int32} {x3 : Int32} {e0 : Int32} (q : ∀ s34_0 : Int32, s34_0 = (if e0 = (-1) then 0 else 1 : Int32) → (WP mL_isNamed 4 [some (.ref 0), some (.int x1), some (.int s34_0), some (.int (x3 + 1))] [] (G X I L F) c s Q)) : WP mL_isNamed 33 [some (.ref 0), some (.int x1), some (.int x2), some (.int x3)] [.int e0] (G X I L F) c s Q := by
  refine w_iconst rL_isNamed_33 (x := -1) (by decide) ?_
  have j34 : ∀ s34_0 : Int32, s34_0 = (if e0 = (-1) then 0 else 1 : Int32) → WP mL_isNamed 42 [some (.ref 0), some (.int x1), some (.int x2), some (.int x3)] [.int s34_0] (G X I L F) c s Q := by
    intro s34_0 es34_0
    replace q := q s34_0 es34_0
    refine w_istore_n rL_isNamed_42 rfl trivial ?_
    refine w_iinc rL_isNamed_43 rfl rfl trivial ?_
    refine w_goto rL_isNamed_46 ?_
    exact q
  refine w_icmpeq rL_isNamed_34 (fun h34 => ?_) (fun h34 => ?_)
  · skip
    refine w_iconst rL_isNamed_41 (x := 0) (by decide) ?_
    exact j34 _ (if_pos h34).symm
  · skip
    refine w_iconst rL_isNamed_37 (x := 1) (by decide) ?_
    refine w_goto rL_isNamed_38 ?_
    exact j34 _ (if_neg h34).symm
theorem k_L_rules_0 {X : Nat × (Nat × (Nat → Int32))} {I : Nat → Nat → Int32} {L : Nat → Nat → Int64} {F : Nat → Nat → UInt32} {Q : AQ} {dam : Int32} {a : Int32} {b : Int32} (q : ∀ s4_0 : Int32, s4_0 = (if (f_X9_wipe I) < 0 then 0 else 1 : Int32) → (∀ s17_0 : Int32, s17_0 = (if (a - a / 4 * 4) = 0 then 108 else (if (a - a / 4 * 4) = 1 then 102 else (if (a - a / 4 * 4) = 2 then 114 else 104 : Int32) : Int32) : Int32) → (∀ s56_0 : Int32, s56_0 = (if (b - b / 4 * 4) = 0 then 43 else (if (b - b / 4 * 4) = 1 then 45 else (if (b - b / 4 * 4) = 2 then 42 else 47 : Int32) : Int32) : Int32) → ((s4_0 = 0 → WP mX9_rule 0 (am_ent 3 [.ref 0, .int dam]) [] (G X (fI_X9_wipe I) L F) 0 0 (am_kq mL_rules 175 [some (.ref 0), some (.int dam), some (.int a), some (.int b), some (.int 0), some (.int s17_0), some (.int s56_0)] [] 1 6 Q)) ∧ (¬ s4_0 = 0 → WP mX9_type 0 (am_ent 2 [.ref 0, .int (UInt32.toInt32 ((Int32.toUInt32 s17_0) % 65536))]) [] (G X (fI_X9_wipe I) L F) 0 0 (am_kq mL_rules 101 [some (.ref 0), some (.int dam), some (.int a), some (.int b), some (.int s4_0), some (.int s17_0), some (.int s56_0)] [] 1 6 Q)))))) : WP mL_rules 0 (am_ent 7 [.ref 0, .int dam, .int a, .int b]) [] (G X I L F) 0 0 Q := by
  refine w_aload_n rL_rules_0 rfl ?_
  refine w_invokevirtual rL_rules_1 rfl rfl rfl (Nat.le_of_ble_eq_true rfl) ⟨trivial, trivial⟩ (G_is (by decide) rfl) (by decide) (by decide) ?_
  refine s_X9_wipe ?_
  show WP mL_rules 4 _ _ _ 0 0 _
  have j4 : ∀ s4_0 : Int32, s4_0 = (if (f_X9_wipe I) < 0 then 0 else 1 : Int32) → WP mL_rules 12 [some (.ref 0), some (.int dam), some (.int a), some (.int b), none, none, none] [.int s4_0] (G X (fI_X9_wipe I) L F) 0 0 Q := by
    intro s4_0 es4_0
    replace q := q s4_0 es4_0
    refine w_istore rL_rules_12 rfl trivial ?_
    refine w_iload_n rL_rules_14 rfl ?_
    refine w_iconst rL_rules_15 (x := 4) (by decide) ?_
    refine w_irem rL_rules_16 (by decide) ?_
    have j17 : ∀ s17_0 : Int32, s17_0 = (if (a - a / 4 * 4) = 0 then 108 else (if (a - a / 4 * 4) = 1 then 102 else (if (a - a / 4 * 4) = 2 then 114 else 104 : Int32) : Int32) : Int32) → WP mL_rules 51 [some (.ref 0), some (.int dam), some (.int a), some (.int b), some (.int s4_0), none, none] [.int s17_0] (G X (fI_X9_wipe I) L F) 0 0 Q := by
      intro s17_0 es17_0
      replace q := q s17_0 es17_0
      refine w_istore rL_rules_51 rfl trivial ?_
      refine w_iload_n rL_rules_53 rfl ?_
      refine w_iconst rL_rules_54 (x := 4) (by decide) ?_
      refine w_irem rL_rules_55 (by decide) ?_
      have j56 : ∀ s56_0 : Int32, s56_0 = (if (b - b / 4 * 4) = 0 then 43 else (if (b - b / 4 * 4) = 1 then 45 else (if (b - b / 4 * 4) = 2 then 42 else 47 : Int32) : Int32) : Int32) → WP mL_rules 90 [some (.ref 0), some (.int dam), some (.int a), some (.int b), some (.int s4_0), some (.int s17_0), none] [.int s56_0] (G X (fI_X9_wipe I) L F) 0 0 Q := by
        intro s56_0 es56_0
        replace q := q s56_0 es56_0
        refine w_istore rL_rules_90 rfl trivial ?_
        refine w_iload rL_rules_92 rfl ?_
        refine w_ifeq rL_rules_94 (fun h94 => ?_) (fun h94 => ?_)
        · replace q := q.1 h94
          refine w_iconst rL_rules_170 (x := 0) (by decide) ?_
          refine w_istore rL_rules_171 rfl trivial ?_
          refine w_aload_n rL_rules_173 rfl ?_
          refine w_iload_n rL_rules_174 rfl ?_
          refine w_invokevirtual rL_rules_175 rfl rfl rfl (Nat.le_of_ble_eq_true rfl) ⟨trivial, trivial, trivial⟩ (G_is (by decide) rfl) (by decide) (by decide) ?_
          exact q
        · replace q := q.2 h94
          refine w_aload_n rL_rules_97 rfl ?_
          refine w_iload rL_rules_98 rfl ?_
          refine w_i2c rL_rules_100 ?_
          refine w_invokevirtual rL_rules_101 rfl rfl rfl (Nat.le_of_ble_eq_true rfl) ⟨trivial, trivial, trivial⟩ (G_is (by decide) rfl) (by decide) (by decide) ?_
          exact q
      refine w_ifne rL_rules_56 (fun h56 => ?_) (fun h56 => ?_)
      · skip
        refine w_iload_n rL_rules_64 rfl ?_
        refine w_iconst rL_rules_65 (x := 4) (by decide) ?_
        refine w_irem rL_rules_66 (by decide) ?_
        refine w_iconst rL_rules_67 (x := 1) (by decide) ?_
        refine w_icmpne rL_rules_68 (fun h68 => ?_) (fun h68 => ?_)
        · skip
          refine w_iload_n rL_rules_76 rfl ?_
          refine w_iconst rL_rules_77 (x := 4) (by decide) ?_
          refine w_irem rL_rules_78 (by decide) ?_
          refine w_iconst rL_rules_79 (x := 2) (by decide) ?_
          refine w_icmpne rL_rules_80 (fun h80 => ?_) (fun h80 => ?_)
          · skip
            refine w_bipush rL_rules_88 (x := 47) (by decide) ?_
            exact j56 _ (((if_neg h56).trans (if_neg h68)).trans (if_neg h80)).symm
          · skip
            refine w_bipush rL_rules_83 (x := 42) (by decide) ?_
            refine w_goto rL_rules_85 ?_
            exact j56 _ (((if_neg h56).trans (if_neg h68)).trans (if_pos h80)).symm
        · skip
          refine w_bipush rL_rules_71 (x := 45) (by decide) ?_
          refine w_goto rL_rules_73 ?_
          exact j56 _ ((if_neg h56).trans (if_pos h68)).symm
      · skip
        refine w_bipush rL_rules_59 (x := 43) (by decide) ?_
        refine w_goto rL_rules_61 ?_
        exact j56 _ (if_pos h56).symm
    refine w_ifne rL_rules_17 (fun h17 => ?_) (fun h17 => ?_)
    · skip
      refine w_iload_n rL_rules_25 rfl ?_
      refine w_iconst rL_rules_26 (x := 4) (by decide) ?_
      refine w_irem rL_rules_27 (by decide) ?_
      refine w_iconst rL_rules_28 (x := 1) (by decide) ?_
      refine w_icmpne rL_rules_29 (fun h29 => ?_) (fun h29 => ?_)
      · skip
        refine w_iload_n rL_rules_37 rfl ?_
        refine w_iconst rL_rules_38 (x := 4) (by decide) ?_
        refine w_irem rL_rules_39 (by decide) ?_
        refine w_iconst rL_rules_40 (x := 2) (by decide) ?_
        refine w_icmpne rL_rules_41 (fun h41 => ?_) (fun h41 => ?_)
        · skip
          refine w_bipush rL_rules_49 (x := 104) (by decide) ?_
          exact j17 _ (((if_neg h17).trans (if_neg h29)).trans (if_neg h41)).symm
        · skip
          refine w_bipush rL_rules_44 (x := 114) (by decide) ?_
          refine w_goto rL_rules_46 ?_
          exact j17 _ (((if_neg h17).trans (if_neg h29)).trans (if_pos h41)).symm
      · skip
        refine w_bipush rL_rules_32 (x := 102) (by decide) ?_
        refine w_goto rL_rules_34 ?_
        exact j17 _ ((if_neg h17).trans (if_pos h29)).symm
    · skip
      refine w_bipush rL_rules_20 (x := 108) (by decide) ?_
      refine w_goto rL_rules_22 ?_
      exact j17 _ (if_pos h17).symm
  refine w_iflt rL_rules_4 (fun h4 => ?_) (fun h4 => ?_)
  · skip
    refine w_iconst rL_rules_11 (x := 0) (by decide) ?_
    exact j4 _ (if_pos h4).symm
  · skip
    refine w_iconst rL_rules_7 (x := 1) (by decide) ?_
    refine w_goto rL_rules_8 ?_
    exact j4 _ (if_neg h4).symm
theorem k_L_rules_104 {X : Nat × (Nat × (Nat → Int32))} {I : Nat → Nat → Int32} {L : Nat → Nat → Int64} {F : Nat → Nat → UInt32} {Q : AQ} {c s : Nat} {x1 : Int32} {x2 : Int32} {x3 : Int32} {x4 : Int32} {x5 : Int32} {x6 : Int32} {e0 : Int32} (q : (e0 = 1 → (c + 1 ≤ 10 ∧ s + 6 ≤ 60) ∧ (WP mX9_type 0 (am_ent 2 [.ref 0, .int (UInt32.toInt32 ((Int32.toUInt32 x6) % 65536))]) [] (G X I L F) 0 0 (am_kq mL_rules 112 [some (.ref 0), some (.int x1), some (.int x2), some (.int x3), some (.int x4), some (.int x5), some (.int x6)] [] (c + 1) (s + 6) Q))) ∧ (¬ e0 = 1 → (c + 1 ≤ 10 ∧ s + 6 ≤ 60) ∧ (WP mX9_rule 0 (am_ent 3 [.ref 0, .int x1]) [] (G X I L F) 0 0 (am_kq mL_rules 175 [some (.ref 0), some (.int x1), some (.int x2), some (.int x3), some (.int 0), some (.int x5), some (.int x6)] [] (c + 1) (s + 6) Q)))) : WP mL_rules 104 [some (.ref 0), some (.int x1), some (.int x2), some (.int x3), some (.int x4), some (.int x5), some (.int x6)] [.int e0] (G X I L F) c s Q := by
  refine w_iconst rL_rules_104 (x := 1) (by decide) ?_
  refine w_icmpne rL_rules_105 (fun h105 => ?_) (fun h105 => ?_)
  · replace q := q.2 h105
    refine w_iconst rL_rules_170 (x := 0) (by decide) ?_
    refine w_istore rL_rules_171 rfl trivial ?_
    refine w_aload_n rL_rules_173 rfl ?_
    refine w_iload_n rL_rules_174 rfl ?_
    refine w_invokevirtual rL_rules_175 rfl rfl rfl (Nat.le_of_ble_eq_true rfl) ⟨trivial, trivial, trivial⟩ (G_is (by decide) rfl) q.1.1 q.1.2 ?_
    replace q := q.2
    exact q
  · replace q := q.1 h105
    refine w_aload_n rL_rules_108 rfl ?_
    refine w_iload rL_rules_109 rfl ?_
    refine w_i2c rL_rules_111 ?_
    refine w_invokevirtual rL_rules_112 rfl rfl rfl (Nat.le_of_ble_eq_true rfl) ⟨trivial, trivial, trivial⟩ (G_is (by decide) rfl) q.1.1 q.1.2 ?_
    replace q := q.2
    exact q
theorem k_L_rules_115 {X : Nat × (Nat × (Nat → Int32))} {I : Nat → Nat → Int32} {L : Nat → Nat → Int64} {F : Nat → Nat → UInt32} {Q : AQ} {c s : Nat} {x1 : Int32} {x2 : Int32} {x3 : Int32} {x4 : Int32} {x5 : Int32} {x6 : Int32} {e0 : Int32} (q : (e0 = 2 → (c + 1 ≤ 10 ∧ s + 6 ≤ 60) ∧ (WP mX9_type 0 (am_ent 2 [.ref 0, .int (UInt32.toInt32 ((Int32.toUInt32 (48 + ((x2 / 4) - (x2 / 4) / 10 * 10))) % 65536))]) [] (G X I L F) 0 0 (am_kq mL_rules 130 [some (.ref 0), some (.int x1), some (.int x2), some (.int x3), some (.int x4), some (.int x5), some (.int x6)] [] (c + 1) (s + 6) Q))) ∧ (¬ e0 = 2 → (c + 1 ≤ 10 ∧ s + 6 ≤ 60) ∧ (WP mX9_rule 0 (am_ent 3 [.ref 0, .int x1]) [] (G X I L F) 0 0 (am_kq mL_rules 175 [some (.ref 0), some (.int x1), some (.int x2), some (.int x3), some (.int 0), some (.int x5), some (.int x6)] [] (c + 1) (s + 6) Q)))) : WP mL_rules 115 [some (.ref 0), some (.int x1), some (.int x2), some (.int x3), some (.int x4), some (.int x5), some (.int x6)] [.int e0] (G X I L F) c s Q := by
  refine w_iconst rL_rules_115 (x := 2) (by decide) ?_
  refine w_icmpne rL_rules_116 (fun h116 => ?_) (fun h116 => ?_)
  · replace q := q.2 h116
    refine w_iconst rL_rules_170 (x := 0) (by decide) ?_
    refine w_istore rL_rules_171 rfl trivial ?_
    refine w_aload_n rL_rules_173 rfl ?_
    refine w_iload_n rL_rules_174 rfl ?_
    refine w_invokevirtual rL_rules_175 rfl rfl rfl (Nat.le_of_ble_eq_true rfl) ⟨trivial, trivial, trivial⟩ (G_is (by decide) rfl) q.1.1 q.1.2 ?_
    replace q := q.2
    exact q
  · replace q := q.1 h116
    refine w_aload_n rL_rules_119 rfl ?_
    refine w_bipush rL_rules_120 (x := 48) (by decide) ?_
    refine w_iload_n rL_rules_122 rfl ?_
    refine w_iconst rL_rules_123 (x := 4) (by decide) ?_
    refine w_idiv rL_rules_124 (by decide) ?_
    refine w_bipush rL_rules_125 (x := 10) (by decide) ?_
    refine w_irem rL_rules_127 (by decide) ?_
    refine w_iadd rL_rules_128 ?_
    refine w_i2c rL_rules_129 ?_
    refine w_invokevirtual rL_rules_130 rfl rfl rfl (Nat.le_of_ble_eq_true rfl) ⟨trivial, trivial, trivial⟩ (G_is (by decide) rfl) q.1.1 q.1.2 ?_
    replace q := q.2
    exact q
theorem k_L_rules_133 {X : Nat × (Nat × (Nat → Int32))} {I : Nat → Nat → Int32} {L : Nat → Nat → Int64} {F : Nat → Nat → UInt32} {Q : AQ} {c s : Nat} {x1 : Int32} {x2 : Int32} {x3 : Int32} {x4 : Int32} {x5 : Int32} {x6 : Int32} {e0 : Int32} (q : (e0 = 3 → (c + 0 ≤ 10 ∧ s + 0 ≤ 60) ∧ (WP mX9_fault 0 (am_ent 2 [.ref 0, .int 1]) [] (G X I L F) 0 0 (am_kq mL_rules 139 [some (.ref 0), some (.int x1), some (.int x2), some (.int x3), some (.int x4), some (.int x5), some (.int x6)] [] (c + 0) (s + 0) Q))) ∧ (¬ e0 = 3 → (c + 1 ≤ 10 ∧ s + 6 ≤ 60) ∧ (WP mX9_rule 0 (am_ent 3 [.ref 0, .int x1]) [] (G X I L F) 0 0 (am_kq mL_rules 175 [some (.ref 0), some (.int x1), some (.int x2), some (.int x3), some (.int 0), some (.int x5), some (.int x6)] [] (c + 1) (s + 6) Q)))) : WP mL_rules 133 [some (.ref 0), some (.int x1), some (.int x2), some (.int x3), some (.int x4), some (.int x5), some (.int x6)] [.int e0] (G X I L F) c s Q := by
  refine w_iconst rL_rules_133 (x := 3) (by decide) ?_
  refine w_icmpne rL_rules_134 (fun h134 => ?_) (fun h134 => ?_)
  · replace q := q.2 h134
    refine w_iconst rL_rules_170 (x := 0) (by decide) ?_
    refine w_istore rL_rules_171 rfl trivial ?_
    refine w_aload_n rL_rules_173 rfl ?_
    refine w_iload_n rL_rules_174 rfl ?_
    refine w_invokevirtual rL_rules_175 rfl rfl rfl (Nat.le_of_ble_eq_true rfl) ⟨trivial, trivial, trivial⟩ (G_is (by decide) rfl) q.1.1 q.1.2 ?_
    replace q := q.2
    exact q
  · replace q := q.1 h134
    refine w_aload_n rL_rules_137 rfl ?_
    refine w_iconst rL_rules_138 (x := 1) (by decide) ?_
    refine w_invokevirtual rL_rules_139 rfl rfl rfl (Nat.le_of_ble_eq_true rfl) ⟨trivial, trivial, trivial⟩ (G_is (by decide) rfl) q.1.1 q.1.2 ?_
    replace q := q.2
    exact q
theorem k_L_rules_142 {X : Nat × (Nat × (Nat → Int32))} {I : Nat → Nat → Int32} {L : Nat → Nat → Int64} {F : Nat → Nat → UInt32} {Q : AQ} {c s : Nat} {x1 : Int32} {x2 : Int32} {x3 : Int32} {x4 : Int32} {x5 : Int32} {x6 : Int32} {e0 : Int32} (q : (e0 = (-1) → (c + 0 ≤ 10 ∧ s + 0 ≤ 60) ∧ (WP mX9_fault 0 (am_ent 2 [.ref 0, .int 0]) [] (G X I L F) 0 0 (am_kq mL_rules 148 [some (.ref 0), some (.int x1), some (.int x2), some (.int x3), some (.int x4), some (.int x5), some (.int x6)] [] (c + 0) (s + 0) Q))) ∧ (¬ e0 = (-1) → (c + 1 ≤ 10 ∧ s + 6 ≤ 60) ∧ (WP mX9_rule 0 (am_ent 3 [.ref 0, .int x1]) [] (G X I L F) 0 0 (am_kq mL_rules 175 [some (.ref 0), some (.int x1), some (.int x2), some (.int x3), some (.int 0), some (.int x5), some (.int x6)] [] (c + 1) (s + 6) Q)))) : WP mL_rules 142 [some (.ref 0), some (.int x1), some (.int x2), some (.int x3), some (.int x4), some (.int x5), some (.int x6)] [.int e0] (G X I L F) c s Q := by
  refine w_iconst rL_rules_142 (x := -1) (by decide) ?_
  refine w_icmpne rL_rules_143 (fun h143 => ?_) (fun h143 => ?_)
  · replace q := q.2 h143
    refine w_iconst rL_rules_170 (x := 0) (by decide) ?_
    refine w_istore rL_rules_171 rfl trivial ?_
    refine w_aload_n rL_rules_173 rfl ?_
    refine w_iload_n rL_rules_174 rfl ?_
    refine w_invokevirtual rL_rules_175 rfl rfl rfl (Nat.le_of_ble_eq_true rfl) ⟨trivial, trivial, trivial⟩ (G_is (by decide) rfl) q.1.1 q.1.2 ?_
    replace q := q.2
    exact q
  · replace q := q.1 h143
    refine w_aload_n rL_rules_146 rfl ?_
    refine w_iconst rL_rules_147 (x := 0) (by decide) ?_
    refine w_invokevirtual rL_rules_148 rfl rfl rfl (Nat.le_of_ble_eq_true rfl) ⟨trivial, trivial, trivial⟩ (G_is (by decide) rfl) q.1.1 q.1.2 ?_
    replace q := q.2
    exact q
theorem k_L_rules_151 {X : Nat × (Nat × (Nat → Int32))} {I : Nat → Nat → Int32} {L : Nat → Nat → Int64} {F : Nat → Nat → UInt32} {Q : AQ} {c s : Nat} {x1 : Int32} {x2 : Int32} {x3 : Int32} {x4 : Int32} {x5 : Int32} {x6 : Int32} {e0 : Int32} (q : ∀ s155_1 : Int32, s155_1 = (if (x2 - x2 / 4 * 4) = 3 then (-1) else 0 : Int32) → (∀ s163_0 : Int32, s163_0 = (if e0 = s155_1 then 1 else 0 : Int32) → ((c + 1 ≤ 10 ∧ s + 6 ≤ 60) ∧ (WP mX9_rule 0 (am_ent 3 [.ref 0, .int x1]) [] (G X I L F) 0 0 (am_kq mL_rules 175 [some (.ref 0), some (.int x1), some (.int x2), some (.int x3), some (.int s163_0), some (.int x5), some (.int x6)] [] (c + 1) (s + 6) Q))))) : WP mL_rules 151 [some (.ref 0), some (.int x1), some (.int x2), some (.int x3), some (.int x4), some (.int x5), some (.int x6)] [.int e0] (G X I L F) c s Q := by
  refine w_iload_n rL_rules_151 rfl ?_
  refine w_iconst rL_rules_152 (x := 4) (by decide) ?_
  refine w_irem rL_rules_153 (by decide) ?_
  refine w_iconst rL_rules_154 (x := 3) (by decide) ?_
  have j155 : ∀ s155_1 : Int32, s155_1 = (if (x2 - x2 / 4 * 4) = 3 then (-1) else 0 : Int32) → WP mL_rules 163 [some (.ref 0), some (.int x1), some (.int x2), some (.int x3), some (.int x4), some (.int x5), some (.int x6)] [.int s155_1, .int e0] (G X I L F) c s Q := by
    intro s155_1 es155_1
    replace q := q s155_1 es155_1
    have j163 : ∀ s163_0 : Int32, s163_0 = (if e0 = s155_1 then 1 else 0 : Int32) → WP mL_rules 171 [some (.ref 0), some (.int x1), some (.int x2), some (.int x3), some (.int x4), some (.int x5), some (.int x6)] [.int s163_0] (G X I L F) c s Q := by
      intro s163_0 es163_0
      replace q := q s163_0 es163_0
      refine w_istore rL_rules_171 rfl trivial ?_
      refine w_aload_n rL_rules_173 rfl ?_
      refine w_iload_n rL_rules_174 rfl ?_
      refine w_invokevirtual rL_rules_175 rfl rfl rfl (Nat.le_of_ble_eq_true rfl) ⟨trivial, trivial, trivial⟩ (G_is (by decide) rfl) q.1.1 q.1.2 ?_
      replace q := q.2
      exact q
    refine w_icmpne rL_rules_163 (fun h163 => ?_) (fun h163 => ?_)
    · skip
      refine w_iconst rL_rules_170 (x := 0) (by decide) ?_
      exact j163 _ (if_neg h163).symm
    · skip
      refine w_iconst rL_rules_166 (x := 1) (by decide) ?_
      refine w_goto rL_rules_167 ?_
      exact j163 _ (if_pos h163).symm
  refine w_icmpne rL_rules_155 (fun h155 => ?_) (fun h155 => ?_)
  · skip
    refine w_iconst rL_rules_162 (x := 0) (by decide) ?_
    exact j155 _ (if_neg h155).symm
  · skip
    refine w_iconst rL_rules_158 (x := -1) (by decide) ?_
    refine w_goto rL_rules_159 ?_
    exact j155 _ (if_pos h155).symm
theorem k_L_rules_178 {X : Nat × (Nat × (Nat → Int32))} {I : Nat → Nat → Int32} {L : Nat → Nat → Int64} {F : Nat → Nat → UInt32} {Q : AQ} {c s : Nat} {x1 : Int32} {x2 : Int32} {x3 : Int32} {x4 : Int32} {x5 : Int32} {x6 : Int32} (q : (x4 = 0 ∨ x4 = 1) ∧ (Q (.inl (some (.int x4))) (G X I L F))) : WP mL_rules 178 [some (.ref 0), some (.int x1), some (.int x2), some (.int x3), some (.int x4), some (.int x5), some (.int x6)] [] (G X I L F) c s Q := by
  refine w_iload rL_rules_178 rfl ?_
  have z180 := q.1
  replace q := q.2
  refine w_ireturn rL_rules_180 z180 ?_
  exact q
theorem k_L_runs_0 {X : Nat × (Nat × (Nat → Int32))} {I : Nat → Nat → Int32} {L : Nat → Nat → Int64} {F : Nat → Nat → UInt32} {Q : AQ} {model : Int32} {hours : Int32} (q : WP mX9_latest 0 (am_ent 2 [.ref 0, .int model]) [] (G X (am_u I 498 1 ((I 498 1) + 1)) L F) 0 0 (am_kq mL_runs 17 [some (.ref 0), some (.ref 498), some (.ref 500), some (.int model), some (.int hours), some (.int (I 498 1)), none] [.int (I 498 1), .ref 500] 1 6 Q)) : WP mL_runs 0 (am_ent 7 [.ref 0, .ref 498, .ref 500, .int model, .int hours]) [] (G X I L F) 0 0 Q := by
  refine w_aload_n rL_runs_0 rfl ?_
  refine w_iconst rL_runs_1 (x := 1) (by decide) ?_
  refine xl_iaload rL_runs_2 (G_at (by decide) rfl rfl (by unfold vp_in; decide)) (i := 1) (by decide) ?_
  refine w_istore rL_runs_3 rfl trivial ?_
  refine w_aload_n rL_runs_5 rfl ?_
  refine w_iconst rL_runs_6 (x := 1) (by decide) ?_
  refine w_dup2 rL_runs_7 trivial trivial ?_
  refine xl_iaload rL_runs_8 (G_at (by decide) rfl rfl (by unfold vp_in; decide)) (i := 1) (by decide) ?_
  refine w_iconst rL_runs_9 (x := 1) (by decide) ?_
  refine w_iadd rL_runs_10 ?_
  refine xl_iastore rL_runs_11 (G_at (by decide) rfl rfl (by unfold vp_in; decide)) (i := 1) (by decide) ?_
  refine w_aload_n rL_runs_12 rfl ?_
  refine w_iload rL_runs_13 rfl ?_
  refine w_aload_n rL_runs_15 rfl ?_
  refine w_iload_n rL_runs_16 rfl ?_
  refine w_invokevirtual rL_runs_17 rfl rfl rfl (Nat.le_of_ble_eq_true rfl) ⟨trivial, trivial, trivial⟩ (G_is (by decide) rfl) (by decide) (by decide) ?_
  exact q
theorem k_L_runs_20 {X : Nat × (Nat × (Nat → Int32))} {I : Nat → Nat → Int32} {L : Nat → Nat → Int64} {F : Nat → Nat → UInt32} {Q : AQ} {c s : Nat} {x3 : Int32} {x4 : Int32} {x5 : Int32} {e1 : Int32} {e2 : Int32} (q : vp_in e1 48 ∧ (vp_in (12 + x5) 48 ∧ (vp_in (24 + x5) 48 ∧ ((c + 1 ≤ 100 ∧ s + 6 ≤ 600) ∧ (WP mX9_run 0 (am_ent 4 [.ref 0, .int x3, .int x4]) [] (G X (am_u (am_u (am_u I 500 (Int32.toNatClampNeg e1) e2) 500 (Int32.toNatClampNeg (12 + x5)) (I 498 0)) 500 (Int32.toNatClampNeg (24 + x5)) ((I 498 0) + x4)) L F) 0 0 (am_kq mL_runs 48 [some (.ref 0), some (.ref 498), some (.ref 500), some (.int x3), some (.int x4), some (.int x5), none] [] (c + 1) (s + 6) Q)))))) : WP mL_runs 20 [some (.ref 0), some (.ref 498), some (.ref 500), some (.int x3), some (.int x4), some (.int x5), none] [.int e2, .int e1, .ref 500] (G X I L F) c s Q := by
  have h20 := q.1
  replace q := q.2
  refine x_iastore rL_runs_20 (G_at (by decide) rfl rfl h20) ?_
  refine w_aload_n rL_runs_21 rfl ?_
  refine w_bipush rL_runs_22 (x := 12) (by decide) ?_
  refine w_iload rL_runs_24 rfl ?_
  refine w_iadd rL_runs_26 ?_
  refine w_aload_n rL_runs_27 rfl ?_
  refine w_iconst rL_runs_28 (x := 0) (by decide) ?_
  refine xl_iaload rL_runs_29 (G_at (by decide) rfl rfl (by unfold vp_in; decide)) (i := 0) (by decide) ?_
  rw [au_ne (f := I) (o := 500) (k := (Int32.toNatClampNeg e1)) (a := 498) (b := 0) (fun z => absurd z.1 (by decide))]
  have h30 := q.1
  replace q := q.2
  refine x_iastore rL_runs_30 (G_at (by decide) rfl rfl h30) ?_
  refine w_aload_n rL_runs_31 rfl ?_
  refine w_bipush rL_runs_32 (x := 24) (by decide) ?_
  refine w_iload rL_runs_34 rfl ?_
  refine w_iadd rL_runs_36 ?_
  refine w_aload_n rL_runs_37 rfl ?_
  refine w_iconst rL_runs_38 (x := 0) (by decide) ?_
  refine xl_iaload rL_runs_39 (G_at (by decide) rfl rfl (by unfold vp_in; decide)) (i := 0) (by decide) ?_
  rw [au_ne (f := (am_u I 500 (Int32.toNatClampNeg e1) e2)) (o := 500) (k := (Int32.toNatClampNeg (12 + x5))) (a := 498) (b := 0) (fun z => absurd z.1 (by decide))]
  rw [au_ne (f := I) (o := 500) (k := (Int32.toNatClampNeg e1)) (a := 498) (b := 0) (fun z => absurd z.1 (by decide))]
  refine w_iload rL_runs_40 rfl ?_
  refine w_iadd rL_runs_42 ?_
  have h43 := q.1
  replace q := q.2
  refine x_iastore rL_runs_43 (G_at (by decide) rfl rfl h43) ?_
  refine w_aload_n rL_runs_44 rfl ?_
  refine w_iload_n rL_runs_45 rfl ?_
  refine w_iload rL_runs_46 rfl ?_
  refine w_invokevirtual rL_runs_48 rfl rfl rfl (Nat.le_of_ble_eq_true rfl) ⟨trivial, trivial, trivial, trivial⟩ (G_is (by decide) rfl) q.1.1 q.1.2 ?_
  replace q := q.2
  exact q
theorem k_L_runs_51 {X : Nat × (Nat × (Nat → Int32))} {I : Nat → Nat → Int32} {L : Nat → Nat → Int64} {F : Nat → Nat → UInt32} {Q : AQ} {c s : Nat} {x3 : Int32} {x4 : Int32} {x5 : Int32} {e0 : Int32} (q : (e0 = x5 → (c + 1 ≤ 100 ∧ s + 6 ≤ 600) ∧ (WP mX9_why 0 (am_ent 2 [.ref 0, .int x5]) [] (G X I L F) 0 0 (am_kq mL_runs 59 [some (.ref 0), some (.ref 498), some (.ref 500), some (.int x3), some (.int x4), some (.int x5), none] [] (c + 1) (s + 6) Q))) ∧ (¬ e0 = x5 → (c + 1 ≤ 100 ∧ s + 6 ≤ 600) ∧ (WP mX9_peak 0 (am_ent 2 [.ref 0, .int x5]) [] (G X I L F) 0 0 (am_kq mL_runs 96 [some (.ref 0), some (.ref 498), some (.ref 500), some (.int x3), some (.int x4), some (.int x5), some (.int 0)] [.int (36 + x5), .ref 500] (c + 1) (s + 6) Q)))) : WP mL_runs 51 [some (.ref 0), some (.ref 498), some (.ref 500), some (.int x3), some (.int x4), some (.int x5), none] [.int e0] (G X I L F) c s Q := by
  refine w_iload rL_runs_51 rfl ?_
  refine w_icmpne rL_runs_53 (fun h53 => ?_) (fun h53 => ?_)
  · replace q := q.2 h53
    refine w_iconst rL_runs_84 (x := 0) (by decide) ?_
    refine w_istore rL_runs_85 rfl trivial ?_
    refine w_aload_n rL_runs_87 rfl ?_
    refine w_bipush rL_runs_88 (x := 36) (by decide) ?_
    refine w_iload rL_runs_90 rfl ?_
    refine w_iadd rL_runs_92 ?_
    refine w_aload_n rL_runs_93 rfl ?_
    refine w_iload rL_runs_94 rfl ?_
    refine w_invokevirtual rL_runs_96 rfl rfl rfl (Nat.le_of_ble_eq_true rfl) ⟨trivial, trivial, trivial⟩ (G_is (by decide) rfl) q.1.1 q.1.2 ?_
    replace q := q.2
    exact q
  · replace q := q.1 h53
    refine w_aload_n rL_runs_56 rfl ?_
    refine w_iload rL_runs_57 rfl ?_
    refine w_invokevirtual rL_runs_59 rfl rfl rfl (Nat.le_of_ble_eq_true rfl) ⟨trivial, trivial, trivial⟩ (G_is (by decide) rfl) q.1.1 q.1.2 ?_
    replace q := q.2
    exact q
theorem k_L_runs_62 {X : Nat × (Nat × (Nat → Int32))} {I : Nat → Nat → Int32} {L : Nat → Nat → Int64} {F : Nat → Nat → UInt32} {Q : AQ} {c s : Nat} {x3 : Int32} {x4 : Int32} {x5 : Int32} {e0 : Int32} (q : (e0 = 0 → (c + 1 ≤ 100 ∧ s + 6 ≤ 600) ∧ (WP mX9_peak 0 (am_ent 2 [.ref 0, .int x5]) [] (G X I L F) 0 0 (am_kq mL_runs 68 [some (.ref 0), some (.ref 498), some (.ref 500), some (.int x3), some (.int x4), some (.int x5), none] [] (c + 1) (s + 6) Q))) ∧ (¬ e0 = 0 → (c + 1 ≤ 100 ∧ s + 6 ≤ 600) ∧ (WP mX9_peak 0 (am_ent 2 [.ref 0, .int x5]) [] (G X I L F) 0 0 (am_kq mL_runs 96 [some (.ref 0), some (.ref 498), some (.ref 500), some (.int x3), some (.int x4), some (.int x5), some (.int 0)] [.int (36 + x5), .ref 500] (c + 1) (s + 6) Q)))) : WP mL_runs 62 [some (.ref 0), some (.ref 498), some (.ref 500), some (.int x3), some (.int x4), some (.int x5), none] [.int e0] (G X I L F) c s Q := by
  refine w_ifne rL_runs_62 (fun h62 => ?_) (fun h62 => ?_)
  · replace q := q.2 h62
    refine w_iconst rL_runs_84 (x := 0) (by decide) ?_
    refine w_istore rL_runs_85 rfl trivial ?_
    refine w_aload_n rL_runs_87 rfl ?_
    refine w_bipush rL_runs_88 (x := 36) (by decide) ?_
    refine w_iload rL_runs_90 rfl ?_
    refine w_iadd rL_runs_92 ?_
    refine w_aload_n rL_runs_93 rfl ?_
    refine w_iload rL_runs_94 rfl ?_
    refine w_invokevirtual rL_runs_96 rfl rfl rfl (Nat.le_of_ble_eq_true rfl) ⟨trivial, trivial, trivial⟩ (G_is (by decide) rfl) q.1.1 q.1.2 ?_
    replace q := q.2
    exact q
  · replace q := q.1 h62
    refine w_aload_n rL_runs_65 rfl ?_
    refine w_iload rL_runs_66 rfl ?_
    refine w_invokevirtual rL_runs_68 rfl rfl rfl (Nat.le_of_ble_eq_true rfl) ⟨trivial, trivial, trivial⟩ (G_is (by decide) rfl) q.1.1 q.1.2 ?_
    replace q := q.2
    exact q
theorem k_L_runs_71 {X : Nat × (Nat × (Nat → Int32))} {I : Nat → Nat → Int32} {L : Nat → Nat → Int64} {F : Nat → Nat → UInt32} {Q : AQ} {c s : Nat} {x3 : Int32} {x4 : Int32} {x5 : Int32} {e0 : Int32} (q : (c + 1 ≤ 100 ∧ s + 6 ≤ 600) ∧ (WP mX9_peakAnew 0 (am_ent 3 [.ref 0, .int x5]) [] (G X I L F) 0 0 (am_kq mL_runs 74 [some (.ref 0), some (.ref 498), some (.ref 500), some (.int x3), some (.int x4), some (.int x5), none] [.int e0] (c + 1) (s + 6) Q))) : WP mL_runs 71 [some (.ref 0), some (.ref 498), some (.ref 500), some (.int x3), some (.int x4), some (.int x5), none] [.int e0] (G X I L F) c s Q := by
  refine w_aload_n rL_runs_71 rfl ?_
  refine w_iload rL_runs_72 rfl ?_
  refine w_invokevirtual rL_runs_74 rfl rfl rfl (Nat.le_of_ble_eq_true rfl) ⟨trivial, trivial, trivial⟩ (G_is (by decide) rfl) q.1.1 q.1.2 ?_
  replace q := q.2
  exact q
theorem k_L_runs_77 {X : Nat × (Nat × (Nat → Int32))} {I : Nat → Nat → Int32} {L : Nat → Nat → Int64} {F : Nat → Nat → UInt32} {Q : AQ} {c s : Nat} {x3 : Int32} {x4 : Int32} {x5 : Int32} {e0 : Int32} {e1 : Int32} (q : ∀ s77_0 : Int32, s77_0 = (if e0 = e1 then 1 else 0 : Int32) → ((c + 1 ≤ 100 ∧ s + 6 ≤ 600) ∧ (WP mX9_peak 0 (am_ent 2 [.ref 0, .int x5]) [] (G X I L F) 0 0 (am_kq mL_runs 96 [some (.ref 0), some (.ref 498), some (.ref 500), some (.int x3), some (.int x4), some (.int x5), some (.int s77_0)] [.int (36 + x5), .ref 500] (c + 1) (s + 6) Q)))) : WP mL_runs 77 [some (.ref 0), some (.ref 498), some (.ref 500), some (.int x3), some (.int x4), some (.int x5), none] [.int e1, .int e0] (G X I L F) c s Q := by
  have j77 : ∀ s77_0 : Int32, s77_0 = (if e0 = e1 then 1 else 0 : Int32) → WP mL_runs 85 [some (.ref 0), some (.ref 498), some (.ref 500), some (.int x3), some (.int x4), some (.int x5), none] [.int s77_0] (G X I L F) c s Q := by
    intro s77_0 es77_0
    replace q := q s77_0 es77_0
    refine w_istore rL_runs_85 rfl trivial ?_
    refine w_aload_n rL_runs_87 rfl ?_
    refine w_bipush rL_runs_88 (x := 36) (by decide) ?_
    refine w_iload rL_runs_90 rfl ?_
    refine w_iadd rL_runs_92 ?_
    refine w_aload_n rL_runs_93 rfl ?_
    refine w_iload rL_runs_94 rfl ?_
    refine w_invokevirtual rL_runs_96 rfl rfl rfl (Nat.le_of_ble_eq_true rfl) ⟨trivial, trivial, trivial⟩ (G_is (by decide) rfl) q.1.1 q.1.2 ?_
    replace q := q.2
    exact q
  refine w_icmpne rL_runs_77 (fun h77 => ?_) (fun h77 => ?_)
  · skip
    refine w_iconst rL_runs_84 (x := 0) (by decide) ?_
    exact j77 _ (if_neg h77).symm
  · skip
    refine w_iconst rL_runs_80 (x := 1) (by decide) ?_
    refine w_goto rL_runs_81 ?_
    exact j77 _ (if_pos h77).symm
theorem k_L_runs_99 {X : Nat × (Nat × (Nat → Int32))} {I : Nat → Nat → Int32} {L : Nat → Nat → Int64} {F : Nat → Nat → UInt32} {Q : AQ} {c s : Nat} {x3 : Int32} {x4 : Int32} {x5 : Int32} {x6 : Int32} {e1 : Int32} {e2 : Int32} (q : vp_in e1 48 ∧ ((x6 = 0 → Q (.inl (some (.int 0))) (G X (am_u I 500 (Int32.toNatClampNeg e1) e2) L F)) ∧ (¬ x6 = 0 → (c + 60 ≤ 100 ∧ s + 360 ≤ 600) ∧ (WP mL_isPeak 0 (am_ent 6 [.ref 0, .ref 500, .int x5]) [] (G X (am_u I 500 (Int32.toNatClampNeg e1) e2) L F) 0 0 (am_kq mL_runs 109 [some (.ref 0), some (.ref 498), some (.ref 500), some (.int x3), some (.int x4), some (.int x5), some (.int x6)] [] (c + 60) (s + 360) Q))))) : WP mL_runs 99 [some (.ref 0), some (.ref 498), some (.ref 500), some (.int x3), some (.int x4), some (.int x5), some (.int x6)] [.int e2, .int e1, .ref 500] (G X I L F) c s Q := by
  have h99 := q.1
  replace q := q.2
  refine x_iastore rL_runs_99 (G_at (by decide) rfl rfl h99) ?_
  refine w_iload rL_runs_100 rfl ?_
  refine w_ifeq rL_runs_102 (fun h102 => ?_) (fun h102 => ?_)
  · replace q := q.1 h102
    refine w_iconst rL_runs_169 (x := 0) (by decide) ?_
    refine w_ireturn rL_runs_170 (Or.inl rfl) ?_
    exact q
  · replace q := q.2 h102
    refine w_aload_n rL_runs_105 rfl ?_
    refine w_aload_n rL_runs_106 rfl ?_
    refine w_iload rL_runs_107 rfl ?_
    refine w_invokestatic rL_runs_109 rfl rfl rfl (Nat.le_of_ble_eq_true rfl) ⟨trivial, trivial, trivial, trivial⟩ trivial q.1.1 q.1.2 ?_
    replace q := q.2
    exact q
theorem k_L_runs_112 {X : Nat × (Nat × (Nat → Int32))} {I : Nat → Nat → Int32} {L : Nat → Nat → Int64} {F : Nat → Nat → UInt32} {Q : AQ} {c s : Nat} {x3 : Int32} {x4 : Int32} {x5 : Int32} {x6 : Int32} {e0 : Int32} (q : (e0 = 0 → Q (.inl (some (.int 0))) (G X I L F)) ∧ (¬ e0 = 0 → (c + 1 ≤ 100 ∧ s + 6 ≤ 600) ∧ (WP mX9_peakHour 0 (am_ent 2 [.ref 0, .int x5]) [] (G X I L F) 0 0 (am_kq mL_runs 118 [some (.ref 0), some (.ref 498), some (.ref 500), some (.int x3), some (.int x4), some (.int x5), some (.int x6)] [] (c + 1) (s + 6) Q)))) : WP mL_runs 112 [some (.ref 0), some (.ref 498), some (.ref 500), some (.int x3), some (.int x4), some (.int x5), some (.int x6)] [.int e0] (G X I L F) c s Q := by
  refine w_ifeq rL_runs_112 (fun h112 => ?_) (fun h112 => ?_)
  · replace q := q.1 h112
    refine w_iconst rL_runs_169 (x := 0) (by decide) ?_
    refine w_ireturn rL_runs_170 (Or.inl rfl) ?_
    exact q
  · replace q := q.2 h112
    refine w_aload_n rL_runs_115 rfl ?_
    refine w_iload rL_runs_116 rfl ?_
    refine w_invokevirtual rL_runs_118 rfl rfl rfl (Nat.le_of_ble_eq_true rfl) ⟨trivial, trivial, trivial⟩ (G_is (by decide) rfl) q.1.1 q.1.2 ?_
    replace q := q.2
    exact q
theorem k_L_runs_121 {X : Nat × (Nat × (Nat → Int32))} {I : Nat → Nat → Int32} {L : Nat → Nat → Int64} {F : Nat → Nat → UInt32} {Q : AQ} {c s : Nat} {x3 : Int32} {x4 : Int32} {x5 : Int32} {x6 : Int32} {e0 : Int32} (q : (e0 < (I 498 0) → Q (.inl (some (.int 0))) (G X I L F)) ∧ (¬ e0 < (I 498 0) → (c + 1 ≤ 100 ∧ s + 6 ≤ 600) ∧ (WP mX9_peakHour 0 (am_ent 2 [.ref 0, .int x5]) [] (G X I L F) 0 0 (am_kq mL_runs 130 [some (.ref 0), some (.ref 498), some (.ref 500), some (.int x3), some (.int x4), some (.int x5), some (.int x6)] [] (c + 1) (s + 6) Q)))) : WP mL_runs 121 [some (.ref 0), some (.ref 498), some (.ref 500), some (.int x3), some (.int x4), some (.int x5), some (.int x6)] [.int e0] (G X I L F) c s Q := by
  refine w_aload_n rL_runs_121 rfl ?_
  refine w_iconst rL_runs_122 (x := 0) (by decide) ?_
  refine xl_iaload rL_runs_123 (G_at (by decide) rfl rfl (by unfold vp_in; decide)) (i := 0) (by decide) ?_
  refine w_icmplt rL_runs_124 (fun h124 => ?_) (fun h124 => ?_)
  · replace q := q.1 h124
    refine w_iconst rL_runs_169 (x := 0) (by decide) ?_
    refine w_ireturn rL_runs_170 (Or.inl rfl) ?_
    exact q
  · replace q := q.2 h124
    refine w_aload_n rL_runs_127 rfl ?_
    refine w_iload rL_runs_128 rfl ?_
    refine w_invokevirtual rL_runs_130 rfl rfl rfl (Nat.le_of_ble_eq_true rfl) ⟨trivial, trivial, trivial⟩ (G_is (by decide) rfl) q.1.1 q.1.2 ?_
    replace q := q.2
    exact q
theorem k_L_runs_133 {X : Nat × (Nat × (Nat → Int32))} {I : Nat → Nat → Int32} {L : Nat → Nat → Int64} {F : Nat → Nat → UInt32} {Q : AQ} {c s : Nat} {x3 : Int32} {x4 : Int32} {x5 : Int32} {x6 : Int32} {e0 : Int32} (q : (((I 498 0) + x4) < e0 → Q (.inl (some (.int 0))) (G X I L F)) ∧ (¬ ((I 498 0) + x4) < e0 → vp_in x5 48 ∧ ((c + 1 ≤ 100 ∧ s + 6 ≤ 600) ∧ (WP mX9_peakHour 0 (am_ent 2 [.ref 0, .int x5]) [] (G X I L F) 0 0 (am_kq mL_runs 150 [some (.ref 0), some (.ref 498), some (.ref 500), some (.int x3), some (.int x4), some (.int x5), some (.int x6)] [.int (I 500 (Int32.toNatClampNeg x5)), .ref 0] (c + 1) (s + 6) Q))))) : WP mL_runs 133 [some (.ref 0), some (.ref 498), some (.ref 500), some (.int x3), some (.int x4), some (.int x5), some (.int x6)] [.int e0] (G X I L F) c s Q := by
  refine w_aload_n rL_runs_133 rfl ?_
  refine w_iconst rL_runs_134 (x := 0) (by decide) ?_
  refine xl_iaload rL_runs_135 (G_at (by decide) rfl rfl (by unfold vp_in; decide)) (i := 0) (by decide) ?_
  refine w_iload rL_runs_136 rfl ?_
  refine w_iadd rL_runs_138 ?_
  refine w_icmpgt rL_runs_139 (fun h139 => ?_) (fun h139 => ?_)
  · replace q := q.1 h139
    refine w_iconst rL_runs_169 (x := 0) (by decide) ?_
    refine w_ireturn rL_runs_170 (Or.inl rfl) ?_
    exact q
  · replace q := q.2 h139
    refine w_aload_n rL_runs_142 rfl ?_
    refine w_aload_n rL_runs_143 rfl ?_
    refine w_iload rL_runs_144 rfl ?_
    have h146 := q.1
    replace q := q.2
    refine x_iaload rL_runs_146 (G_at (by decide) rfl rfl h146) ?_
    refine w_aload_n rL_runs_147 rfl ?_
    refine w_iload rL_runs_148 rfl ?_
    refine w_invokevirtual rL_runs_150 rfl rfl rfl (Nat.le_of_ble_eq_true rfl) ⟨trivial, trivial, trivial⟩ (G_is (by decide) rfl) q.1.1 q.1.2 ?_
    replace q := q.2
    exact q
theorem k_L_runs_153 {X : Nat × (Nat × (Nat → Int32))} {I : Nat → Nat → Int32} {L : Nat → Nat → Int64} {F : Nat → Nat → UInt32} {Q : AQ} {c s : Nat} {x3 : Int32} {x4 : Int32} {x5 : Int32} {x6 : Int32} {e1 : Int32} {e2 : Int32} (q : (c + 1 ≤ 100 ∧ s + 6 ≤ 600) ∧ (WP mX9_out 0 (am_ent 3 [.ref 0, .int e1, .int e2]) [] (G X I L F) 0 0 (am_kq mL_runs 153 [some (.ref 0), some (.ref 498), some (.ref 500), some (.int x3), some (.int x4), some (.int x5), some (.int x6)] [] (c + 1) (s + 6) Q))) : WP mL_runs 153 [some (.ref 0), some (.ref 498), some (.ref 500), some (.int x3), some (.int x4), some (.int x5), some (.int x6)] [.int e2, .int e1, .ref 0] (G X I L F) c s Q := by
  refine w_invokevirtual rL_runs_153 rfl rfl rfl (Nat.le_of_ble_eq_true rfl) ⟨trivial, trivial, trivial, trivial⟩ (G_is (by decide) rfl) q.1.1 q.1.2 ?_
  replace q := q.2
  exact q
theorem k_L_runs_156 {X : Nat × (Nat × (Nat → Int32))} {I : Nat → Nat → Int32} {L : Nat → Nat → Int64} {F : Nat → Nat → UInt32} {Q : AQ} {c s : Nat} {x3 : Int32} {x4 : Int32} {x5 : Int32} {x6 : Int32} {e0 : Int32} (q : (c + 1 ≤ 100 ∧ s + 6 ≤ 600) ∧ (WP mX9_peak 0 (am_ent 2 [.ref 0, .int x5]) [] (G X I L F) 0 0 (am_kq mL_runs 159 [some (.ref 0), some (.ref 498), some (.ref 500), some (.int x3), some (.int x4), some (.int x5), some (.int x6)] [.int e0] (c + 1) (s + 6) Q))) : WP mL_runs 156 [some (.ref 0), some (.ref 498), some (.ref 500), some (.int x3), some (.int x4), some (.int x5), some (.int x6)] [.int e0] (G X I L F) c s Q := by
  refine w_aload_n rL_runs_156 rfl ?_
  refine w_iload rL_runs_157 rfl ?_
  refine w_invokevirtual rL_runs_159 rfl rfl rfl (Nat.le_of_ble_eq_true rfl) ⟨trivial, trivial, trivial⟩ (G_is (by decide) rfl) q.1.1 q.1.2 ?_
  replace q := q.2
  exact q
theorem k_L_runs_162 {X : Nat × (Nat × (Nat → Int32))} {I : Nat → Nat → Int32} {L : Nat → Nat → Int64} {F : Nat → Nat → UInt32} {Q : AQ} {c s : Nat} {x3 : Int32} {x4 : Int32} {x5 : Int32} {x6 : Int32} {e0 : Int32} {e1 : Int32} (q : ∀ s162_0 : Int32, s162_0 = (if e0 = e1 then 1 else 0 : Int32) → ((s162_0 = 0 ∨ s162_0 = 1) ∧ (Q (.inl (some (.int s162_0))) (G X I L F)))) : WP mL_runs 162 [some (.ref 0), some (.ref 498), some (.ref 500), some (.int x3), some (.int x4), some (.int x5), some (.int x6)] [.int e1, .int e0] (G X I L F) c s Q := by
  have j162 : ∀ s162_0 : Int32, s162_0 = (if e0 = e1 then 1 else 0 : Int32) → WP mL_runs 170 [some (.ref 0), some (.ref 498), some (.ref 500), some (.int x3), some (.int x4), some (.int x5), some (.int x6)] [.int s162_0] (G X I L F) c s Q := by
    intro s162_0 es162_0
    replace q := q s162_0 es162_0
    have z170 := q.1
    replace q := q.2
    refine w_ireturn rL_runs_170 z170 ?_
    exact q
  refine w_icmpne rL_runs_162 (fun h162 => ?_) (fun h162 => ?_)
  · skip
    refine w_iconst rL_runs_169 (x := 0) (by decide) ?_
    exact j162 _ (if_neg h162).symm
  · skip
    refine w_iconst rL_runs_165 (x := 1) (by decide) ?_
    refine w_goto rL_runs_166 ?_
    exact j162 _ (if_pos h162).symm
theorem k_L_isPeak_0 {X : Nat × (Nat × (Nat → Int32))} {I : Nat → Nat → Int32} {L : Nat → Nat → Int64} {F : Nat → Nat → UInt32} {Q : AQ} {run : Int32} (q : vp_in run 48 ∧ (vp_in (12 + run) 48 ∧ (WP mX9_out 0 (am_ent 3 [.ref 0, .int (I 500 (Int32.toNatClampNeg run)), .int (I 500 (Int32.toNatClampNeg (12 + run)))]) [] (G X I L F) 0 0 (am_kq mL_isPeak 10 [some (.ref 0), some (.ref 500), some (.int run), none, none, none] [] 1 6 Q)))) : WP mL_isPeak 0 (am_ent 6 [.ref 0, .ref 500, .int run]) [] (G X I L F) 0 0 Q := by
  refine w_aload_n rL_isPeak_0 rfl ?_
  refine w_aload_n rL_isPeak_1 rfl ?_
  refine w_iload_n rL_isPeak_2 rfl ?_
  have h3 := q.1
  replace q := q.2
  refine x_iaload rL_isPeak_3 (G_at (by decide) rfl rfl h3) ?_
  refine w_aload_n rL_isPeak_4 rfl ?_
  refine w_bipush rL_isPeak_5 (x := 12) (by decide) ?_
  refine w_iload_n rL_isPeak_7 rfl ?_
  refine w_iadd rL_isPeak_8 ?_
  have h9 := q.1
  replace q := q.2
  refine x_iaload rL_isPeak_9 (G_at (by decide) rfl rfl h9) ?_
  refine w_invokevirtual rL_isPeak_10 rfl rfl rfl (Nat.le_of_ble_eq_true rfl) ⟨trivial, trivial, trivial, trivial⟩ (G_is (by decide) rfl) (by decide) (by decide) ?_
  exact q
theorem k_L_isPeak_13 {X : Nat × (Nat × (Nat → Int32))} {I : Nat → Nat → Int32} {L : Nat → Nat → Int64} {F : Nat → Nat → UInt32} {Q : AQ} {c s : Nat} {x2 : Int32} {e0 : Int32} (q : vp_in (12 + x2) 48 ∧ (WP mL_isPeak 22 [some (.ref 0), some (.ref 500), some (.int x2), some (.int e0), some (.int (I 500 (Int32.toNatClampNeg (12 + x2)))), none] [] (G X I L F) c s Q)) : WP mL_isPeak 13 [some (.ref 0), some (.ref 500), some (.int x2), none, none, none] [.int e0] (G X I L F) c s Q := by
  refine w_istore_n rL_isPeak_13 rfl trivial ?_
  refine w_aload_n rL_isPeak_14 rfl ?_
  refine w_bipush rL_isPeak_15 (x := 12) (by decide) ?_
  refine w_iload_n rL_isPeak_17 rfl ?_
  refine w_iadd rL_isPeak_18 ?_
  have h19 := q.1
  replace q := q.2
  refine x_iaload rL_isPeak_19 (G_at (by decide) rfl rfl h19) ?_
  refine w_istore rL_isPeak_20 rfl trivial ?_
  exact q
theorem k_L_isPeak_22 {X : Nat × (Nat × (Nat → Int32))} {I : Nat → Nat → Int32} {L : Nat → Nat → Int64} {F : Nat → Nat → UInt32} {Q : AQ} {c s : Nat} {x2 : Int32} {x3 : Int32} {x4 : Int32} {d5 : Option Value} (q : vp_in (24 + x2) 48 ∧ (((I 500 (Int32.toNatClampNeg (24 + x2))) < x4 → (c + 1 ≤ 60 ∧ s + 6 ≤ 360) ∧ (WP mX9_peakAnew 0 (am_ent 3 [.ref 0, .int x2]) [] (G X I L F) 0 0 (am_kq mL_isPeak 71 [some (.ref 0), some (.ref 500), some (.int x2), some (.int x3), some (.int x4), d5] [] (c + 1) (s + 6) Q))) ∧ (¬ (I 500 (Int32.toNatClampNeg (24 + x2))) < x4 → vp_in x2 48 ∧ ((c + 1 ≤ 60 ∧ s + 6 ≤ 360) ∧ (WP mX9_out 0 (am_ent 3 [.ref 0, .int (I 500 (Int32.toNatClampNeg x2)), .int x4]) [] (G X I L F) 0 0 (am_kq mL_isPeak 39 [some (.ref 0), some (.ref 500), some (.int x2), some (.int x3), some (.int x4), d5] [] (c + 1) (s + 6) Q)))))) : WP mL_isPeak 22 [some (.ref 0), some (.ref 500), some (.int x2), some (.int x3), some (.int x4), d5] [] (G X I L F) c s Q := by
  refine w_iload rL_isPeak_22 rfl ?_
  refine w_aload_n rL_isPeak_24 rfl ?_
  refine w_bipush rL_isPeak_25 (x := 24) (by decide) ?_
  refine w_iload_n rL_isPeak_27 rfl ?_
  refine w_iadd rL_isPeak_28 ?_
  have h29 := q.1
  replace q := q.2
  refine x_iaload rL_isPeak_29 (G_at (by decide) rfl rfl h29) ?_
  refine w_icmpgt rL_isPeak_30 (fun h30 => ?_) (fun h30 => ?_)
  · replace q := q.1 h30
    refine w_aload_n rL_isPeak_69 rfl ?_
    refine w_iload_n rL_isPeak_70 rfl ?_
    refine w_invokevirtual rL_isPeak_71 rfl rfl rfl (Nat.le_of_ble_eq_true rfl) ⟨trivial, trivial, trivial⟩ (G_is (by decide) rfl) q.1.1 q.1.2 ?_
    replace q := q.2
    exact q
  · replace q := q.2 h30
    refine w_aload_n rL_isPeak_33 rfl ?_
    refine w_aload_n rL_isPeak_34 rfl ?_
    refine w_iload_n rL_isPeak_35 rfl ?_
    have h36 := q.1
    replace q := q.2
    refine x_iaload rL_isPeak_36 (G_at (by decide) rfl rfl h36) ?_
    refine w_iload rL_isPeak_37 rfl ?_
    refine w_invokevirtual rL_isPeak_39 rfl rfl rfl (Nat.le_of_ble_eq_true rfl) ⟨trivial, trivial, trivial, trivial⟩ (G_is (by decide) rfl) q.1.1 q.1.2 ?_
    replace q := q.2
    exact q
theorem k_L_isPeak_42 {X : Nat × (Nat × (Nat → Int32))} {I : Nat → Nat → Int32} {L : Nat → Nat → Int64} {F : Nat → Nat → UInt32} {Q : AQ} {c s : Nat} {x2 : Int32} {x3 : Int32} {x4 : Int32} {d5 : Option Value} {e0 : Int32} (q : (c ≤ 60 ∧ s ≤ 360) ∧ ((c ≤ 60 ∧ s ≤ 360) ∧ (∀ s53_0 : Int32, s53_0 = (if (f_L_key e0) ≤ (f_L_key x3) then x3 else e0 : Int32) → (WP mL_isPeak 22 [some (.ref 0), some (.ref 500), some (.int x2), some (.int s53_0), some (.int (x4 + 1)), some (.int e0)] [] (G X I L F) c s Q)))) : WP mL_isPeak 42 [some (.ref 0), some (.ref 500), some (.int x2), some (.int x3), some (.int x4), d5] [.int e0] (G X I L F) c s Q := by
  refine w_istore rL_isPeak_42 rfl trivial ?_
  refine w_iload rL_isPeak_44 rfl ?_
  have bd46 := q.1
  replace q := q.2
  refine w_invokestatic rL_isPeak_46 rfl rfl rfl (Nat.le_of_ble_eq_true rfl) ⟨trivial, trivial⟩ trivial bd46.1 bd46.2 ?_
  refine s_L_key ?_
  show WP mL_isPeak 49 _ _ _ c s _
  refine w_iload_n rL_isPeak_49 rfl ?_
  have bd50 := q.1
  replace q := q.2
  refine w_invokestatic rL_isPeak_50 rfl rfl rfl (Nat.le_of_ble_eq_true rfl) ⟨trivial, trivial⟩ trivial bd50.1 bd50.2 ?_
  refine s_L_key ?_
  show WP mL_isPeak 53 _ _ _ c s _
  have j53 : ∀ s53_0 : Int32, s53_0 = (if (f_L_key e0) ≤ (f_L_key x3) then x3 else e0 : Int32) → WP mL_isPeak 62 [some (.ref 0), some (.ref 500), some (.int x2), some (.int x3), some (.int x4), some (.int e0)] [.int s53_0] (G X I L F) c s Q := by
    intro s53_0 es53_0
    replace q := q s53_0 es53_0
    refine w_istore_n rL_isPeak_62 rfl trivial ?_
    refine w_iinc rL_isPeak_63 rfl rfl trivial ?_
    refine w_goto rL_isPeak_66 ?_
    exact q
  refine w_icmple rL_isPeak_53 (fun h53 => ?_) (fun h53 => ?_)
  · skip
    refine w_iload_n rL_isPeak_61 rfl ?_
    exact j53 _ (if_pos h53).symm
  · skip
    refine w_iload rL_isPeak_56 rfl ?_
    refine w_goto rL_isPeak_58 ?_
    exact j53 _ (if_neg h53).symm
theorem k_L_isPeak_74 {X : Nat × (Nat × (Nat → Int32))} {I : Nat → Nat → Int32} {L : Nat → Nat → Int64} {F : Nat → Nat → UInt32} {Q : AQ} {c s : Nat} {x2 : Int32} {x3 : Int32} {x4 : Int32} {d5 : Option Value} {e0 : Int32} (q : ∀ s75_0 : Int32, s75_0 = (if e0 = x3 then 1 else 0 : Int32) → ((s75_0 = 0 ∨ s75_0 = 1) ∧ (Q (.inl (some (.int s75_0))) (G X I L F)))) : WP mL_isPeak 74 [some (.ref 0), some (.ref 500), some (.int x2), some (.int x3), some (.int x4), d5] [.int e0] (G X I L F) c s Q := by
  refine w_iload_n rL_isPeak_74 rfl ?_
  have j75 : ∀ s75_0 : Int32, s75_0 = (if e0 = x3 then 1 else 0 : Int32) → WP mL_isPeak 83 [some (.ref 0), some (.ref 500), some (.int x2), some (.int x3), some (.int x4), d5] [.int s75_0] (G X I L F) c s Q := by
    intro s75_0 es75_0
    replace q := q s75_0 es75_0
    have z83 := q.1
    replace q := q.2
    refine w_ireturn rL_isPeak_83 z83 ?_
    exact q
  refine w_icmpne rL_isPeak_75 (fun h75 => ?_) (fun h75 => ?_)
  · skip
    refine w_iconst rL_isPeak_82 (x := 0) (by decide) ?_
    exact j75 _ (if_neg h75).symm
  · skip
    refine w_iconst rL_isPeak_78 (x := 1) (by decide) ?_
    refine w_goto rL_isPeak_79 ?_
    exact j75 _ (if_pos h75).symm
theorem k_L_goes_0 {X : Nat × (Nat × (Nat → Int32))} {I : Nat → Nat → Int32} {L : Nat → Nat → Int64} {F : Nat → Nat → UInt32} {Q : AQ} {dam : Int32} {run : Int32} (q : WP mX9_why 0 (am_ent 2 [.ref 0, .int run]) [] (G X I L F) 0 0 (am_kq mL_goes 3 [some (.ref 0), some (.ref 498), some (.ref 499), some (.ref 500), some (.int dam), some (.int run), none] [] 1 6 Q)) : WP mL_goes 0 (am_ent 7 [.ref 0, .ref 498, .ref 499, .ref 500, .int dam, .int run]) [] (G X I L F) 0 0 Q := by
  refine w_aload_n rL_goes_0 rfl ?_
  refine w_iload rL_goes_1 rfl ?_
  refine w_invokevirtual rL_goes_3 rfl rfl rfl (Nat.le_of_ble_eq_true rfl) ⟨trivial, trivial, trivial⟩ (G_is (by decide) rfl) (by decide) (by decide) ?_
  exact q
theorem k_L_goes_6 {X : Nat × (Nat × (Nat → Int32))} {I : Nat → Nat → Int32} {L : Nat → Nat → Int64} {F : Nat → Nat → UInt32} {Q : AQ} {c s : Nat} {x4 : Int32} {x5 : Int32} {e0 : Int32} (q : ((e0 = 0 → vp_in x5 48 ∧ (vp_in (I 500 (Int32.toNatClampNeg x5)) 64 ∧ (vp_in ((4 + (6 * x4)) + 1) 22 ∧ (True))))) ∧ (∀ s6_0 : Int32, s6_0 = (if e0 = 0 then (if (I 499 (Int32.toNatClampNeg (I 500 (Int32.toNatClampNeg x5)))) = (I 498 (Int32.toNatClampNeg ((4 + (6 * x4)) + 1))) then 1 else 0 : Int32) else 0 : Int32) → ((c + 1 ≤ 10 ∧ s + 6 ≤ 60) ∧ (WP mL_ofGo 0 (am_ent 4 [.ref 0, .int x4, .int x5]) [] (G X I L F) 0 0 (am_kq mL_goes 41 [some (.ref 0), some (.ref 498), some (.ref 499), some (.ref 500), some (.int x4), some (.int x5), some (.int s6_0)] [] (c + 1) (s + 6) Q))))) : WP mL_goes 6 [some (.ref 0), some (.ref 498), some (.ref 499), some (.ref 500), some (.int x4), some (.int x5), none] [.int e0] (G X I L F) c s Q := by
  have j6 : ∀ s6_0 : Int32, s6_0 = (if e0 = 0 then (if (I 499 (Int32.toNatClampNeg (I 500 (Int32.toNatClampNeg x5)))) = (I 498 (Int32.toNatClampNeg ((4 + (6 * x4)) + 1))) then 1 else 0 : Int32) else 0 : Int32) → WP mL_goes 34 [some (.ref 0), some (.ref 498), some (.ref 499), some (.ref 500), some (.int x4), some (.int x5), none] [.int s6_0] (G X I L F) c s Q := by
    intro s6_0 es6_0
    replace q := q.2
    replace q := q s6_0 es6_0
    refine w_istore rL_goes_34 rfl trivial ?_
    refine w_aload_n rL_goes_36 rfl ?_
    refine w_iload rL_goes_37 rfl ?_
    refine w_iload rL_goes_39 rfl ?_
    refine w_invokestatic rL_goes_41 rfl rfl rfl (Nat.le_of_ble_eq_true rfl) ⟨trivial, trivial, trivial, trivial⟩ trivial q.1.1 q.1.2 ?_
    replace q := q.2
    exact q
  replace q := q.1
  refine w_ifne rL_goes_6 (fun h6 => ?_) (fun h6 => ?_)
  · skip
    refine w_iconst rL_goes_33 (x := 0) (by decide) ?_
    exact j6 _ (if_neg h6).symm
  · replace q := q h6
    refine w_aload_n rL_goes_9 rfl ?_
    refine w_aload_n rL_goes_10 rfl ?_
    refine w_iload rL_goes_11 rfl ?_
    have h13 := q.1
    replace q := q.2
    refine x_iaload rL_goes_13 (G_at (by decide) rfl rfl h13) ?_
    have h14 := q.1
    replace q := q.2
    refine x_iaload rL_goes_14 (G_at (by decide) rfl rfl h14) ?_
    refine w_aload_n rL_goes_15 rfl ?_
    refine w_iconst rL_goes_16 (x := 4) (by decide) ?_
    refine w_bipush rL_goes_17 (x := 6) (by decide) ?_
    refine w_iload rL_goes_19 rfl ?_
    refine w_imul rL_goes_21 ?_
    refine w_iadd rL_goes_22 ?_
    refine w_iconst rL_goes_23 (x := 1) (by decide) ?_
    refine w_iadd rL_goes_24 ?_
    have h25 := q.1
    replace q := q.2
    refine x_iaload rL_goes_25 (G_at (by decide) rfl rfl h25) ?_
    refine w_icmpne rL_goes_26 (fun h26 => ?_) (fun h26 => ?_)
    · skip
      refine w_iconst rL_goes_33 (x := 0) (by decide) ?_
      exact j6 _ ((if_pos h6).trans (if_neg h26)).symm
    · skip
      refine w_iconst rL_goes_29 (x := 1) (by decide) ?_
      refine w_goto rL_goes_30 ?_
      exact j6 _ ((if_pos h6).trans (if_pos h26)).symm
theorem k_L_goes_44 {X : Nat × (Nat × (Nat → Int32))} {I : Nat → Nat → Int32} {L : Nat → Nat → Int64} {F : Nat → Nat → UInt32} {Q : AQ} {c s : Nat} {x4 : Int32} {x5 : Int32} {x6 : Int32} {e0 : Int32} (q : ∀ s46_1 : Int32, s46_1 = (if x6 = 0 then 2 else 0 : Int32) → (∀ s54_0 : Int32, s54_0 = (if e0 = s46_1 then 1 else 0 : Int32) → ((s54_0 = 0 ∨ s54_0 = 1) ∧ (Q (.inl (some (.int s54_0))) (G X I L F))))) : WP mL_goes 44 [some (.ref 0), some (.ref 498), some (.ref 499), some (.ref 500), some (.int x4), some (.int x5), some (.int x6)] [.int e0] (G X I L F) c s Q := by
  refine w_iload rL_goes_44 rfl ?_
  have j46 : ∀ s46_1 : Int32, s46_1 = (if x6 = 0 then 2 else 0 : Int32) → WP mL_goes 54 [some (.ref 0), some (.ref 498), some (.ref 499), some (.ref 500), some (.int x4), some (.int x5), some (.int x6)] [.int s46_1, .int e0] (G X I L F) c s Q := by
    intro s46_1 es46_1
    replace q := q s46_1 es46_1
    have j54 : ∀ s54_0 : Int32, s54_0 = (if e0 = s46_1 then 1 else 0 : Int32) → WP mL_goes 62 [some (.ref 0), some (.ref 498), some (.ref 499), some (.ref 500), some (.int x4), some (.int x5), some (.int x6)] [.int s54_0] (G X I L F) c s Q := by
      intro s54_0 es54_0
      replace q := q s54_0 es54_0
      have z62 := q.1
      replace q := q.2
      refine w_ireturn rL_goes_62 z62 ?_
      exact q
    refine w_icmpne rL_goes_54 (fun h54 => ?_) (fun h54 => ?_)
    · skip
      refine w_iconst rL_goes_61 (x := 0) (by decide) ?_
      exact j54 _ (if_neg h54).symm
    · skip
      refine w_iconst rL_goes_57 (x := 1) (by decide) ?_
      refine w_goto rL_goes_58 ?_
      exact j54 _ (if_pos h54).symm
  refine w_ifeq rL_goes_46 (fun h46 => ?_) (fun h46 => ?_)
  · skip
    refine w_iconst rL_goes_53 (x := 2) (by decide) ?_
    exact j46 _ (if_pos h46).symm
  · skip
    refine w_iconst rL_goes_49 (x := 0) (by decide) ?_
    refine w_goto rL_goes_50 ?_
    exact j46 _ (if_neg h46).symm
theorem k_L_ofGo_0 {X : Nat × (Nat × (Nat → Int32))} {I : Nat → Nat → Int32} {L : Nat → Nat → Int64} {F : Nat → Nat → UInt32} {Q : AQ} {dam : Int32} {run : Int32} (q : WP mX9_goBy 0 (am_ent 4 [.ref 0, .int dam, .int run]) [] (G X I L F) 0 0 (am_kq mL_ofGo 3 [some (.ref 0), some (.int dam), some (.int run), none] [] 1 6 Q)) : WP mL_ofGo 0 (am_ent 4 [.ref 0, .int dam, .int run]) [] (G X I L F) 0 0 Q := by
  refine w_aload_n rL_ofGo_0 rfl ?_
  refine w_iload_n rL_ofGo_1 rfl ?_
  refine w_iload_n rL_ofGo_2 rfl ?_
  refine w_invokevirtual rL_ofGo_3 rfl rfl rfl (Nat.le_of_ble_eq_true rfl) ⟨trivial, trivial, trivial, trivial⟩ (G_is (by decide) rfl) (by decide) (by decide) ?_
  exact q
theorem k_L_ofGo_6 {X : Nat × (Nat × (Nat → Int32))} {I : Nat → Nat → Int32} {L : Nat → Nat → Int64} {F : Nat → Nat → UInt32} {Q : AQ} {c s : Nat} {x1 : Int32} {x2 : Int32} (q : Q (.inl (some (.int 0))) (G X I L F)) : WP mL_ofGo 6 [some (.ref 0), some (.int x1), some (.int x2), none] [] (G X I L F) c s Q := by
  refine w_goto rL_ofGo_6 ?_
  refine w_iconst rL_ofGo_12 (x := 0) (by decide) ?_
  refine w_ireturn rL_ofGo_13 trivial ?_
  exact q
theorem k_L_ofGo_10 {X : Nat × (Nat × (Nat → Int32))} {I : Nat → Nat → Int32} {L : Nat → Nat → Int64} {F : Nat → Nat → UInt32} {Q : AQ} {c s : Nat} {x1 : Int32} {x2 : Int32} (q : Q (.inl (some (.int 2))) (G X I L F)) : WP mL_ofGo 10 [some (.ref 0), some (.int x1), some (.int x2), none] [] (G X I L F) c s Q := by
  refine w_iconst rL_ofGo_10 (x := 2) (by decide) ?_
  refine w_ireturn rL_ofGo_11 trivial ?_
  exact q
theorem k_L_ofSound_0 {X : Nat × (Nat × (Nat → Int32))} {I : Nat → Nat → Int32} {L : Nat → Nat → Int64} {F : Nat → Nat → UInt32} {Q : AQ} {dam : Int32} {run : Int32} (q : WP mX9_sound 0 (am_ent 5 [.ref 0, .int dam, .int run]) [] (G X I L F) 0 0 (am_kq mL_ofSound 3 [some (.ref 0), some (.int dam), some (.int run), none] [] 1 6 Q)) : WP mL_ofSound 0 (am_ent 4 [.ref 0, .int dam, .int run]) [] (G X I L F) 0 0 Q := by
  refine w_aload_n rL_ofSound_0 rfl ?_
  refine w_iload_n rL_ofSound_1 rfl ?_
  refine w_iload_n rL_ofSound_2 rfl ?_
  refine w_invokevirtual rL_ofSound_3 rfl rfl rfl (Nat.le_of_ble_eq_true rfl) ⟨trivial, trivial, trivial, trivial⟩ (G_is (by decide) rfl) (by decide) (by decide) ?_
  exact q
theorem k_L_ofSound_6 {X : Nat × (Nat × (Nat → Int32))} {I : Nat → Nat → Int32} {L : Nat → Nat → Int64} {F : Nat → Nat → UInt32} {Q : AQ} {c s : Nat} {x1 : Int32} {x2 : Int32} {e0 : Int32} (q : Q (.inl (some (.int e0))) (G X I L F)) : WP mL_ofSound 6 [some (.ref 0), some (.int x1), some (.int x2), none] [.int e0] (G X I L F) c s Q := by
  refine w_ireturn rL_ofSound_6 trivial ?_
  exact q
theorem k_L_ofSound_8 {X : Nat × (Nat × (Nat → Int32))} {I : Nat → Nat → Int32} {L : Nat → Nat → Int64} {F : Nat → Nat → UInt32} {Q : AQ} {c s : Nat} {x1 : Int32} {x2 : Int32} (q : Q (.inl (some (.int (-2)))) (G X I L F)) : WP mL_ofSound 8 [some (.ref 0), some (.int x1), some (.int x2), none] [] (G X I L F) c s Q := by
  refine w_bipush rL_ofSound_8 (x := -2) (by decide) ?_
  refine w_ireturn rL_ofSound_10 trivial ?_
  exact q
theorem k_L_sounds_0 {X : Nat × (Nat × (Nat → Int32))} {I : Nat → Nat → Int32} {L : Nat → Nat → Int64} {F : Nat → Nat → UInt32} {Q : AQ} {dam : Int32} {run : Int32} (q : WP mL_sounds 15 [some (.ref 0), some (.ref 498), some (.ref 499), some (.ref 500), some (.ref 501), some (.int dam), some (.int run), some (.int (4 + (6 * dam))), some (.int 0), some (.int 0), none] [] (G X I L F) 0 0 Q) : WP mL_sounds 0 (am_ent 11 [.ref 0, .ref 498, .ref 499, .ref 500, .ref 501, .int dam, .int run]) [] (G X I L F) 0 0 Q := by
  refine w_iconst rL_sounds_0 (x := 4) (by decide) ?_
  refine w_bipush rL_sounds_1 (x := 6) (by decide) ?_
  refine w_iload rL_sounds_3 rfl ?_
  refine w_imul rL_sounds_5 ?_
  refine w_iadd rL_sounds_6 ?_
  refine w_istore rL_sounds_7 rfl trivial ?_
  refine w_iconst rL_sounds_9 (x := 0) (by decide) ?_
  refine w_istore rL_sounds_10 rfl trivial ?_
  refine w_iconst rL_sounds_12 (x := 0) (by decide) ?_
  refine w_istore rL_sounds_13 rfl trivial ?_
  exact q
theorem k_L_sounds_15 {X : Nat × (Nat × (Nat → Int32))} {I : Nat → Nat → Int32} {L : Nat → Nat → Int64} {F : Nat → Nat → UInt32} {Q : AQ} {c s : Nat} {x5 : Int32} {x6 : Int32} {x7 : Int32} {x8 : Int32} {x9 : Int32} (q : ((I 498 2) ≤ x9 → vp_in (x7 + 3) 22 ∧ (((I 498 (Int32.toNatClampNeg (x7 + 3))) = 1 → (x8 = 0 → (c + 1 ≤ 10 ∧ s + 6 ≤ 60) ∧ (WP mX9_why 0 (am_ent 2 [.ref 0, .int x6]) [] (G X I L F) 0 0 (am_kq mL_sounds 80 [some (.ref 0), some (.ref 498), some (.ref 499), some (.ref 500), some (.ref 501), some (.int x5), some (.int x6), some (.int x7), some (.int x8), some (.int x9), none] [] (c + 1) (s + 6) Q))) ∧ (¬ x8 = 0 → (c + 1 ≤ 10 ∧ s + 6 ≤ 60) ∧ (WP mL_ofSound 0 (am_ent 4 [.ref 0, .int x5, .int x6]) [] (G X I L F) 0 0 (am_kq mL_sounds 135 [some (.ref 0), some (.ref 498), some (.ref 499), some (.ref 500), some (.ref 501), some (.int x5), some (.int x6), some (.int x7), some (.int x8), some (.int 0), none] [] (c + 1) (s + 6) Q)))) ∧ (¬ (I 498 (Int32.toNatClampNeg (x7 + 3))) = 1 → (c + 1 ≤ 10 ∧ s + 6 ≤ 60) ∧ (WP mL_ofSound 0 (am_ent 4 [.ref 0, .int x5, .int x6]) [] (G X I L F) 0 0 (am_kq mL_sounds 135 [some (.ref 0), some (.ref 498), some (.ref 499), some (.ref 500), some (.ref 501), some (.int x5), some (.int x6), some (.int x7), some (.int x8), some (.int 0), none] [] (c + 1) (s + 6) Q))))) ∧ (¬ (I 498 2) ≤ x9 → ((x8 = 0 → vp_in x9 36 ∧ (((I 501 (Int32.toNatClampNeg x9)) = x5 → vp_in (12 + x9) 36 ∧ (True))))) ∧ (∀ s25_0 : Int32, s25_0 = (if x8 = 0 then (if (I 501 (Int32.toNatClampNeg x9)) = x5 then (if (I 501 (Int32.toNatClampNeg (12 + x9))) = 0 then 1 else 0 : Int32) else 0 : Int32) else 1 : Int32) → (WP mL_sounds 15 [some (.ref 0), some (.ref 498), some (.ref 499), some (.ref 500), some (.ref 501), some (.int x5), some (.int x6), some (.int x7), some (.int s25_0), some (.int (x9 + 1)), none] [] (G X I L F) c s Q)))) : WP mL_sounds 15 [some (.ref 0), some (.ref 498), some (.ref 499), some (.ref 500), some (.ref 501), some (.int x5), some (.int x6), some (.int x7), some (.int x8), some (.int x9), none] [] (G X I L F) c s Q := by
  refine w_iload rL_sounds_15 rfl ?_
  refine w_aload_n rL_sounds_17 rfl ?_
  refine w_iconst rL_sounds_18 (x := 2) (by decide) ?_
  refine xl_iaload rL_sounds_19 (G_at (by decide) rfl rfl (by unfold vp_in; decide)) (i := 2) (by decide) ?_
  refine w_icmpge rL_sounds_20 (fun h20 => ?_) (fun h20 => ?_)
  · replace q := q.1 h20
    refine w_aload_n rL_sounds_62 rfl ?_
    refine w_iload rL_sounds_63 rfl ?_
    refine w_iconst rL_sounds_65 (x := 3) (by decide) ?_
    refine w_iadd rL_sounds_66 ?_
    have h67 := q.1
    replace q := q.2
    refine x_iaload rL_sounds_67 (G_at (by decide) rfl rfl h67) ?_
    refine w_iconst rL_sounds_68 (x := 1) (by decide) ?_
    refine w_icmpne rL_sounds_69 (fun h69 => ?_) (fun h69 => ?_)
    · replace q := q.2 h69
      refine w_iconst rL_sounds_127 (x := 0) (by decide) ?_
      refine w_istore rL_sounds_128 rfl trivial ?_
      refine w_aload_n rL_sounds_130 rfl ?_
      refine w_iload rL_sounds_131 rfl ?_
      refine w_iload rL_sounds_133 rfl ?_
      refine w_invokestatic rL_sounds_135 rfl rfl rfl (Nat.le_of_ble_eq_true rfl) ⟨trivial, trivial, trivial, trivial⟩ trivial q.1.1 q.1.2 ?_
      replace q := q.2
      exact q
    · replace q := q.1 h69
      refine w_iload rL_sounds_72 rfl ?_
      refine w_ifne rL_sounds_74 (fun h74 => ?_) (fun h74 => ?_)
      · replace q := q.2 h74
        refine w_iconst rL_sounds_127 (x := 0) (by decide) ?_
        refine w_istore rL_sounds_128 rfl trivial ?_
        refine w_aload_n rL_sounds_130 rfl ?_
        refine w_iload rL_sounds_131 rfl ?_
        refine w_iload rL_sounds_133 rfl ?_
        refine w_invokestatic rL_sounds_135 rfl rfl rfl (Nat.le_of_ble_eq_true rfl) ⟨trivial, trivial, trivial, trivial⟩ trivial q.1.1 q.1.2 ?_
        replace q := q.2
        exact q
      · replace q := q.1 h74
        refine w_aload_n rL_sounds_77 rfl ?_
        refine w_iload rL_sounds_78 rfl ?_
        refine w_invokevirtual rL_sounds_80 rfl rfl rfl (Nat.le_of_ble_eq_true rfl) ⟨trivial, trivial, trivial⟩ (G_is (by decide) rfl) q.1.1 q.1.2 ?_
        replace q := q.2
        exact q
  · replace q := q.2 h20
    refine w_iload rL_sounds_23 rfl ?_
    have j25 : ∀ s25_0 : Int32, s25_0 = (if x8 = 0 then (if (I 501 (Int32.toNatClampNeg x9)) = x5 then (if (I 501 (Int32.toNatClampNeg (12 + x9))) = 0 then 1 else 0 : Int32) else 0 : Int32) else 1 : Int32) → WP mL_sounds 54 [some (.ref 0), some (.ref 498), some (.ref 499), some (.ref 500), some (.ref 501), some (.int x5), some (.int x6), some (.int x7), some (.int x8), some (.int x9), none] [.int s25_0] (G X I L F) c s Q := by
      intro s25_0 es25_0
      replace q := q.2
      replace q := q s25_0 es25_0
      refine w_istore rL_sounds_54 rfl trivial ?_
      refine w_iinc rL_sounds_56 rfl rfl trivial ?_
      refine w_goto rL_sounds_59 ?_
      exact q
    replace q := q.1
    refine w_ifne rL_sounds_25 (fun h25 => ?_) (fun h25 => ?_)
    · skip
      refine w_iconst rL_sounds_49 (x := 1) (by decide) ?_
      refine w_goto rL_sounds_50 ?_
      exact j25 _ (if_neg h25).symm
    · replace q := q h25
      refine w_aload rL_sounds_28 rfl ?_
      refine w_iload rL_sounds_30 rfl ?_
      have h32 := q.1
      replace q := q.2
      refine x_iaload rL_sounds_32 (G_at (by decide) rfl rfl h32) ?_
      refine w_iload rL_sounds_33 rfl ?_
      refine w_icmpne rL_sounds_35 (fun h35 => ?_) (fun h35 => ?_)
      · skip
        refine w_iconst rL_sounds_53 (x := 0) (by decide) ?_
        exact j25 _ ((if_pos h25).trans (if_neg h35)).symm
      · replace q := q h35
        refine w_aload rL_sounds_38 rfl ?_
        refine w_bipush rL_sounds_40 (x := 12) (by decide) ?_
        refine w_iload rL_sounds_42 rfl ?_
        refine w_iadd rL_sounds_44 ?_
        have h45 := q.1
        replace q := q.2
        refine x_iaload rL_sounds_45 (G_at (by decide) rfl rfl h45) ?_
        refine w_ifne rL_sounds_46 (fun h46 => ?_) (fun h46 => ?_)
        · skip
          refine w_iconst rL_sounds_53 (x := 0) (by decide) ?_
          exact j25 _ (((if_pos h25).trans (if_pos h35)).trans (if_neg h46)).symm
        · skip
          refine w_iconst rL_sounds_49 (x := 1) (by decide) ?_
          refine w_goto rL_sounds_50 ?_
          exact j25 _ (((if_pos h25).trans (if_pos h35)).trans (if_pos h46)).symm
theorem k_L_sounds_83 {X : Nat × (Nat × (Nat → Int32))} {I : Nat → Nat → Int32} {L : Nat → Nat → Int64} {F : Nat → Nat → UInt32} {Q : AQ} {c s : Nat} {x5 : Int32} {x6 : Int32} {x7 : Int32} {x8 : Int32} {x9 : Int32} {e0 : Int32} (q : (e0 = 0 → vp_in x6 48 ∧ (vp_in (I 500 (Int32.toNatClampNeg x6)) 64 ∧ (vp_in (x7 + 1) 22 ∧ (((I 499 (Int32.toNatClampNeg (I 500 (Int32.toNatClampNeg x6)))) = (I 498 (Int32.toNatClampNeg (x7 + 1))) → vp_in (36 + x6) 48 ∧ ((c ≤ 10 ∧ s ≤ 60) ∧ (vp_in (x7 + 5) 22 ∧ ((c + 0 ≤ 10 ∧ s + 0 ≤ 60) ∧ (WP mL_bits 0 (am_ent 2 [.int (I 498 (Int32.toNatClampNeg (x7 + 5)))]) [] (G X I L F) 0 0 (am_kq mL_sounds 117 [some (.ref 0), some (.ref 498), some (.ref 499), some (.ref 500), some (.ref 501), some (.int x5), some (.int x6), some (.int x7), some (.int x8), some (.int x9), none] [.int (f_L_key (I 500 (Int32.toNatClampNeg (36 + x6))))] (c + 0) (s + 0) Q)))))) ∧ (¬ (I 499 (Int32.toNatClampNeg (I 500 (Int32.toNatClampNeg x6)))) = (I 498 (Int32.toNatClampNeg (x7 + 1))) → (c + 1 ≤ 10 ∧ s + 6 ≤ 60) ∧ (WP mL_ofSound 0 (am_ent 4 [.ref 0, .int x5, .int x6]) [] (G X I L F) 0 0 (am_kq mL_sounds 135 [some (.ref 0), some (.ref 498), some (.ref 499), some (.ref 500), some (.ref 501), some (.int x5), some (.int x6), some (.int x7), some (.int x8), some (.int 0), none] [] (c + 1) (s + 6) Q))))))) ∧ (¬ e0 = 0 → (c + 1 ≤ 10 ∧ s + 6 ≤ 60) ∧ (WP mL_ofSound 0 (am_ent 4 [.ref 0, .int x5, .int x6]) [] (G X I L F) 0 0 (am_kq mL_sounds 135 [some (.ref 0), some (.ref 498), some (.ref 499), some (.ref 500), some (.ref 501), some (.int x5), some (.int x6), some (.int x7), some (.int x8), some (.int 0), none] [] (c + 1) (s + 6) Q)))) : WP mL_sounds 83 [some (.ref 0), some (.ref 498), some (.ref 499), some (.ref 500), some (.ref 501), some (.int x5), some (.int x6), some (.int x7), some (.int x8), some (.int x9), none] [.int e0] (G X I L F) c s Q := by
  refine w_ifne rL_sounds_83 (fun h83 => ?_) (fun h83 => ?_)
  · replace q := q.2 h83
    refine w_iconst rL_sounds_127 (x := 0) (by decide) ?_
    refine w_istore rL_sounds_128 rfl trivial ?_
    refine w_aload_n rL_sounds_130 rfl ?_
    refine w_iload rL_sounds_131 rfl ?_
    refine w_iload rL_sounds_133 rfl ?_
    refine w_invokestatic rL_sounds_135 rfl rfl rfl (Nat.le_of_ble_eq_true rfl) ⟨trivial, trivial, trivial, trivial⟩ trivial q.1.1 q.1.2 ?_
    replace q := q.2
    exact q
  · replace q := q.1 h83
    refine w_aload_n rL_sounds_86 rfl ?_
    refine w_aload_n rL_sounds_87 rfl ?_
    refine w_iload rL_sounds_88 rfl ?_
    have h90 := q.1
    replace q := q.2
    refine x_iaload rL_sounds_90 (G_at (by decide) rfl rfl h90) ?_
    have h91 := q.1
    replace q := q.2
    refine x_iaload rL_sounds_91 (G_at (by decide) rfl rfl h91) ?_
    refine w_aload_n rL_sounds_92 rfl ?_
    refine w_iload rL_sounds_93 rfl ?_
    refine w_iconst rL_sounds_95 (x := 1) (by decide) ?_
    refine w_iadd rL_sounds_96 ?_
    have h97 := q.1
    replace q := q.2
    refine x_iaload rL_sounds_97 (G_at (by decide) rfl rfl h97) ?_
    refine w_icmpne rL_sounds_98 (fun h98 => ?_) (fun h98 => ?_)
    · replace q := q.2 h98
      refine w_iconst rL_sounds_127 (x := 0) (by decide) ?_
      refine w_istore rL_sounds_128 rfl trivial ?_
      refine w_aload_n rL_sounds_130 rfl ?_
      refine w_iload rL_sounds_131 rfl ?_
      refine w_iload rL_sounds_133 rfl ?_
      refine w_invokestatic rL_sounds_135 rfl rfl rfl (Nat.le_of_ble_eq_true rfl) ⟨trivial, trivial, trivial, trivial⟩ trivial q.1.1 q.1.2 ?_
      replace q := q.2
      exact q
    · replace q := q.1 h98
      refine w_aload_n rL_sounds_101 rfl ?_
      refine w_bipush rL_sounds_102 (x := 36) (by decide) ?_
      refine w_iload rL_sounds_104 rfl ?_
      refine w_iadd rL_sounds_106 ?_
      have h107 := q.1
      replace q := q.2
      refine x_iaload rL_sounds_107 (G_at (by decide) rfl rfl h107) ?_
      have bd108 := q.1
      replace q := q.2
      refine w_invokestatic rL_sounds_108 rfl rfl rfl (Nat.le_of_ble_eq_true rfl) ⟨trivial, trivial⟩ trivial bd108.1 bd108.2 ?_
      refine s_L_key ?_
      show WP mL_sounds 111 _ _ _ c s _
      refine w_aload_n rL_sounds_111 rfl ?_
      refine w_iload rL_sounds_112 rfl ?_
      refine w_iconst rL_sounds_114 (x := 5) (by decide) ?_
      refine w_iadd rL_sounds_115 ?_
      have h116 := q.1
      replace q := q.2
      refine x_iaload rL_sounds_116 (G_at (by decide) rfl rfl h116) ?_
      refine w_invokestatic rL_sounds_117 rfl rfl rfl (Nat.le_of_ble_eq_true rfl) ⟨trivial, trivial⟩ trivial q.1.1 q.1.2 ?_
      replace q := q.2
      exact q
theorem k_L_sounds_120 {X : Nat × (Nat × (Nat → Int32))} {I : Nat → Nat → Int32} {L : Nat → Nat → Int64} {F : Nat → Nat → UInt32} {Q : AQ} {c s : Nat} {x5 : Int32} {x6 : Int32} {x7 : Int32} {x8 : Int32} {x9 : Int32} {e0 : Int32} {e1 : Int32} (q : ∀ s120_0 : Int32, s120_0 = (if e0 < e1 then 0 else 1 : Int32) → ((c + 1 ≤ 10 ∧ s + 6 ≤ 60) ∧ (WP mL_ofSound 0 (am_ent 4 [.ref 0, .int x5, .int x6]) [] (G X I L F) 0 0 (am_kq mL_sounds 135 [some (.ref 0), some (.ref 498), some (.ref 499), some (.ref 500), some (.ref 501), some (.int x5), some (.int x6), some (.int x7), some (.int x8), some (.int s120_0), none] [] (c + 1) (s + 6) Q)))) : WP mL_sounds 120 [some (.ref 0), some (.ref 498), some (.ref 499), some (.ref 500), some (.ref 501), some (.int x5), some (.int x6), some (.int x7), some (.int x8), some (.int x9), none] [.int e1, .int e0] (G X I L F) c s Q := by
  have j120 : ∀ s120_0 : Int32, s120_0 = (if e0 < e1 then 0 else 1 : Int32) → WP mL_sounds 128 [some (.ref 0), some (.ref 498), some (.ref 499), some (.ref 500), some (.ref 501), some (.int x5), some (.int x6), some (.int x7), some (.int x8), some (.int x9), none] [.int s120_0] (G X I L F) c s Q := by
    intro s120_0 es120_0
    replace q := q s120_0 es120_0
    refine w_istore rL_sounds_128 rfl trivial ?_
    refine w_aload_n rL_sounds_130 rfl ?_
    refine w_iload rL_sounds_131 rfl ?_
    refine w_iload rL_sounds_133 rfl ?_
    refine w_invokestatic rL_sounds_135 rfl rfl rfl (Nat.le_of_ble_eq_true rfl) ⟨trivial, trivial, trivial, trivial⟩ trivial q.1.1 q.1.2 ?_
    replace q := q.2
    exact q
  refine w_icmplt rL_sounds_120 (fun h120 => ?_) (fun h120 => ?_)
  · skip
    refine w_iconst rL_sounds_127 (x := 0) (by decide) ?_
    exact j120 _ (if_pos h120).symm
  · skip
    refine w_iconst rL_sounds_123 (x := 1) (by decide) ?_
    refine w_goto rL_sounds_124 ?_
    exact j120 _ (if_neg h120).symm
theorem k_L_sounds_138 {X : Nat × (Nat × (Nat → Int32))} {I : Nat → Nat → Int32} {L : Nat → Nat → Int64} {F : Nat → Nat → UInt32} {Q : AQ} {c s : Nat} {x5 : Int32} {x6 : Int32} {x7 : Int32} {x8 : Int32} {x9 : Int32} {e0 : Int32} (q : ∀ s144_1 : Int32, s144_1 = (if x9 = 0 then (-2) else (I 498 2) : Int32) → ((e0 = s144_1 → (x9 = 0 → Q (.inl (some (.int 1))) (G X I L F)) ∧ (¬ x9 = 0 → vp_in e0 36 ∧ (vp_in (12 + e0) 36 ∧ ((c + 1 ≤ 10 ∧ s + 6 ≤ 60) ∧ (WP mX9_walkers 0 (am_ent 2 [.ref 0, .int e0]) [] (G X (am_u (am_u I 501 (Int32.toNatClampNeg e0) x5) 501 (Int32.toNatClampNeg (12 + e0)) 0) L F) 0 0 (am_kq mL_sounds 191 [some (.ref 0), some (.ref 498), some (.ref 499), some (.ref 500), some (.ref 501), some (.int x5), some (.int x6), some (.int x7), some (.int x8), some (.int x9), some (.int e0)] [.int (24 + e0), .ref 501] (c + 1) (s + 6) Q)))))) ∧ (¬ e0 = s144_1 → Q (.inl (some (.int 0))) (G X I L F)))) : WP mL_sounds 138 [some (.ref 0), some (.ref 498), some (.ref 499), some (.ref 500), some (.ref 501), some (.int x5), some (.int x6), some (.int x7), some (.int x8), some (.int x9), none] [.int e0] (G X I L F) c s Q := by
  refine w_istore rL_sounds_138 rfl trivial ?_
  refine w_iload rL_sounds_140 rfl ?_
  refine w_iload rL_sounds_142 rfl ?_
  have j144 : ∀ s144_1 : Int32, s144_1 = (if x9 = 0 then (-2) else (I 498 2) : Int32) → WP mL_sounds 155 [some (.ref 0), some (.ref 498), some (.ref 499), some (.ref 500), some (.ref 501), some (.int x5), some (.int x6), some (.int x7), some (.int x8), some (.int x9), some (.int e0)] [.int s144_1, .int e0] (G X I L F) c s Q := by
    intro s144_1 es144_1
    replace q := q s144_1 es144_1
    refine w_icmpeq rL_sounds_155 (fun h155 => ?_) (fun h155 => ?_)
    · replace q := q.1 h155
      refine w_iload rL_sounds_160 rfl ?_
      refine w_ifeq rL_sounds_162 (fun h162 => ?_) (fun h162 => ?_)
      · replace q := q.1 h162
        refine w_iload rL_sounds_202 rfl ?_
        refine w_ifeq rL_sounds_204 (fun _ => ?_) (fun h => absurd h162 h)
        refine w_iconst rL_sounds_244 (x := 1) (by decide) ?_
        refine w_goto rL_sounds_245 ?_
        refine w_ireturn rL_sounds_249 (Or.inr rfl) ?_
        exact q
      · replace q := q.2 h162
        refine w_aload rL_sounds_165 rfl ?_
        refine w_iload rL_sounds_167 rfl ?_
        refine w_iload rL_sounds_169 rfl ?_
        have h171 := q.1
        replace q := q.2
        refine x_iastore rL_sounds_171 (G_at (by decide) rfl rfl h171) ?_
        refine w_aload rL_sounds_172 rfl ?_
        refine w_bipush rL_sounds_174 (x := 12) (by decide) ?_
        refine w_iload rL_sounds_176 rfl ?_
        refine w_iadd rL_sounds_178 ?_
        refine w_iconst rL_sounds_179 (x := 0) (by decide) ?_
        have h180 := q.1
        replace q := q.2
        refine x_iastore rL_sounds_180 (G_at (by decide) rfl rfl h180) ?_
        refine w_aload rL_sounds_181 rfl ?_
        refine w_bipush rL_sounds_183 (x := 24) (by decide) ?_
        refine w_iload rL_sounds_185 rfl ?_
        refine w_iadd rL_sounds_187 ?_
        refine w_aload_n rL_sounds_188 rfl ?_
        refine w_iload rL_sounds_189 rfl ?_
        refine w_invokevirtual rL_sounds_191 rfl rfl rfl (Nat.le_of_ble_eq_true rfl) ⟨trivial, trivial, trivial⟩ (G_is (by decide) rfl) q.1.1 q.1.2 ?_
        replace q := q.2
        exact q
    · replace q := q.2 h155
      refine w_iconst rL_sounds_158 (x := 0) (by decide) ?_
      refine w_ireturn rL_sounds_159 (Or.inl rfl) ?_
      exact q
  refine w_ifeq rL_sounds_144 (fun h144 => ?_) (fun h144 => ?_)
  · skip
    refine w_bipush rL_sounds_153 (x := -2) (by decide) ?_
    exact j144 _ (if_pos h144).symm
  · skip
    refine w_aload_n rL_sounds_147 rfl ?_
    refine w_iconst rL_sounds_148 (x := 2) (by decide) ?_
    refine xl_iaload rL_sounds_149 (G_at (by decide) rfl rfl (by unfold vp_in; decide)) (i := 2) (by decide) ?_
    refine w_goto rL_sounds_150 ?_
    exact j144 _ (if_neg h144).symm
theorem k_L_sounds_194 {X : Nat × (Nat × (Nat → Int32))} {I : Nat → Nat → Int32} {L : Nat → Nat → Int64} {F : Nat → Nat → UInt32} {Q : AQ} {c s : Nat} {x5 : Int32} {x6 : Int32} {x7 : Int32} {x8 : Int32} {x9 : Int32} {x10 : Int32} {e1 : Int32} {e2 : Int32} (q : vp_in e1 36 ∧ ((x9 = 0 → Q (.inl (some (.int 1))) (G X (am_u (am_u I 501 (Int32.toNatClampNeg e1) e2) 498 2 ((I 498 2) + 1)) L F)) ∧ (¬ x9 = 0 → (c + 1 ≤ 10 ∧ s + 6 ≤ 60) ∧ (WP mX9_siren 0 (am_ent 2 [.ref 0, .int x10]) [] (G X (am_u (am_u I 501 (Int32.toNatClampNeg e1) e2) 498 2 ((I 498 2) + 1)) L F) 0 0 (am_kq mL_sounds 210 [some (.ref 0), some (.ref 498), some (.ref 499), some (.ref 500), some (.ref 501), some (.int x5), some (.int x6), some (.int x7), some (.int x8), some (.int x9), some (.int x10)] [] (c + 1) (s + 6) Q))))) : WP mL_sounds 194 [some (.ref 0), some (.ref 498), some (.ref 499), some (.ref 500), some (.ref 501), some (.int x5), some (.int x6), some (.int x7), some (.int x8), some (.int x9), some (.int x10)] [.int e2, .int e1, .ref 501] (G X I L F) c s Q := by
  have h194 := q.1
  replace q := q.2
  refine x_iastore rL_sounds_194 (G_at (by decide) rfl rfl h194) ?_
  refine w_aload_n rL_sounds_195 rfl ?_
  refine w_iconst rL_sounds_196 (x := 2) (by decide) ?_
  refine w_dup2 rL_sounds_197 trivial trivial ?_
  refine xl_iaload rL_sounds_198 (G_at (by decide) rfl rfl (by unfold vp_in; decide)) (i := 2) (by decide) ?_
  rw [au_ne (f := I) (o := 501) (k := (Int32.toNatClampNeg e1)) (a := 498) (b := 2) (fun z => absurd z.1 (by decide))]
  refine w_iconst rL_sounds_199 (x := 1) (by decide) ?_
  refine w_iadd rL_sounds_200 ?_
  refine xl_iastore rL_sounds_201 (G_at (by decide) rfl rfl (by unfold vp_in; decide)) (i := 2) (by decide) ?_
  refine w_iload rL_sounds_202 rfl ?_
  refine w_ifeq rL_sounds_204 (fun h204 => ?_) (fun h204 => ?_)
  · replace q := q.1 h204
    refine w_iconst rL_sounds_244 (x := 1) (by decide) ?_
    refine w_goto rL_sounds_245 ?_
    refine w_ireturn rL_sounds_249 (Or.inr rfl) ?_
    exact q
  · replace q := q.2 h204
    refine w_aload_n rL_sounds_207 rfl ?_
    refine w_iload rL_sounds_208 rfl ?_
    refine w_invokevirtual rL_sounds_210 rfl rfl rfl (Nat.le_of_ble_eq_true rfl) ⟨trivial, trivial, trivial⟩ (G_is (by decide) rfl) q.1.1 q.1.2 ?_
    replace q := q.2
    exact q
theorem k_L_sounds_213 {X : Nat × (Nat × (Nat → Int32))} {I : Nat → Nat → Int32} {L : Nat → Nat → Int64} {F : Nat → Nat → UInt32} {Q : AQ} {c s : Nat} {x5 : Int32} {x6 : Int32} {x7 : Int32} {x8 : Int32} {x9 : Int32} {x10 : Int32} {e0 : Int32} (q : ((e0 = 0 → vp_in (24 + x10) 36 ∧ ((¬ (I 501 (Int32.toNatClampNeg (24 + x10))) < 0 → vp_in (24 + x10) 36 ∧ (vp_in (x7 + 4) 22 ∧ (True)))))) ∧ (∀ s213_0 : Int32, s213_0 = (if e0 = 0 then (if (I 501 (Int32.toNatClampNeg (24 + x10))) < 0 then 0 else (if (I 498 (Int32.toNatClampNeg (x7 + 4))) < (I 501 (Int32.toNatClampNeg (24 + x10))) then 0 else 1 : Int32) : Int32) else 0 : Int32) → ((s213_0 = 0 ∨ s213_0 = 1) ∧ (Q (.inl (some (.int s213_0))) (G X I L F))))) : WP mL_sounds 213 [some (.ref 0), some (.ref 498), some (.ref 499), some (.ref 500), some (.ref 501), some (.int x5), some (.int x6), some (.int x7), some (.int x8), some (.int x9), some (.int x10)] [.int e0] (G X I L F) c s Q := by
  have j213 : ∀ s213_0 : Int32, s213_0 = (if e0 = 0 then (if (I 501 (Int32.toNatClampNeg (24 + x10))) < 0 then 0 else (if (I 498 (Int32.toNatClampNeg (x7 + 4))) < (I 501 (Int32.toNatClampNeg (24 + x10))) then 0 else 1 : Int32) : Int32) else 0 : Int32) → WP mL_sounds 249 [some (.ref 0), some (.ref 498), some (.ref 499), some (.ref 500), some (.ref 501), some (.int x5), some (.int x6), some (.int x7), some (.int x8), some (.int x9), some (.int x10)] [.int s213_0] (G X I L F) c s Q := by
    intro s213_0 es213_0
    replace q := q.2
    replace q := q s213_0 es213_0
    have z249 := q.1
    replace q := q.2
    refine w_ireturn rL_sounds_249 z249 ?_
    exact q
  replace q := q.1
  refine w_ifne rL_sounds_213 (fun h213 => ?_) (fun h213 => ?_)
  · skip
    refine w_iconst rL_sounds_248 (x := 0) (by decide) ?_
    exact j213 _ (if_neg h213).symm
  · replace q := q h213
    refine w_aload rL_sounds_216 rfl ?_
    refine w_bipush rL_sounds_218 (x := 24) (by decide) ?_
    refine w_iload rL_sounds_220 rfl ?_
    refine w_iadd rL_sounds_222 ?_
    have h223 := q.1
    replace q := q.2
    refine x_iaload rL_sounds_223 (G_at (by decide) rfl rfl h223) ?_
    refine w_iflt rL_sounds_224 (fun h224 => ?_) (fun h224 => ?_)
    · skip
      refine w_iconst rL_sounds_248 (x := 0) (by decide) ?_
      exact j213 _ ((if_pos h213).trans (if_pos h224)).symm
    · replace q := q h224
      refine w_aload rL_sounds_227 rfl ?_
      refine w_bipush rL_sounds_229 (x := 24) (by decide) ?_
      refine w_iload rL_sounds_231 rfl ?_
      refine w_iadd rL_sounds_233 ?_
      have h234 := q.1
      replace q := q.2
      refine x_iaload rL_sounds_234 (G_at (by decide) rfl rfl h234) ?_
      refine w_aload_n rL_sounds_235 rfl ?_
      refine w_iload rL_sounds_236 rfl ?_
      refine w_iconst rL_sounds_238 (x := 4) (by decide) ?_
      refine w_iadd rL_sounds_239 ?_
      have h240 := q.1
      replace q := q.2
      refine x_iaload rL_sounds_240 (G_at (by decide) rfl rfl h240) ?_
      refine w_icmpgt rL_sounds_241 (fun h241 => ?_) (fun h241 => ?_)
      · skip
        refine w_iconst rL_sounds_248 (x := 0) (by decide) ?_
        exact j213 _ (((if_pos h213).trans (if_neg h224)).trans (if_pos h241)).symm
      · skip
        refine w_iconst rL_sounds_244 (x := 1) (by decide) ?_
        refine w_goto rL_sounds_245 ?_
        exact j213 _ (((if_pos h213).trans (if_neg h224)).trans (if_neg h241)).symm
theorem k_L_passes_0 {X : Nat × (Nat × (Nat → Int32))} {I : Nat → Nat → Int32} {L : Nat → Nat → Int64} {F : Nat → Nat → UInt32} {Q : AQ} {hours : Int32} (q : WP mX9_pass 0 (am_ent 4 [.ref 0, .int hours]) [] (G X (am_u I 498 0 ((I 498 0) + hours)) L F) 0 0 (am_kq mL_passes 9 [some (.ref 0), some (.ref 498), some (.ref 501), some (.int hours), none, none, none] [] 1 6 Q)) : WP mL_passes 0 (am_ent 7 [.ref 0, .ref 498, .ref 501, .int hours]) [] (G X I L F) 0 0 Q := by
  refine w_aload_n rL_passes_0 rfl ?_
  refine w_iconst rL_passes_1 (x := 0) (by decide) ?_
  refine w_dup2 rL_passes_2 trivial trivial ?_
  refine xl_iaload rL_passes_3 (G_at (by decide) rfl rfl (by unfold vp_in; decide)) (i := 0) (by decide) ?_
  refine w_iload_n rL_passes_4 rfl ?_
  refine w_iadd rL_passes_5 ?_
  refine xl_iastore rL_passes_6 (G_at (by decide) rfl rfl (by unfold vp_in; decide)) (i := 0) (by decide) ?_
  refine w_aload_n rL_passes_7 rfl ?_
  refine w_iload_n rL_passes_8 rfl ?_
  refine w_invokevirtual rL_passes_9 rfl rfl rfl (Nat.le_of_ble_eq_true rfl) ⟨trivial, trivial, trivial⟩ (G_is (by decide) rfl) (by decide) (by decide) ?_
  exact q
theorem k_L_passes_12 {X : Nat × (Nat × (Nat → Int32))} {I : Nat → Nat → Int32} {L : Nat → Nat → Int64} {F : Nat → Nat → UInt32} {Q : AQ} {c s : Nat} {x3 : Int32} {e0 : Int32} (q : ∀ s15_0 : Int32, s15_0 = (if e0 = (I 498 0) then 1 else 0 : Int32) → (WP mL_passes 28 [some (.ref 0), some (.ref 498), some (.ref 501), some (.int x3), some (.int s15_0), some (.int 0), none] [] (G X I L F) c s Q)) : WP mL_passes 12 [some (.ref 0), some (.ref 498), some (.ref 501), some (.int x3), none, none, none] [.int e0] (G X I L F) c s Q := by
  refine w_aload_n rL_passes_12 rfl ?_
  refine w_iconst rL_passes_13 (x := 0) (by decide) ?_
  refine xl_iaload rL_passes_14 (G_at (by decide) rfl rfl (by unfold vp_in; decide)) (i := 0) (by decide) ?_
  have j15 : ∀ s15_0 : Int32, s15_0 = (if e0 = (I 498 0) then 1 else 0 : Int32) → WP mL_passes 23 [some (.ref 0), some (.ref 498), some (.ref 501), some (.int x3), none, none, none] [.int s15_0] (G X I L F) c s Q := by
    intro s15_0 es15_0
    replace q := q s15_0 es15_0
    refine w_istore rL_passes_23 rfl trivial ?_
    refine w_iconst rL_passes_25 (x := 0) (by decide) ?_
    refine w_istore rL_passes_26 rfl trivial ?_
    exact q
  refine w_icmpne rL_passes_15 (fun h15 => ?_) (fun h15 => ?_)
  · skip
    refine w_iconst rL_passes_22 (x := 0) (by decide) ?_
    exact j15 _ (if_neg h15).symm
  · skip
    refine w_iconst rL_passes_18 (x := 1) (by decide) ?_
    refine w_goto rL_passes_19 ?_
    exact j15 _ (if_pos h15).symm
theorem k_L_passes_28 {X : Nat × (Nat × (Nat → Int32))} {I : Nat → Nat → Int32} {L : Nat → Nat → Int64} {F : Nat → Nat → UInt32} {Q : AQ} {c s : Nat} {x3 : Int32} {x4 : Int32} {x5 : Int32} {d6 : Option Value} (q : ((I 498 2) ≤ x5 → (x4 = 0 ∨ x4 = 1) ∧ (Q (.inl (some (.int x4))) (G X I L F))) ∧ (¬ (I 498 2) ≤ x5 → (x4 = 0 → (x4 = 0 ∨ x4 = 1) ∧ (Q (.inl (some (.int x4))) (G X I L F))) ∧ (¬ x4 = 0 → (c + 1 ≤ 40 ∧ s + 6 ≤ 240) ∧ (WP mX9_siren 0 (am_ent 2 [.ref 0, .int x5]) [] (G X I L F) 0 0 (am_kq mL_passes 44 [some (.ref 0), some (.ref 498), some (.ref 501), some (.int x3), some (.int x4), some (.int x5), d6] [] (c + 1) (s + 6) Q))))) : WP mL_passes 28 [some (.ref 0), some (.ref 498), some (.ref 501), some (.int x3), some (.int x4), some (.int x5), d6] [] (G X I L F) c s Q := by
  refine w_iload rL_passes_28 rfl ?_
  refine w_aload_n rL_passes_30 rfl ?_
  refine w_iconst rL_passes_31 (x := 2) (by decide) ?_
  refine xl_iaload rL_passes_32 (G_at (by decide) rfl rfl (by unfold vp_in; decide)) (i := 2) (by decide) ?_
  refine w_icmpge rL_passes_33 (fun h33 => ?_) (fun h33 => ?_)
  · replace q := q.1 h33
    refine w_iload rL_passes_123 rfl ?_
    have z125 := q.1
    replace q := q.2
    refine w_ireturn rL_passes_125 z125 ?_
    exact q
  · replace q := q.2 h33
    refine w_iload rL_passes_36 rfl ?_
    refine w_ifeq rL_passes_38 (fun h38 => ?_) (fun h38 => ?_)
    · replace q := q.1 h38
      refine w_iload rL_passes_123 rfl ?_
      have z125 := q.1
      replace q := q.2
      refine w_ireturn rL_passes_125 z125 ?_
      exact q
    · replace q := q.2 h38
      refine w_aload_n rL_passes_41 rfl ?_
      refine w_iload rL_passes_42 rfl ?_
      refine w_invokevirtual rL_passes_44 rfl rfl rfl (Nat.le_of_ble_eq_true rfl) ⟨trivial, trivial, trivial⟩ (G_is (by decide) rfl) q.1.1 q.1.2 ?_
      replace q := q.2
      exact q
theorem k_L_passes_47 {X : Nat × (Nat × (Nat → Int32))} {I : Nat → Nat → Int32} {L : Nat → Nat → Int64} {F : Nat → Nat → UInt32} {Q : AQ} {c s : Nat} {x3 : Int32} {x4 : Int32} {x5 : Int32} {d6 : Option Value} {e0 : Int32} (q : vp_in (12 + x5) 36 ∧ (((I 501 (Int32.toNatClampNeg (12 + x5))) = 0 → (e0 < 0 → vp_in (12 + x5) 36 ∧ (WP mL_passes 28 [some (.ref 0), some (.ref 498), some (.ref 501), some (.int x3), some (.int 0), some (.int (x5 + 1)), some (.int e0)] [] (G X (am_u I 501 (Int32.toNatClampNeg (12 + x5)) e0) L F) c s Q)) ∧ (¬ e0 < 0 → (4 ≤ e0 → vp_in (12 + x5) 36 ∧ (WP mL_passes 28 [some (.ref 0), some (.ref 498), some (.ref 501), some (.int x3), some (.int 0), some (.int (x5 + 1)), some (.int e0)] [] (G X (am_u I 501 (Int32.toNatClampNeg (12 + x5)) e0) L F) c s Q)) ∧ (¬ 4 ≤ e0 → (c + 1 ≤ 40 ∧ s + 6 ≤ 240) ∧ (WP mX9_walkers 0 (am_ent 2 [.ref 0, .int x5]) [] (G X I L F) 0 0 (am_kq mL_passes 88 [some (.ref 0), some (.ref 498), some (.ref 501), some (.int x3), some (.int x4), some (.int x5), some (.int e0)] [] (c + 1) (s + 6) Q))))) ∧ (¬ (I 501 (Int32.toNatClampNeg (12 + x5))) = 0 → vp_in (12 + x5) 36 ∧ ((e0 = (I 501 (Int32.toNatClampNeg (12 + x5))) → (c + 1 ≤ 40 ∧ s + 6 ≤ 240) ∧ (WP mX9_walkers 0 (am_ent 2 [.ref 0, .int x5]) [] (G X I L F) 0 0 (am_kq mL_passes 88 [some (.ref 0), some (.ref 498), some (.ref 501), some (.int x3), some (.int x4), some (.int x5), some (.int e0)] [] (c + 1) (s + 6) Q))) ∧ (¬ e0 = (I 501 (Int32.toNatClampNeg (12 + x5))) → vp_in (12 + x5) 36 ∧ (WP mL_passes 28 [some (.ref 0), some (.ref 498), some (.ref 501), some (.int x3), some (.int 0), some (.int (x5 + 1)), some (.int e0)] [] (G X (am_u I 501 (Int32.toNatClampNeg (12 + x5)) e0) L F) c s Q)))))) : WP mL_passes 47 [some (.ref 0), some (.ref 498), some (.ref 501), some (.int x3), some (.int x4), some (.int x5), d6] [.int e0] (G X I L F) c s Q := by
  refine w_istore rL_passes_47 rfl trivial ?_
  refine w_aload_n rL_passes_49 rfl ?_
  refine w_bipush rL_passes_50 (x := 12) (by decide) ?_
  refine w_iload rL_passes_52 rfl ?_
  refine w_iadd rL_passes_54 ?_
  have h55 := q.1
  replace q := q.2
  refine x_iaload rL_passes_55 (G_at (by decide) rfl rfl h55) ?_
  refine w_ifne rL_passes_56 (fun h56 => ?_) (fun h56 => ?_)
  · replace q := q.2 h56
    refine w_iload rL_passes_73 rfl ?_
    refine w_aload_n rL_passes_75 rfl ?_
    refine w_bipush rL_passes_76 (x := 12) (by decide) ?_
    refine w_iload rL_passes_78 rfl ?_
    refine w_iadd rL_passes_80 ?_
    have h81 := q.1
    replace q := q.2
    refine x_iaload rL_passes_81 (G_at (by decide) rfl rfl h81) ?_
    refine w_icmpne rL_passes_82 (fun h82 => ?_) (fun h82 => ?_)
    · replace q := q.2 h82
      refine w_iconst rL_passes_105 (x := 0) (by decide) ?_
      refine w_istore rL_passes_106 rfl trivial ?_
      refine w_aload_n rL_passes_108 rfl ?_
      refine w_bipush rL_passes_109 (x := 12) (by decide) ?_
      refine w_iload rL_passes_111 rfl ?_
      refine w_iadd rL_passes_113 ?_
      refine w_iload rL_passes_114 rfl ?_
      have h116 := q.1
      replace q := q.2
      refine x_iastore rL_passes_116 (G_at (by decide) rfl rfl h116) ?_
      refine w_iinc rL_passes_117 rfl rfl trivial ?_
      refine w_goto rL_passes_120 ?_
      exact q
    · replace q := q.1 h82
      refine w_aload_n rL_passes_85 rfl ?_
      refine w_iload rL_passes_86 rfl ?_
      refine w_invokevirtual rL_passes_88 rfl rfl rfl (Nat.le_of_ble_eq_true rfl) ⟨trivial, trivial, trivial⟩ (G_is (by decide) rfl) q.1.1 q.1.2 ?_
      replace q := q.2
      exact q
  · replace q := q.1 h56
    refine w_iload rL_passes_59 rfl ?_
    refine w_iflt rL_passes_61 (fun h61 => ?_) (fun h61 => ?_)
    · replace q := q.1 h61
      refine w_iconst rL_passes_105 (x := 0) (by decide) ?_
      refine w_istore rL_passes_106 rfl trivial ?_
      refine w_aload_n rL_passes_108 rfl ?_
      refine w_bipush rL_passes_109 (x := 12) (by decide) ?_
      refine w_iload rL_passes_111 rfl ?_
      refine w_iadd rL_passes_113 ?_
      refine w_iload rL_passes_114 rfl ?_
      have h116 := q.1
      replace q := q.2
      refine x_iastore rL_passes_116 (G_at (by decide) rfl rfl h116) ?_
      refine w_iinc rL_passes_117 rfl rfl trivial ?_
      refine w_goto rL_passes_120 ?_
      exact q
    · replace q := q.2 h61
      refine w_iload rL_passes_64 rfl ?_
      refine w_iconst rL_passes_66 (x := 4) (by decide) ?_
      refine w_icmpge rL_passes_67 (fun h67 => ?_) (fun h67 => ?_)
      · replace q := q.1 h67
        refine w_iconst rL_passes_105 (x := 0) (by decide) ?_
        refine w_istore rL_passes_106 rfl trivial ?_
        refine w_aload_n rL_passes_108 rfl ?_
        refine w_bipush rL_passes_109 (x := 12) (by decide) ?_
        refine w_iload rL_passes_111 rfl ?_
        refine w_iadd rL_passes_113 ?_
        refine w_iload rL_passes_114 rfl ?_
        have h116 := q.1
        replace q := q.2
        refine x_iastore rL_passes_116 (G_at (by decide) rfl rfl h116) ?_
        refine w_iinc rL_passes_117 rfl rfl trivial ?_
        refine w_goto rL_passes_120 ?_
        exact q
      · replace q := q.2 h67
        refine w_goto rL_passes_70 ?_
        refine w_aload_n rL_passes_85 rfl ?_
        refine w_iload rL_passes_86 rfl ?_
        refine w_invokevirtual rL_passes_88 rfl rfl rfl (Nat.le_of_ble_eq_true rfl) ⟨trivial, trivial, trivial⟩ (G_is (by decide) rfl) q.1.1 q.1.2 ?_
        replace q := q.2
        exact q
theorem k_L_passes_91 {X : Nat × (Nat × (Nat → Int32))} {I : Nat → Nat → Int32} {L : Nat → Nat → Int64} {F : Nat → Nat → UInt32} {Q : AQ} {c s : Nat} {x3 : Int32} {x4 : Int32} {x5 : Int32} {x6 : Int32} {e0 : Int32} (q : vp_in (24 + x5) 36 ∧ (∀ s98_0 : Int32, s98_0 = (if e0 = (I 501 (Int32.toNatClampNeg (24 + x5))) then 1 else 0 : Int32) → (vp_in (12 + x5) 36 ∧ (WP mL_passes 28 [some (.ref 0), some (.ref 498), some (.ref 501), some (.int x3), some (.int s98_0), some (.int (x5 + 1)), some (.int x6)] [] (G X (am_u I 501 (Int32.toNatClampNeg (12 + x5)) x6) L F) c s Q)))) : WP mL_passes 91 [some (.ref 0), some (.ref 498), some (.ref 501), some (.int x3), some (.int x4), some (.int x5), some (.int x6)] [.int e0] (G X I L F) c s Q := by
  refine w_aload_n rL_passes_91 rfl ?_
  refine w_bipush rL_passes_92 (x := 24) (by decide) ?_
  refine w_iload rL_passes_94 rfl ?_
  refine w_iadd rL_passes_96 ?_
  have h97 := q.1
  replace q := q.2
  refine x_iaload rL_passes_97 (G_at (by decide) rfl rfl h97) ?_
  have j98 : ∀ s98_0 : Int32, s98_0 = (if e0 = (I 501 (Int32.toNatClampNeg (24 + x5))) then 1 else 0 : Int32) → WP mL_passes 106 [some (.ref 0), some (.ref 498), some (.ref 501), some (.int x3), some (.int x4), some (.int x5), some (.int x6)] [.int s98_0] (G X I L F) c s Q := by
    intro s98_0 es98_0
    replace q := q s98_0 es98_0
    refine w_istore rL_passes_106 rfl trivial ?_
    refine w_aload_n rL_passes_108 rfl ?_
    refine w_bipush rL_passes_109 (x := 12) (by decide) ?_
    refine w_iload rL_passes_111 rfl ?_
    refine w_iadd rL_passes_113 ?_
    refine w_iload rL_passes_114 rfl ?_
    have h116 := q.1
    replace q := q.2
    refine x_iastore rL_passes_116 (G_at (by decide) rfl rfl h116) ?_
    refine w_iinc rL_passes_117 rfl rfl trivial ?_
    refine w_goto rL_passes_120 ?_
    exact q
  refine w_icmpne rL_passes_98 (fun h98 => ?_) (fun h98 => ?_)
  · skip
    refine w_iconst rL_passes_105 (x := 0) (by decide) ?_
    exact j98 _ (if_neg h98).symm
  · skip
    refine w_iconst rL_passes_101 (x := 1) (by decide) ?_
    refine w_goto rL_passes_102 ?_
    exact j98 _ (if_pos h98).symm
