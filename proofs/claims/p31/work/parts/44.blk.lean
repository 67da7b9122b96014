/-! own: the blocks of the methods that go round or call on, written by a program -/
set_option maxRecDepth 100000
theorem k_L_isAll_0 {X : Nat × (Nat × (Nat → Int32))} {I : Nat → Nat → Int32} {L : Nat → Nat → Int64} {F : Nat → Nat → UInt32} {Q : AQ} {a : Int32} (q : ((I 498 3) ≤ 0 → WP mL_isAll 79 [some (.ref 0), some (.ref 498), some (.ref 499), some (.ref 500), some (.int a), some (.int 1), some (.int 0), none, none, none, none, none, none] [] (G X I L F) 0 0 Q) ∧ (¬ (I 498 3) ≤ 0 → (¬ (I 498 3) = 0) ∧ (WP mX9_out 0 (am_ent 3 [.ref 0, .int (a - a / (I 498 3) * (I 498 3)), .int ((a / 60) - (a / 60) / 80 * 80)]) [] (G X I L F) 0 0 (am_kq mL_isAll 24 [some (.ref 0), some (.ref 498), some (.ref 499), some (.ref 500), some (.int a), some (.int 1), none, none, none, none, none, none, none] [] 1 6 Q)))) : WP mL_isAll 0 (am_ent 13 [.ref 0, .ref 498, .ref 499, .ref 500, .int a]) [] (G X I L F) 0 0 Q := by
  refine w_iconst rL_isAll_0 (x := 1) (by decide) ?_
  refine w_istore rL_isAll_1 rfl trivial ?_
  refine w_aload_n rL_isAll_3 rfl ?_
  refine w_iconst rL_isAll_4 (x := 3) (by decide) ?_
  refine xl_iaload rL_isAll_5 (G_at (by decide) rfl rfl (by unfold vp_in; decide)) (i := 3) (by decide) ?_
  refine w_ifle rL_isAll_6 (fun h6 => ?_) (fun h6 => ?_)
  · replace q := q.1 h6
    refine w_iconst rL_isAll_76 (x := 0) (by decide) ?_
    refine w_istore rL_isAll_77 rfl trivial ?_
    exact q
  · replace q := q.2 h6
    refine w_aload_n rL_isAll_9 rfl ?_
    refine w_iload rL_isAll_10 rfl ?_
    refine w_aload_n rL_isAll_12 rfl ?_
    refine w_iconst rL_isAll_13 (x := 3) (by decide) ?_
    refine xl_iaload rL_isAll_14 (G_at (by decide) rfl rfl (by unfold vp_in; decide)) (i := 3) (by decide) ?_
    refine w_irem rL_isAll_15 q.1 ?_
    replace q := q.2
    refine w_iload rL_isAll_16 rfl ?_
    refine w_bipush rL_isAll_18 (x := 60) (by decide) ?_
    refine w_idiv rL_isAll_20 (by decide) ?_
    refine w_bipush rL_isAll_21 (x := 80) (by decide) ?_
    refine w_irem rL_isAll_23 (by decide) ?_
    refine w_invokevirtual rL_isAll_24 rfl rfl rfl (Nat.le_of_ble_eq_true rfl) ⟨trivial, trivial, trivial, trivial⟩ (G_is (by decide) rfl) (by decide) (by decide) ?_
    exact q
theorem k_L_isAll_27 {X : Nat × (Nat × (Nat → Int32))} {I : Nat → Nat → Int32} {L : Nat → Nat → Int64} {F : Nat → Nat → UInt32} {Q : AQ} {c s : Nat} {x4 : Int32} {x5 : Int32} {e0 : Int32} (q : (¬ (I 498 3) = 0) ∧ ((c + 1 ≤ 200 ∧ s + 6 ≤ 1200) ∧ (WP mX9_outAnew 0 (am_ent 3 [.ref 0, .int (x4 - x4 / (I 498 3) * (I 498 3)), .int ((x4 / 60) - (x4 / 60) / 80 * 80)]) [] (G X I L F) 0 0 (am_kq mL_isAll 44 [some (.ref 0), some (.ref 498), some (.ref 499), some (.ref 500), some (.int x4), some (.int x5), some (.int e0), none, none, none, none, none, none] [] (c + 1) (s + 6) Q)))) : WP mL_isAll 27 [some (.ref 0), some (.ref 498), some (.ref 499), some (.ref 500), some (.int x4), some (.int x5), none, none, none, none, none, none, none] [.int e0] (G X I L F) c s Q := by
  refine w_istore rL_isAll_27 rfl trivial ?_
  refine w_aload_n rL_isAll_29 rfl ?_
  refine w_iload rL_isAll_30 rfl ?_
  refine w_aload_n rL_isAll_32 rfl ?_
  refine w_iconst rL_isAll_33 (x := 3) (by decide) ?_
  refine xl_iaload rL_isAll_34 (G_at (by decide) rfl rfl (by unfold vp_in; decide)) (i := 3) (by decide) ?_
  refine w_irem rL_isAll_35 q.1 ?_
  replace q := q.2
  refine w_iload rL_isAll_36 rfl ?_
  refine w_bipush rL_isAll_38 (x := 60) (by decide) ?_
  refine w_idiv rL_isAll_40 (by decide) ?_
  refine w_bipush rL_isAll_41 (x := 80) (by decide) ?_
  refine w_irem rL_isAll_43 (by decide) ?_
  refine w_invokevirtual rL_isAll_44 rfl rfl rfl (Nat.le_of_ble_eq_true rfl) ⟨trivial, trivial, trivial, trivial⟩ (G_is (by decide) rfl) q.1.1 q.1.2 ?_
  replace q := q.2
  exact q
theorem k_L_isAll_47 {X : Nat × (Nat × (Nat → Int32))} {I : Nat → Nat → Int32} {L : Nat → Nat → Int64} {F : Nat → Nat → UInt32} {Q : AQ} {c s : Nat} {x4 : Int32} {x5 : Int32} {x6 : Int32} {e0 : Int32} (q : ∀ s49_0 : Int32, s49_0 = (if e0 = x6 then (if 1315859240 < (x6 &&& 2147483647) then 0 else (if x6 = 2147483648 then 0 else 1 : Int32) : Int32) else 0 : Int32) → (WP mL_isAll 79 [some (.ref 0), some (.ref 498), some (.ref 499), some (.ref 500), some (.int x4), some (.int s49_0), some (.int 0), none, none, none, none, none, none] [] (G X I L F) c s Q)) : WP mL_isAll 47 [some (.ref 0), some (.ref 498), some (.ref 499), some (.ref 500), some (.int x4), some (.int x5), some (.int x6), none, none, none, none, none, none] [.int e0] (G X I L F) c s Q := by
  refine w_iload rL_isAll_47 rfl ?_
  have j49 : ∀ s49_0 : Int32, s49_0 = (if e0 = x6 then (if 1315859240 < (x6 &&& 2147483647) then 0 else (if x6 = 2147483648 then 0 else 1 : Int32) : Int32) else 0 : Int32) → WP mL_isAll 74 [some (.ref 0), some (.ref 498), some (.ref 499), some (.ref 500), some (.int x4), some (.int x5), some (.int x6), none, none, none, none, none, none] [.int s49_0] (G X I L F) c s Q := by
    intro s49_0 es49_0
    replace q := q s49_0 es49_0
    refine w_istore rL_isAll_74 rfl trivial ?_
    refine w_iconst rL_isAll_76 (x := 0) (by decide) ?_
    refine w_istore rL_isAll_77 rfl trivial ?_
    exact q
  refine w_icmpne rL_isAll_49 (fun h49 => ?_) (fun h49 => ?_)
  · skip
    refine w_iconst rL_isAll_73 (x := 0) (by decide) ?_
    exact j49 _ (if_neg h49).symm
  · skip
    refine w_iload rL_isAll_52 rfl ?_
    refine w_ldcI rL_isAll_54 (x := 2147483647) (by decide) ?_
    refine w_iand rL_isAll_56 ?_
    refine w_ldcI rL_isAll_57 (x := 1315859240) (by decide) ?_
    refine w_icmpgt rL_isAll_59 (fun h59 => ?_) (fun h59 => ?_)
    · skip
      refine w_iconst rL_isAll_73 (x := 0) (by decide) ?_
      exact j49 _ ((if_pos h49).trans (if_pos h59)).symm
    · skip
      refine w_iload rL_isAll_62 rfl ?_
      refine w_ldcI rL_isAll_64 (x := 2147483648) (by decide) ?_
      refine w_icmpeq rL_isAll_66 (fun h66 => ?_) (fun h66 => ?_)
      · skip
        refine w_iconst rL_isAll_73 (x := 0) (by decide) ?_
        exact j49 _ (((if_pos h49).trans (if_neg h59)).trans (if_pos h66)).symm
      · skip
        refine w_iconst rL_isAll_69 (x := 1) (by decide) ?_
        refine w_goto rL_isAll_70 ?_
        exact j49 _ (((if_pos h49).trans (if_neg h59)).trans (if_neg h66)).symm
theorem k_L_isAll_79 {X : Nat × (Nat × (Nat → Int32))} {I : Nat → Nat → Int32} {L : Nat → Nat → Int64} {F : Nat → Nat → UInt32} {Q : AQ} {c s : Nat} {x4 : Int32} {x5 : Int32} {x6 : Int32} {d7 : Option Value} (q : ((I 498 1) ≤ x6 → WP mL_isAll 199 [some (.ref 0), some (.ref 498), some (.ref 499), some (.ref 500), some (.int x4), some (.int x5), some (.int 0), some (.int 0), none, none, none, none, none] [] (G X I L F) c s Q) ∧ (¬ (I 498 1) ≤ x6 → (x5 = 0 → WP mL_isAll 199 [some (.ref 0), some (.ref 498), some (.ref 499), some (.ref 500), some (.int x4), some (.int x5), some (.int 0), some (.int 0), none, none, none, none, none] [] (G X I L F) c s Q) ∧ (¬ x5 = 0 → (c + 1 ≤ 200 ∧ s + 6 ≤ 1200) ∧ (WP mX9_why 0 (am_ent 2 [.ref 0, .int x6]) [] (G X I L F) 0 0 (am_kq mL_isAll 95 [some (.ref 0), some (.ref 498), some (.ref 499), some (.ref 500), some (.int x4), some (.int x5), some (.int x6), d7, none, none, none, none, none] [] (c + 1) (s + 6) Q))))) : WP mL_isAll 79 [some (.ref 0), some (.ref 498), some (.ref 499), some (.ref 500), some (.int x4), some (.int x5), some (.int x6), d7, none, none, none, none, none] [] (G X I L F) c s Q := by
  refine w_iload rL_isAll_79 rfl ?_
  refine w_aload_n rL_isAll_81 rfl ?_
  refine w_iconst rL_isAll_82 (x := 1) (by decide) ?_
  refine xl_iaload rL_isAll_83 (G_at (by decide) rfl rfl (by unfold vp_in; decide)) (i := 1) (by decide) ?_
  refine w_icmpge rL_isAll_84 (fun h84 => ?_) (fun h84 => ?_)
  · replace q := q.1 h84
    refine w_iconst rL_isAll_193 (x := 0) (by decide) ?_
    refine w_istore rL_isAll_194 rfl trivial ?_
    refine w_iconst rL_isAll_196 (x := 0) (by decide) ?_
    refine w_istore rL_isAll_197 rfl trivial ?_
    exact q
  · replace q := q.2 h84
    refine w_iload rL_isAll_87 rfl ?_
    refine w_ifeq rL_isAll_89 (fun h89 => ?_) (fun h89 => ?_)
    · replace q := q.1 h89
      refine w_iconst rL_isAll_193 (x := 0) (by decide) ?_
      refine w_istore rL_isAll_194 rfl trivial ?_
      refine w_iconst rL_isAll_196 (x := 0) (by decide) ?_
      refine w_istore rL_isAll_197 rfl trivial ?_
      exact q
    · replace q := q.2 h89
      refine w_aload_n rL_isAll_92 rfl ?_
      refine w_iload rL_isAll_93 rfl ?_
      refine w_invokevirtual rL_isAll_95 rfl rfl rfl (Nat.le_of_ble_eq_true rfl) ⟨trivial, trivial, trivial⟩ (G_is (by decide) rfl) q.1.1 q.1.2 ?_
      replace q := q.2
      exact q
theorem k_L_isAll_98 {X : Nat × (Nat × (Nat → Int32))} {I : Nat → Nat → Int32} {L : Nat → Nat → Int64} {F : Nat → Nat → UInt32} {Q : AQ} {c s : Nat} {x4 : Int32} {x5 : Int32} {x6 : Int32} {d7 : Option Value} {e0 : Int32} (q : ∀ s103_0 : Int32, s103_0 = (if e0 = 1 then 1 else 0 : Int32) → (vp_in x6 48 ∧ (vp_in (I 500 (Int32.toNatClampNeg x6)) 64 ∧ ((c + 1 ≤ 200 ∧ s + 6 ≤ 1200) ∧ (WP mX9_latest 0 (am_ent 2 [.ref 0, .int (I 499 (Int32.toNatClampNeg (I 500 (Int32.toNatClampNeg x6))))]) [] (G X I L F) 0 0 (am_kq mL_isAll 118 [some (.ref 0), some (.ref 498), some (.ref 499), some (.ref 500), some (.int x4), some (.int x5), some (.int x6), some (.int e0), none, none, none, none, none] [.int s103_0] (c + 1) (s + 6) Q)))))) : WP mL_isAll 98 [some (.ref 0), some (.ref 498), some (.ref 499), some (.ref 500), some (.int x4), some (.int x5), some (.int x6), d7, none, none, none, none, none] [.int e0] (G X I L F) c s Q := by
  refine w_istore rL_isAll_98 rfl trivial ?_
  refine w_iload rL_isAll_100 rfl ?_
  refine w_iconst rL_isAll_102 (x := 1) (by decide) ?_
  have j103 : ∀ s103_0 : Int32, s103_0 = (if e0 = 1 then 1 else 0 : Int32) → WP mL_isAll 111 [some (.ref 0), some (.ref 498), some (.ref 499), some (.ref 500), some (.int x4), some (.int x5), some (.int x6), some (.int e0), none, none, none, none, none] [.int s103_0] (G X I L F) c s Q := by
    intro s103_0 es103_0
    replace q := q s103_0 es103_0
    refine w_aload_n rL_isAll_111 rfl ?_
    refine w_aload_n rL_isAll_112 rfl ?_
    refine w_aload_n rL_isAll_113 rfl ?_
    refine w_iload rL_isAll_114 rfl ?_
    have h116 := q.1
    replace q := q.2
    refine x_iaload rL_isAll_116 (G_at (by decide) rfl rfl h116) ?_
    have h117 := q.1
    replace q := q.2
    refine x_iaload rL_isAll_117 (G_at (by decide) rfl rfl h117) ?_
    refine w_invokevirtual rL_isAll_118 rfl rfl rfl (Nat.le_of_ble_eq_true rfl) ⟨trivial, trivial, trivial⟩ (G_is (by decide) rfl) q.1.1 q.1.2 ?_
    replace q := q.2
    exact q
  refine w_icmpne rL_isAll_103 (fun h103 => ?_) (fun h103 => ?_)
  · skip
    refine w_iconst rL_isAll_110 (x := 0) (by decide) ?_
    exact j103 _ (if_neg h103).symm
  · skip
    refine w_iconst rL_isAll_106 (x := 1) (by decide) ?_
    refine w_goto rL_isAll_107 ?_
    exact j103 _ (if_pos h103).symm
theorem k_L_isAll_121 {X : Nat × (Nat × (Nat → Int32))} {I : Nat → Nat → Int32} {L : Nat → Nat → Int64} {F : Nat → Nat → UInt32} {Q : AQ} {c s : Nat} {x4 : Int32} {x5 : Int32} {x6 : Int32} {x7 : Int32} {e0 : Int32} {e1 : Int32} (q : vp_in x6 48 ∧ (∀ s125_1 : Int32, s125_1 = (if e1 = (I 500 (Int32.toNatClampNeg x6)) then 0 else 1 : Int32) → ((e0 = s125_1 → (c + 1 ≤ 200 ∧ s + 6 ≤ 1200) ∧ (WP mX9_peak 0 (am_ent 2 [.ref 0, .int x6]) [] (G X I L F) 0 0 (am_kq mL_isAll 139 [some (.ref 0), some (.ref 498), some (.ref 499), some (.ref 500), some (.int x4), some (.int x5), some (.int x6), some (.int x7), none, none, none, none, none] [] (c + 1) (s + 6) Q))) ∧ (¬ e0 = s125_1 → WP mL_isAll 79 [some (.ref 0), some (.ref 498), some (.ref 499), some (.ref 500), some (.int x4), some (.int 0), some (.int (x6 + 1)), some (.int x7), none, none, none, none, none] [] (G X I L F) c s Q)))) : WP mL_isAll 121 [some (.ref 0), some (.ref 498), some (.ref 499), some (.ref 500), some (.int x4), some (.int x5), some (.int x6), some (.int x7), none, none, none, none, none] [.int e1, .int e0] (G X I L F) c s Q := by
  refine w_aload_n rL_isAll_121 rfl ?_
  refine w_iload rL_isAll_122 rfl ?_
  have h124 := q.1
  replace q := q.2
  refine x_iaload rL_isAll_124 (G_at (by decide) rfl rfl h124) ?_
  have j125 : ∀ s125_1 : Int32, s125_1 = (if e1 = (I 500 (Int32.toNatClampNeg x6)) then 0 else 1 : Int32) → WP mL_isAll 133 [some (.ref 0), some (.ref 498), some (.ref 499), some (.ref 500), some (.int x4), some (.int x5), some (.int x6), some (.int x7), none, none, none, none, none] [.int s125_1, .int e0] (G X I L F) c s Q := by
    intro s125_1 es125_1
    replace q := q s125_1 es125_1
    refine w_icmpne rL_isAll_133 (fun h133 => ?_) (fun h133 => ?_)
    · replace q := q.2 h133
      refine w_iconst rL_isAll_184 (x := 0) (by decide) ?_
      refine w_istore rL_isAll_185 rfl trivial ?_
      refine w_iinc rL_isAll_187 rfl rfl trivial ?_
      refine w_goto rL_isAll_190 ?_
      exact q
    · replace q := q.1 h133
      refine w_aload_n rL_isAll_136 rfl ?_
      refine w_iload rL_isAll_137 rfl ?_
      refine w_invokevirtual rL_isAll_139 rfl rfl rfl (Nat.le_of_ble_eq_true rfl) ⟨trivial, trivial, trivial⟩ (G_is (by decide) rfl) q.1.1 q.1.2 ?_
      replace q := q.2
      exact q
  refine w_icmpeq rL_isAll_125 (fun h125 => ?_) (fun h125 => ?_)
  · skip
    refine w_iconst rL_isAll_132 (x := 0) (by decide) ?_
    exact j125 _ (if_pos h125).symm
  · skip
    refine w_iconst rL_isAll_128 (x := 1) (by decide) ?_
    refine w_goto rL_isAll_129 ?_
    exact j125 _ (if_neg h125).symm
theorem k_L_isAll_142 {X : Nat × (Nat × (Nat → Int32))} {I : Nat → Nat → Int32} {L : Nat → Nat → Int64} {F : Nat → Nat → UInt32} {Q : AQ} {c s : Nat} {x4 : Int32} {x5 : Int32} {x6 : Int32} {x7 : Int32} {e0 : Int32} (q : vp_in (36 + x6) 48 ∧ ((e0 = (I 500 (Int32.toNatClampNeg (36 + x6))) → (x7 = 2 → WP mL_isAll 79 [some (.ref 0), some (.ref 498), some (.ref 499), some (.ref 500), some (.int x4), some (.int 1), some (.int (x6 + 1)), some (.int x7), none, none, none, none, none] [] (G X I L F) c s Q) ∧ (¬ x7 = 2 → (c + 1 ≤ 200 ∧ s + 6 ≤ 1200) ∧ (WP mX9_peakAnew 0 (am_ent 3 [.ref 0, .int x6]) [] (G X I L F) 0 0 (am_kq mL_isAll 161 [some (.ref 0), some (.ref 498), some (.ref 499), some (.ref 500), some (.int x4), some (.int x5), some (.int x6), some (.int x7), none, none, none, none, none] [] (c + 1) (s + 6) Q)))) ∧ (¬ e0 = (I 500 (Int32.toNatClampNeg (36 + x6))) → WP mL_isAll 79 [some (.ref 0), some (.ref 498), some (.ref 499), some (.ref 500), some (.int x4), some (.int 0), some (.int (x6 + 1)), some (.int x7), none, none, none, none, none] [] (G X I L F) c s Q))) : WP mL_isAll 142 [some (.ref 0), some (.ref 498), some (.ref 499), some (.ref 500), some (.int x4), some (.int x5), some (.int x6), some (.int x7), none, none, none, none, none] [.int e0] (G X I L F) c s Q := by
  refine w_aload_n rL_isAll_142 rfl ?_
  refine w_bipush rL_isAll_143 (x := 36) (by decide) ?_
  refine w_iload rL_isAll_145 rfl ?_
  refine w_iadd rL_isAll_147 ?_
  have h148 := q.1
  replace q := q.2
  refine x_iaload rL_isAll_148 (G_at (by decide) rfl rfl h148) ?_
  refine w_icmpne rL_isAll_149 (fun h149 => ?_) (fun h149 => ?_)
  · replace q := q.2 h149
    refine w_iconst rL_isAll_184 (x := 0) (by decide) ?_
    refine w_istore rL_isAll_185 rfl trivial ?_
    refine w_iinc rL_isAll_187 rfl rfl trivial ?_
    refine w_goto rL_isAll_190 ?_
    exact q
  · replace q := q.1 h149
    refine w_iload rL_isAll_152 rfl ?_
    refine w_iconst rL_isAll_154 (x := 2) (by decide) ?_
    refine w_icmpeq rL_isAll_155 (fun h155 => ?_) (fun h155 => ?_)
    · replace q := q.1 h155
      refine w_iconst rL_isAll_180 (x := 1) (by decide) ?_
      refine w_goto rL_isAll_181 ?_
      refine w_istore rL_isAll_185 rfl trivial ?_
      refine w_iinc rL_isAll_187 rfl rfl trivial ?_
      refine w_goto rL_isAll_190 ?_
      exact q
    · replace q := q.2 h155
      refine w_aload_n rL_isAll_158 rfl ?_
      refine w_iload rL_isAll_159 rfl ?_
      refine w_invokevirtual rL_isAll_161 rfl rfl rfl (Nat.le_of_ble_eq_true rfl) ⟨trivial, trivial, trivial⟩ (G_is (by decide) rfl) q.1.1 q.1.2 ?_
      replace q := q.2
      exact q
theorem k_L_isAll_164 {X : Nat × (Nat × (Nat → Int32))} {I : Nat → Nat → Int32} {L : Nat → Nat → Int64} {F : Nat → Nat → UInt32} {Q : AQ} {c s : Nat} {x4 : Int32} {x5 : Int32} {x6 : Int32} {x7 : Int32} {e0 : Int32} (q : vp_in (36 + x6) 48 ∧ (∀ s171_0 : Int32, s171_0 = (if e0 = (I 500 (Int32.toNatClampNeg (36 + x6))) then 1 else (if x7 = 1 then 1 else 0 : Int32) : Int32) → (WP mL_isAll 79 [some (.ref 0), some (.ref 498), some (.ref 499), some (.ref 500), some (.int x4), some (.int s171_0), some (.int (x6 + 1)), some (.int x7), none, none, none, none, none] [] (G X I L F) c s Q))) : WP mL_isAll 164 [some (.ref 0), some (.ref 498), some (.ref 499), some (.ref 500), some (.int x4), some (.int x5), some (.int x6), some (.int x7), none, none, none, none, none] [.int e0] (G X I L F) c s Q := by
  refine w_aload_n rL_isAll_164 rfl ?_
  refine w_bipush rL_isAll_165 (x := 36) (by decide) ?_
  refine w_iload rL_isAll_167 rfl ?_
  refine w_iadd rL_isAll_169 ?_
  have h170 := q.1
  replace q := q.2
  refine x_iaload rL_isAll_170 (G_at (by decide) rfl rfl h170) ?_
  have j171 : ∀ s171_0 : Int32, s171_0 = (if e0 = (I 500 (Int32.toNatClampNeg (36 + x6))) then 1 else (if x7 = 1 then 1 else 0 : Int32) : Int32) → WP mL_isAll 185 [some (.ref 0), some (.ref 498), some (.ref 499), some (.ref 500), some (.int x4), some (.int x5), some (.int x6), some (.int x7), none, none, none, none, none] [.int s171_0] (G X I L F) c s Q := by
    intro s171_0 es171_0
    replace q := q s171_0 es171_0
    refine w_istore rL_isAll_185 rfl trivial ?_
    refine w_iinc rL_isAll_187 rfl rfl trivial ?_
    refine w_goto rL_isAll_190 ?_
    exact q
  refine w_icmpeq rL_isAll_171 (fun h171 => ?_) (fun h171 => ?_)
  · skip
    refine w_iconst rL_isAll_180 (x := 1) (by decide) ?_
    refine w_goto rL_isAll_181 ?_
    exact j171 _ (if_pos h171).symm
  · skip
    refine w_iload rL_isAll_174 rfl ?_
    refine w_iconst rL_isAll_176 (x := 1) (by decide) ?_
    refine w_icmpne rL_isAll_177 (fun h177 => ?_) (fun h177 => ?_)
    · skip
      refine w_iconst rL_isAll_184 (x := 0) (by decide) ?_
      exact j171 _ ((if_neg h171).trans (if_neg h177)).symm
    · skip
      refine w_iconst rL_isAll_180 (x := 1) (by decide) ?_
      refine w_goto rL_isAll_181 ?_
      exact j171 _ ((if_neg h171).trans (if_pos h177)).symm
theorem k_L_isAll_199 {X : Nat × (Nat × (Nat → Int32))} {I : Nat → Nat → Int32} {L : Nat → Nat → Int64} {F : Nat → Nat → UInt32} {Q : AQ} {c s : Nat} {x4 : Int32} {x5 : Int32} {x6 : Int32} {x7 : Int32} {d8 : Option Value} {d9 : Option Value} {d10 : Option Value} {d11 : Option Value} {d12 : Option Value} (q : (3 ≤ x7 → (x5 = 0 → Q (.inl (some (.int 0))) (G X I L F)) ∧ (¬ x5 = 0 → (c + 0 ≤ 200 ∧ s + 0 ≤ 1200) ∧ (WP mX9_alarm 0 (am_ent 6 [.ref 0]) [] (G X I L F) 0 0 (am_kq mL_isAll 412 [some (.ref 0), some (.ref 498), some (.ref 499), some (.ref 500), some (.int x4), some (.int x5), some (.int x6), some (.int x7), d8, d9, d10, d11, d12] [] (c + 0) (s + 0) Q)))) ∧ (¬ 3 ≤ x7 → (x5 = 0 → Q (.inl (some (.int 0))) (G X I L F)) ∧ (¬ x5 = 0 → (c + 1 ≤ 200 ∧ s + 6 ≤ 1200) ∧ (WP mX9_level 0 (am_ent 2 [.ref 0, .int x7]) [] (G X I L F) 0 0 (am_kq mL_isAll 222 [some (.ref 0), some (.ref 498), some (.ref 499), some (.ref 500), some (.int x4), some (.int x5), some (.int x6), some (.int x7), some (.int (4 + (6 * x7))), d9, d10, d11, d12] [] (c + 1) (s + 6) Q))))) : WP mL_isAll 199 [some (.ref 0), some (.ref 498), some (.ref 499), some (.ref 500), some (.int x4), some (.int x5), some (.int x6), some (.int x7), d8, d9, d10, d11, d12] [] (G X I L F) c s Q := by
  refine w_iload rL_isAll_199 rfl ?_
  refine w_iconst rL_isAll_201 (x := 3) (by decide) ?_
  refine w_icmpge rL_isAll_202 (fun h202 => ?_) (fun h202 => ?_)
  · replace q := q.1 h202
    refine w_iload rL_isAll_406 rfl ?_
    refine w_ifeq rL_isAll_408 (fun h408 => ?_) (fun h408 => ?_)
    · replace q := q.1 h408
      refine w_iconst rL_isAll_424 (x := 0) (by decide) ?_
      refine w_ireturn rL_isAll_425 (Or.inl rfl) ?_
      exact q
    · replace q := q.2 h408
      refine w_aload_n rL_isAll_411 rfl ?_
      refine w_invokevirtual rL_isAll_412 rfl rfl rfl (Nat.le_of_ble_eq_true rfl) ⟨trivial, trivial⟩ (G_is (by decide) rfl) q.1.1 q.1.2 ?_
      replace q := q.2
      exact q
  · replace q := q.2 h202
    refine w_iload rL_isAll_205 rfl ?_
    refine w_ifeq rL_isAll_207 (fun h207 => ?_) (fun h207 => ?_)
    · replace q := q.1 h207
      refine w_iload rL_isAll_406 rfl ?_
      refine w_ifeq rL_isAll_408 (fun _ => ?_) (fun h => absurd h207 h)
      refine w_iconst rL_isAll_424 (x := 0) (by decide) ?_
      refine w_ireturn rL_isAll_425 (Or.inl rfl) ?_
      exact q
    · replace q := q.2 h207
      refine w_iconst rL_isAll_210 (x := 4) (by decide) ?_
      refine w_bipush rL_isAll_211 (x := 6) (by decide) ?_
      refine w_iload rL_isAll_213 rfl ?_
      refine w_imul rL_isAll_215 ?_
      refine w_iadd rL_isAll_216 ?_
      refine w_istore rL_isAll_217 rfl trivial ?_
      refine w_aload_n rL_isAll_219 rfl ?_
      refine w_iload rL_isAll_220 rfl ?_
      refine w_invokevirtual rL_isAll_222 rfl rfl rfl (Nat.le_of_ble_eq_true rfl) ⟨trivial, trivial, trivial⟩ (G_is (by decide) rfl) q.1.1 q.1.2 ?_
      replace q := q.2
      exact q
theorem k_L_isAll_225 {X : Nat × (Nat × (Nat → Int32))} {I : Nat → Nat → Int32} {L : Nat → Nat → Int64} {F : Nat → Nat → UInt32} {Q : AQ} {c s : Nat} {x4 : Int32} {x5 : Int32} {x6 : Int32} {x7 : Int32} {x8 : Int32} {d9 : Option Value} {d10 : Option Value} {d11 : Option Value} {d12 : Option Value} {e0 : Int32} (q : (c + 1 ≤ 200 ∧ s + 6 ≤ 1200) ∧ (WP mX9_trust 0 (am_ent 2 [.ref 0, .int x7]) [] (G X I L F) 0 0 (am_kq mL_isAll 230 [some (.ref 0), some (.ref 498), some (.ref 499), some (.ref 500), some (.int x4), some (.int x5), some (.int x6), some (.int x7), some (.int x8), some (.int e0), d10, d11, d12] [] (c + 1) (s + 6) Q))) : WP mL_isAll 225 [some (.ref 0), some (.ref 498), some (.ref 499), some (.ref 500), some (.int x4), some (.int x5), some (.int x6), some (.int x7), some (.int x8), d9, d10, d11, d12] [.int e0] (G X I L F) c s Q := by
  refine w_istore rL_isAll_225 rfl trivial ?_
  refine w_aload_n rL_isAll_227 rfl ?_
  refine w_iload rL_isAll_228 rfl ?_
  refine w_invokevirtual rL_isAll_230 rfl rfl rfl (Nat.le_of_ble_eq_true rfl) ⟨trivial, trivial, trivial⟩ (G_is (by decide) rfl) q.1.1 q.1.2 ?_
  replace q := q.2
  exact q
theorem k_L_isAll_233 {X : Nat × (Nat × (Nat → Int32))} {I : Nat → Nat → Int32} {L : Nat → Nat → Int64} {F : Nat → Nat → UInt32} {Q : AQ} {c s : Nat} {x4 : Int32} {x5 : Int32} {x6 : Int32} {x7 : Int32} {x8 : Int32} {x9 : Int32} {d10 : Option Value} {d11 : Option Value} {d12 : Option Value} {e0 : Int32} (q : (x9 < 0 → vp_in (x8 + 3) 22 ∧ (((I 498 (Int32.toNatClampNeg (x8 + 3))) = 1 → vp_in (x8 + 1) 22 ∧ ((c + 1 ≤ 200 ∧ s + 6 ≤ 1200) ∧ (WP mX9_latest 0 (am_ent 2 [.ref 0, .int (I 498 (Int32.toNatClampNeg (x8 + 1)))]) [] (G X I L F) 0 0 (am_kq mL_isAll 319 [some (.ref 0), some (.ref 498), some (.ref 499), some (.ref 500), some (.int x4), some (.int 0), some (.int x6), some (.int x7), some (.int x8), some (.int x9), some (.int e0), d11, d12] [] (c + 1) (s + 6) Q)))) ∧ (¬ (I 498 (Int32.toNatClampNeg (x8 + 3))) = 1 → WP mL_isAll 333 [some (.ref 0), some (.ref 498), some (.ref 499), some (.ref 500), some (.int x4), some (.int 0), some (.int x6), some (.int x7), some (.int x8), some (.int x9), some (.int e0), some (.int (-1)), some (.int (I 498 0))] [] (G X I L F) c s Q))) ∧ (¬ x9 < 0 → vp_in x8 22 ∧ (((I 498 (Int32.toNatClampNeg x8)) = 1 → (e0 ≤ 0 → vp_in (x8 + 3) 22 ∧ (((I 498 (Int32.toNatClampNeg (x8 + 3))) = 1 → vp_in (x8 + 1) 22 ∧ ((c + 1 ≤ 200 ∧ s + 6 ≤ 1200) ∧ (WP mX9_latest 0 (am_ent 2 [.ref 0, .int (I 498 (Int32.toNatClampNeg (x8 + 1)))]) [] (G X I L F) 0 0 (am_kq mL_isAll 319 [some (.ref 0), some (.ref 498), some (.ref 499), some (.ref 500), some (.int x4), some (.int 0), some (.int x6), some (.int x7), some (.int x8), some (.int x9), some (.int e0), d11, d12] [] (c + 1) (s + 6) Q)))) ∧ (¬ (I 498 (Int32.toNatClampNeg (x8 + 3))) = 1 → WP mL_isAll 333 [some (.ref 0), some (.ref 498), some (.ref 499), some (.ref 500), some (.int x4), some (.int 0), some (.int x6), some (.int x7), some (.int x8), some (.int x9), some (.int e0), some (.int (-1)), some (.int (I 498 0))] [] (G X I L F) c s Q))) ∧ (¬ e0 ≤ 0 → (1065353216 < e0 → vp_in (x8 + 3) 22 ∧ (((I 498 (Int32.toNatClampNeg (x8 + 3))) = 1 → vp_in (x8 + 1) 22 ∧ ((c + 1 ≤ 200 ∧ s + 6 ≤ 1200) ∧ (WP mX9_latest 0 (am_ent 2 [.ref 0, .int (I 498 (Int32.toNatClampNeg (x8 + 1)))]) [] (G X I L F) 0 0 (am_kq mL_isAll 319 [some (.ref 0), some (.ref 498), some (.ref 499), some (.ref 500), some (.int x4), some (.int 0), some (.int x6), some (.int x7), some (.int x8), some (.int x9), some (.int e0), d11, d12] [] (c + 1) (s + 6) Q)))) ∧ (¬ (I 498 (Int32.toNatClampNeg (x8 + 3))) = 1 → WP mL_isAll 333 [some (.ref 0), some (.ref 498), some (.ref 499), some (.ref 500), some (.int x4), some (.int 0), some (.int x6), some (.int x7), some (.int x8), some (.int x9), some (.int e0), some (.int (-1)), some (.int (I 498 0))] [] (G X I L F) c s Q))) ∧ (¬ 1065353216 < e0 → (c + 1 ≤ 200 ∧ s + 6 ≤ 1200) ∧ (WP mX9_saved 0 (am_ent 2 [.ref 0, .int x7]) [] (G X I L F) 0 0 (am_kq mL_isAll 268 [some (.ref 0), some (.ref 498), some (.ref 499), some (.ref 500), some (.int x4), some (.int x5), some (.int x6), some (.int x7), some (.int x8), some (.int x9), some (.int e0), d11, d12] [] (c + 1) (s + 6) Q))))) ∧ (¬ (I 498 (Int32.toNatClampNeg x8)) = 1 → (x9 = 0 → (e0 ≤ 0 → vp_in (x8 + 3) 22 ∧ (((I 498 (Int32.toNatClampNeg (x8 + 3))) = 1 → vp_in (x8 + 1) 22 ∧ ((c + 1 ≤ 200 ∧ s + 6 ≤ 1200) ∧ (WP mX9_latest 0 (am_ent 2 [.ref 0, .int (I 498 (Int32.toNatClampNeg (x8 + 1)))]) [] (G X I L F) 0 0 (am_kq mL_isAll 319 [some (.ref 0), some (.ref 498), some (.ref 499), some (.ref 500), some (.int x4), some (.int 0), some (.int x6), some (.int x7), some (.int x8), some (.int x9), some (.int e0), d11, d12] [] (c + 1) (s + 6) Q)))) ∧ (¬ (I 498 (Int32.toNatClampNeg (x8 + 3))) = 1 → WP mL_isAll 333 [some (.ref 0), some (.ref 498), some (.ref 499), some (.ref 500), some (.int x4), some (.int 0), some (.int x6), some (.int x7), some (.int x8), some (.int x9), some (.int e0), some (.int (-1)), some (.int (I 498 0))] [] (G X I L F) c s Q))) ∧ (¬ e0 ≤ 0 → (1065353216 < e0 → vp_in (x8 + 3) 22 ∧ (((I 498 (Int32.toNatClampNeg (x8 + 3))) = 1 → vp_in (x8 + 1) 22 ∧ ((c + 1 ≤ 200 ∧ s + 6 ≤ 1200) ∧ (WP mX9_latest 0 (am_ent 2 [.ref 0, .int (I 498 (Int32.toNatClampNeg (x8 + 1)))]) [] (G X I L F) 0 0 (am_kq mL_isAll 319 [some (.ref 0), some (.ref 498), some (.ref 499), some (.ref 500), some (.int x4), some (.int 0), some (.int x6), some (.int x7), some (.int x8), some (.int x9), some (.int e0), d11, d12] [] (c + 1) (s + 6) Q)))) ∧ (¬ (I 498 (Int32.toNatClampNeg (x8 + 3))) = 1 → WP mL_isAll 333 [some (.ref 0), some (.ref 498), some (.ref 499), some (.ref 500), some (.int x4), some (.int 0), some (.int x6), some (.int x7), some (.int x8), some (.int x9), some (.int e0), some (.int (-1)), some (.int (I 498 0))] [] (G X I L F) c s Q))) ∧ (¬ 1065353216 < e0 → (c + 1 ≤ 200 ∧ s + 6 ≤ 1200) ∧ (WP mX9_saved 0 (am_ent 2 [.ref 0, .int x7]) [] (G X I L F) 0 0 (am_kq mL_isAll 268 [some (.ref 0), some (.ref 498), some (.ref 499), some (.ref 500), some (.int x4), some (.int x5), some (.int x6), some (.int x7), some (.int x8), some (.int x9), some (.int e0), d11, d12] [] (c + 1) (s + 6) Q))))) ∧ (¬ x9 = 0 → vp_in (x8 + 3) 22 ∧ (((I 498 (Int32.toNatClampNeg (x8 + 3))) = 1 → vp_in (x8 + 1) 22 ∧ ((c + 1 ≤ 200 ∧ s + 6 ≤ 1200) ∧ (WP mX9_latest 0 (am_ent 2 [.ref 0, .int (I 498 (Int32.toNatClampNeg (x8 + 1)))]) [] (G X I L F) 0 0 (am_kq mL_isAll 319 [some (.ref 0), some (.ref 498), some (.ref 499), some (.ref 500), some (.int x4), some (.int 0), some (.int x6), some (.int x7), some (.int x8), some (.int x9), some (.int e0), d11, d12] [] (c + 1) (s + 6) Q)))) ∧ (¬ (I 498 (Int32.toNatClampNeg (x8 + 3))) = 1 → WP mL_isAll 333 [some (.ref 0), some (.ref 498), some (.ref 499), some (.ref 500), some (.int x4), some (.int 0), some (.int x6), some (.int x7), some (.int x8), some (.int x9), some (.int e0), some (.int (-1)), some (.int (I 498 0))] [] (G X I L F) c s Q))))))) : WP mL_isAll 233 [some (.ref 0), some (.ref 498), some (.ref 499), some (.ref 500), some (.int x4), some (.int x5), some (.int x6), some (.int x7), some (.int x8), some (.int x9), d10, d11, d12] [.int e0] (G X I L F) c s Q := by
  refine w_istore rL_isAll_233 rfl trivial ?_
  refine w_iload rL_isAll_235 rfl ?_
  refine w_iflt rL_isAll_237 (fun h237 => ?_) (fun h237 => ?_)
  · replace q := q.1 h237
    refine w_iconst rL_isAll_299 (x := 0) (by decide) ?_
    refine w_istore rL_isAll_300 rfl trivial ?_
    refine w_aload_n rL_isAll_302 rfl ?_
    refine w_iload rL_isAll_303 rfl ?_
    refine w_iconst rL_isAll_305 (x := 3) (by decide) ?_
    refine w_iadd rL_isAll_306 ?_
    have h307 := q.1
    replace q := q.2
    refine x_iaload rL_isAll_307 (G_at (by decide) rfl rfl h307) ?_
    refine w_iconst rL_isAll_308 (x := 1) (by decide) ?_
    refine w_icmpne rL_isAll_309 (fun h309 => ?_) (fun h309 => ?_)
    · replace q := q.2 h309
      refine w_iconst rL_isAll_325 (x := -1) (by decide) ?_
      refine w_istore rL_isAll_326 rfl trivial ?_
      refine w_aload_n rL_isAll_328 rfl ?_
      refine w_iconst rL_isAll_329 (x := 0) (by decide) ?_
      refine xl_iaload rL_isAll_330 (G_at (by decide) rfl rfl (by unfold vp_in; decide)) (i := 0) (by decide) ?_
      refine w_istore rL_isAll_331 rfl trivial ?_
      exact q
    · replace q := q.1 h309
      refine w_aload_n rL_isAll_312 rfl ?_
      refine w_aload_n rL_isAll_313 rfl ?_
      refine w_iload rL_isAll_314 rfl ?_
      refine w_iconst rL_isAll_316 (x := 1) (by decide) ?_
      refine w_iadd rL_isAll_317 ?_
      have h318 := q.1
      replace q := q.2
      refine x_iaload rL_isAll_318 (G_at (by decide) rfl rfl h318) ?_
      refine w_invokevirtual rL_isAll_319 rfl rfl rfl (Nat.le_of_ble_eq_true rfl) ⟨trivial, trivial, trivial⟩ (G_is (by decide) rfl) q.1.1 q.1.2 ?_
      replace q := q.2
      exact q
  · replace q := q.2 h237
    refine w_aload_n rL_isAll_240 rfl ?_
    refine w_iload rL_isAll_241 rfl ?_
    have h243 := q.1
    replace q := q.2
    refine x_iaload rL_isAll_243 (G_at (by decide) rfl rfl h243) ?_
    refine w_iconst rL_isAll_244 (x := 1) (by decide) ?_
    refine w_icmpeq rL_isAll_245 (fun h245 => ?_) (fun h245 => ?_)
    · replace q := q.1 h245
      refine w_iload rL_isAll_253 rfl ?_
      refine w_ifle rL_isAll_255 (fun h255 => ?_) (fun h255 => ?_)
      · replace q := q.1 h255
        refine w_iconst rL_isAll_299 (x := 0) (by decide) ?_
        refine w_istore rL_isAll_300 rfl trivial ?_
        refine w_aload_n rL_isAll_302 rfl ?_
        refine w_iload rL_isAll_303 rfl ?_
        refine w_iconst rL_isAll_305 (x := 3) (by decide) ?_
        refine w_iadd rL_isAll_306 ?_
        have h307 := q.1
        replace q := q.2
        refine x_iaload rL_isAll_307 (G_at (by decide) rfl rfl h307) ?_
        refine w_iconst rL_isAll_308 (x := 1) (by decide) ?_
        refine w_icmpne rL_isAll_309 (fun h309 => ?_) (fun h309 => ?_)
        · replace q := q.2 h309
          refine w_iconst rL_isAll_325 (x := -1) (by decide) ?_
          refine w_istore rL_isAll_326 rfl trivial ?_
          refine w_aload_n rL_isAll_328 rfl ?_
          refine w_iconst rL_isAll_329 (x := 0) (by decide) ?_
          refine xl_iaload rL_isAll_330 (G_at (by decide) rfl rfl (by unfold vp_in; decide)) (i := 0) (by decide) ?_
          refine w_istore rL_isAll_331 rfl trivial ?_
          exact q
        · replace q := q.1 h309
          refine w_aload_n rL_isAll_312 rfl ?_
          refine w_aload_n rL_isAll_313 rfl ?_
          refine w_iload rL_isAll_314 rfl ?_
          refine w_iconst rL_isAll_316 (x := 1) (by decide) ?_
          refine w_iadd rL_isAll_317 ?_
          have h318 := q.1
          replace q := q.2
          refine x_iaload rL_isAll_318 (G_at (by decide) rfl rfl h318) ?_
          refine w_invokevirtual rL_isAll_319 rfl rfl rfl (Nat.le_of_ble_eq_true rfl) ⟨trivial, trivial, trivial⟩ (G_is (by decide) rfl) q.1.1 q.1.2 ?_
          replace q := q.2
          exact q
      · replace q := q.2 h255
        refine w_iload rL_isAll_258 rfl ?_
        refine w_ldcI rL_isAll_260 (x := 1065353216) (by decide) ?_
        refine w_icmpgt rL_isAll_262 (fun h262 => ?_) (fun h262 => ?_)
        · replace q := q.1 h262
          refine w_iconst rL_isAll_299 (x := 0) (by decide) ?_
          refine w_istore rL_isAll_300 rfl trivial ?_
          refine w_aload_n rL_isAll_302 rfl ?_
          refine w_iload rL_isAll_303 rfl ?_
          refine w_iconst rL_isAll_305 (x := 3) (by decide) ?_
          refine w_iadd rL_isAll_306 ?_
          have h307 := q.1
          replace q := q.2
          refine x_iaload rL_isAll_307 (G_at (by decide) rfl rfl h307) ?_
          refine w_iconst rL_isAll_308 (x := 1) (by decide) ?_
          refine w_icmpne rL_isAll_309 (fun h309 => ?_) (fun h309 => ?_)
          · replace q := q.2 h309
            refine w_iconst rL_isAll_325 (x := -1) (by decide) ?_
            refine w_istore rL_isAll_326 rfl trivial ?_
            refine w_aload_n rL_isAll_328 rfl ?_
            refine w_iconst rL_isAll_329 (x := 0) (by decide) ?_
            refine xl_iaload rL_isAll_330 (G_at (by decide) rfl rfl (by unfold vp_in; decide)) (i := 0) (by decide) ?_
            refine w_istore rL_isAll_331 rfl trivial ?_
            exact q
          · replace q := q.1 h309
            refine w_aload_n rL_isAll_312 rfl ?_
            refine w_aload_n rL_isAll_313 rfl ?_
            refine w_iload rL_isAll_314 rfl ?_
            refine w_iconst rL_isAll_316 (x := 1) (by decide) ?_
            refine w_iadd rL_isAll_317 ?_
            have h318 := q.1
            replace q := q.2
            refine x_iaload rL_isAll_318 (G_at (by decide) rfl rfl h318) ?_
            refine w_invokevirtual rL_isAll_319 rfl rfl rfl (Nat.le_of_ble_eq_true rfl) ⟨trivial, trivial, trivial⟩ (G_is (by decide) rfl) q.1.1 q.1.2 ?_
            replace q := q.2
            exact q
        · replace q := q.2 h262
          refine w_aload_n rL_isAll_265 rfl ?_
          refine w_iload rL_isAll_266 rfl ?_
          refine w_invokevirtual rL_isAll_268 rfl rfl rfl (Nat.le_of_ble_eq_true rfl) ⟨trivial, trivial, trivial⟩ (G_is (by decide) rfl) q.1.1 q.1.2 ?_
          replace q := q.2
          exact q
    · replace q := q.2 h245
      refine w_iload rL_isAll_248 rfl ?_
      refine w_ifne rL_isAll_250 (fun h250 => ?_) (fun h250 => ?_)
      · replace q := q.2 h250
        refine w_iconst rL_isAll_299 (x := 0) (by decide) ?_
        refine w_istore rL_isAll_300 rfl trivial ?_
        refine w_aload_n rL_isAll_302 rfl ?_
        refine w_iload rL_isAll_303 rfl ?_
        refine w_iconst rL_isAll_305 (x := 3) (by decide) ?_
        refine w_iadd rL_isAll_306 ?_
        have h307 := q.1
        replace q := q.2
        refine x_iaload rL_isAll_307 (G_at (by decide) rfl rfl h307) ?_
        refine w_iconst rL_isAll_308 (x := 1) (by decide) ?_
        refine w_icmpne rL_isAll_309 (fun h309 => ?_) (fun h309 => ?_)
        · replace q := q.2 h309
          refine w_iconst rL_isAll_325 (x := -1) (by decide) ?_
          refine w_istore rL_isAll_326 rfl trivial ?_
          refine w_aload_n rL_isAll_328 rfl ?_
          refine w_iconst rL_isAll_329 (x := 0) (by decide) ?_
          refine xl_iaload rL_isAll_330 (G_at (by decide) rfl rfl (by unfold vp_in; decide)) (i := 0) (by decide) ?_
          refine w_istore rL_isAll_331 rfl trivial ?_
          exact q
        · replace q := q.1 h309
          refine w_aload_n rL_isAll_312 rfl ?_
          refine w_aload_n rL_isAll_313 rfl ?_
          refine w_iload rL_isAll_314 rfl ?_
          refine w_iconst rL_isAll_316 (x := 1) (by decide) ?_
          refine w_iadd rL_isAll_317 ?_
          have h318 := q.1
          replace q := q.2
          refine x_iaload rL_isAll_318 (G_at (by decide) rfl rfl h318) ?_
          refine w_invokevirtual rL_isAll_319 rfl rfl rfl (Nat.le_of_ble_eq_true rfl) ⟨trivial, trivial, trivial⟩ (G_is (by decide) rfl) q.1.1 q.1.2 ?_
          replace q := q.2
          exact q
      · replace q := q.1 h250
        refine w_iload rL_isAll_253 rfl ?_
        refine w_ifle rL_isAll_255 (fun h255 => ?_) (fun h255 => ?_)
        · replace q := q.1 h255
          refine w_iconst rL_isAll_299 (x := 0) (by decide) ?_
          refine w_istore rL_isAll_300 rfl trivial ?_
          refine w_aload_n rL_isAll_302 rfl ?_
          refine w_iload rL_isAll_303 rfl ?_
          refine w_iconst rL_isAll_305 (x := 3) (by decide) ?_
          refine w_iadd rL_isAll_306 ?_
          have h307 := q.1
          replace q := q.2
          refine x_iaload rL_isAll_307 (G_at (by decide) rfl rfl h307) ?_
          refine w_iconst rL_isAll_308 (x := 1) (by decide) ?_
          refine w_icmpne rL_isAll_309 (fun h309 => ?_) (fun h309 => ?_)
          · replace q := q.2 h309
            refine w_iconst rL_isAll_325 (x := -1) (by decide) ?_
            refine w_istore rL_isAll_326 rfl trivial ?_
            refine w_aload_n rL_isAll_328 rfl ?_
            refine w_iconst rL_isAll_329 (x := 0) (by decide) ?_
            refine xl_iaload rL_isAll_330 (G_at (by decide) rfl rfl (by unfold vp_in; decide)) (i := 0) (by decide) ?_
            refine w_istore rL_isAll_331 rfl trivial ?_
            exact q
          · replace q := q.1 h309
            refine w_aload_n rL_isAll_312 rfl ?_
            refine w_aload_n rL_isAll_313 rfl ?_
            refine w_iload rL_isAll_314 rfl ?_
            refine w_iconst rL_isAll_316 (x := 1) (by decide) ?_
            refine w_iadd rL_isAll_317 ?_
            have h318 := q.1
            replace q := q.2
            refine x_iaload rL_isAll_318 (G_at (by decide) rfl rfl h318) ?_
            refine w_invokevirtual rL_isAll_319 rfl rfl rfl (Nat.le_of_ble_eq_true rfl) ⟨trivial, trivial, trivial⟩ (G_is (by decide) rfl) q.1.1 q.1.2 ?_
            replace q := q.2
            exact q
        · replace q := q.2 h255
          refine w_iload rL_isAll_258 rfl ?_
          refine w_ldcI rL_isAll_260 (x := 1065353216) (by decide) ?_
          refine w_icmpgt rL_isAll_262 (fun h262 => ?_) (fun h262 => ?_)
          · replace q := q.1 h262
            refine w_iconst rL_isAll_299 (x := 0) (by decide) ?_
            refine w_istore rL_isAll_300 rfl trivial ?_
            refine w_aload_n rL_isAll_302 rfl ?_
            refine w_iload rL_isAll_303 rfl ?_
            refine w_iconst rL_isAll_305 (x := 3) (by decide) ?_
            refine w_iadd rL_isAll_306 ?_
            have h307 := q.1
            replace q := q.2
            refine x_iaload rL_isAll_307 (G_at (by decide) rfl rfl h307) ?_
            refine w_iconst rL_isAll_308 (x := 1) (by decide) ?_
            refine w_icmpne rL_isAll_309 (fun h309 => ?_) (fun h309 => ?_)
            · replace q := q.2 h309
              refine w_iconst rL_isAll_325 (x := -1) (by decide) ?_
              refine w_istore rL_isAll_326 rfl trivial ?_
              refine w_aload_n rL_isAll_328 rfl ?_
              refine w_iconst rL_isAll_329 (x := 0) (by decide) ?_
              refine xl_iaload rL_isAll_330 (G_at (by decide) rfl rfl (by unfold vp_in; decide)) (i := 0) (by decide) ?_
              refine w_istore rL_isAll_331 rfl trivial ?_
              exact q
            · replace q := q.1 h309
              refine w_aload_n rL_isAll_312 rfl ?_
              refine w_aload_n rL_isAll_313 rfl ?_
              refine w_iload rL_isAll_314 rfl ?_
              refine w_iconst rL_isAll_316 (x := 1) (by decide) ?_
              refine w_iadd rL_isAll_317 ?_
              have h318 := q.1
              replace q := q.2
              refine x_iaload rL_isAll_318 (G_at (by decide) rfl rfl h318) ?_
              refine w_invokevirtual rL_isAll_319 rfl rfl rfl (Nat.le_of_ble_eq_true rfl) ⟨trivial, trivial, trivial⟩ (G_is (by decide) rfl) q.1.1 q.1.2 ?_
              replace q := q.2
              exact q
          · replace q := q.2 h262
            refine w_aload_n rL_isAll_265 rfl ?_
            refine w_iload rL_isAll_266 rfl ?_
            refine w_invokevirtual rL_isAll_268 rfl rfl rfl (Nat.le_of_ble_eq_true rfl) ⟨trivial, trivial, trivial⟩ (G_is (by decide) rfl) q.1.1 q.1.2 ?_
            replace q := q.2
            exact q
theorem k_L_isAll_271 {X : Nat × (Nat × (Nat → Int32))} {I : Nat → Nat → Int32} {L : Nat → Nat → Int64} {F : Nat → Nat → UInt32} {Q : AQ} {c s : Nat} {x4 : Int32} {x5 : Int32} {x6 : Int32} {x7 : Int32} {x8 : Int32} {x9 : Int32} {x10 : Int32} {d11 : Option Value} {d12 : Option Value} {e0 : Int32} (q : (e0 < 0 → vp_in (x8 + 3) 22 ∧ (((I 498 (Int32.toNatClampNeg (x8 + 3))) = 1 → vp_in (x8 + 1) 22 ∧ ((c + 1 ≤ 200 ∧ s + 6 ≤ 1200) ∧ (WP mX9_latest 0 (am_ent 2 [.ref 0, .int (I 498 (Int32.toNatClampNeg (x8 + 1)))]) [] (G X I L F) 0 0 (am_kq mL_isAll 319 [some (.ref 0), some (.ref 498), some (.ref 499), some (.ref 500), some (.int x4), some (.int 0), some (.int x6), some (.int x7), some (.int x8), some (.int x9), some (.int x10), d11, d12] [] (c + 1) (s + 6) Q)))) ∧ (¬ (I 498 (Int32.toNatClampNeg (x8 + 3))) = 1 → WP mL_isAll 333 [some (.ref 0), some (.ref 498), some (.ref 499), some (.ref 500), some (.int x4), some (.int 0), some (.int x6), some (.int x7), some (.int x8), some (.int x9), some (.int x10), some (.int (-1)), some (.int (I 498 0))] [] (G X I L F) c s Q))) ∧ (¬ e0 < 0 → ((I 498 0) = 0 → vp_in (x8 + 3) 22 ∧ (((I 498 (Int32.toNatClampNeg (x8 + 3))) = 1 → vp_in (x8 + 1) 22 ∧ ((c + 1 ≤ 200 ∧ s + 6 ≤ 1200) ∧ (WP mX9_latest 0 (am_ent 2 [.ref 0, .int (I 498 (Int32.toNatClampNeg (x8 + 1)))]) [] (G X I L F) 0 0 (am_kq mL_isAll 319 [some (.ref 0), some (.ref 498), some (.ref 499), some (.ref 500), some (.int x4), some (.int 1), some (.int x6), some (.int x7), some (.int x8), some (.int x9), some (.int x10), d11, d12] [] (c + 1) (s + 6) Q)))) ∧ (¬ (I 498 (Int32.toNatClampNeg (x8 + 3))) = 1 → WP mL_isAll 333 [some (.ref 0), some (.ref 498), some (.ref 499), some (.ref 500), some (.int x4), some (.int 1), some (.int x6), some (.int x7), some (.int x8), some (.int x9), some (.int x10), some (.int (-1)), some (.int (I 498 0))] [] (G X I L F) c s Q))) ∧ (¬ (I 498 0) = 0 → (¬ (I 498 0) = 0) ∧ ((c + 1 ≤ 200 ∧ s + 6 ≤ 1200) ∧ (WP mX9_below 0 (am_ent 3 [.ref 0, .int x7, .int (x4 - x4 / (I 498 0) * (I 498 0))]) [] (G X I L F) 0 0 (am_kq mL_isAll 289 [some (.ref 0), some (.ref 498), some (.ref 499), some (.ref 500), some (.int x4), some (.int x5), some (.int x6), some (.int x7), some (.int x8), some (.int x9), some (.int x10), d11, d12] [] (c + 1) (s + 6) Q)))))) : WP mL_isAll 271 [some (.ref 0), some (.ref 498), some (.ref 499), some (.ref 500), some (.int x4), some (.int x5), some (.int x6), some (.int x7), some (.int x8), some (.int x9), some (.int x10), d11, d12] [.int e0] (G X I L F) c s Q := by
  refine w_iflt rL_isAll_271 (fun h271 => ?_) (fun h271 => ?_)
  · replace q := q.1 h271
    refine w_iconst rL_isAll_299 (x := 0) (by decide) ?_
    refine w_istore rL_isAll_300 rfl trivial ?_
    refine w_aload_n rL_isAll_302 rfl ?_
    refine w_iload rL_isAll_303 rfl ?_
    refine w_iconst rL_isAll_305 (x := 3) (by decide) ?_
    refine w_iadd rL_isAll_306 ?_
    have h307 := q.1
    replace q := q.2
    refine x_iaload rL_isAll_307 (G_at (by decide) rfl rfl h307) ?_
    refine w_iconst rL_isAll_308 (x := 1) (by decide) ?_
    refine w_icmpne rL_isAll_309 (fun h309 => ?_) (fun h309 => ?_)
    · replace q := q.2 h309
      refine w_iconst rL_isAll_325 (x := -1) (by decide) ?_
      refine w_istore rL_isAll_326 rfl trivial ?_
      refine w_aload_n rL_isAll_328 rfl ?_
      refine w_iconst rL_isAll_329 (x := 0) (by decide) ?_
      refine xl_iaload rL_isAll_330 (G_at (by decide) rfl rfl (by unfold vp_in; decide)) (i := 0) (by decide) ?_
      refine w_istore rL_isAll_331 rfl trivial ?_
      exact q
    · replace q := q.1 h309
      refine w_aload_n rL_isAll_312 rfl ?_
      refine w_aload_n rL_isAll_313 rfl ?_
      refine w_iload rL_isAll_314 rfl ?_
      refine w_iconst rL_isAll_316 (x := 1) (by decide) ?_
      refine w_iadd rL_isAll_317 ?_
      have h318 := q.1
      replace q := q.2
      refine x_iaload rL_isAll_318 (G_at (by decide) rfl rfl h318) ?_
      refine w_invokevirtual rL_isAll_319 rfl rfl rfl (Nat.le_of_ble_eq_true rfl) ⟨trivial, trivial, trivial⟩ (G_is (by decide) rfl) q.1.1 q.1.2 ?_
      replace q := q.2
      exact q
  · replace q := q.2 h271
    refine w_aload_n rL_isAll_274 rfl ?_
    refine w_iconst rL_isAll_275 (x := 0) (by decide) ?_
    refine xl_iaload rL_isAll_276 (G_at (by decide) rfl rfl (by unfold vp_in; decide)) (i := 0) (by decide) ?_
    refine w_ifeq rL_isAll_277 (fun h277 => ?_) (fun h277 => ?_)
    · replace q := q.1 h277
      refine w_iconst rL_isAll_295 (x := 1) (by decide) ?_
      refine w_goto rL_isAll_296 ?_
      refine w_istore rL_isAll_300 rfl trivial ?_
      refine w_aload_n rL_isAll_302 rfl ?_
      refine w_iload rL_isAll_303 rfl ?_
      refine w_iconst rL_isAll_305 (x := 3) (by decide) ?_
      refine w_iadd rL_isAll_306 ?_
      have h307 := q.1
      replace q := q.2
      refine x_iaload rL_isAll_307 (G_at (by decide) rfl rfl h307) ?_
      refine w_iconst rL_isAll_308 (x := 1) (by decide) ?_
      refine w_icmpne rL_isAll_309 (fun h309 => ?_) (fun h309 => ?_)
      · replace q := q.2 h309
        refine w_iconst rL_isAll_325 (x := -1) (by decide) ?_
        refine w_istore rL_isAll_326 rfl trivial ?_
        refine w_aload_n rL_isAll_328 rfl ?_
        refine w_iconst rL_isAll_329 (x := 0) (by decide) ?_
        refine xl_iaload rL_isAll_330 (G_at (by decide) rfl rfl (by unfold vp_in; decide)) (i := 0) (by decide) ?_
        refine w_istore rL_isAll_331 rfl trivial ?_
        exact q
      · replace q := q.1 h309
        refine w_aload_n rL_isAll_312 rfl ?_
        refine w_aload_n rL_isAll_313 rfl ?_
        refine w_iload rL_isAll_314 rfl ?_
        refine w_iconst rL_isAll_316 (x := 1) (by decide) ?_
        refine w_iadd rL_isAll_317 ?_
        have h318 := q.1
        replace q := q.2
        refine x_iaload rL_isAll_318 (G_at (by decide) rfl rfl h318) ?_
        refine w_invokevirtual rL_isAll_319 rfl rfl rfl (Nat.le_of_ble_eq_true rfl) ⟨trivial, trivial, trivial⟩ (G_is (by decide) rfl) q.1.1 q.1.2 ?_
        replace q := q.2
        exact q
    · replace q := q.2 h277
      refine w_aload_n rL_isAll_280 rfl ?_
      refine w_iload rL_isAll_281 rfl ?_
      refine w_iload rL_isAll_283 rfl ?_
      refine w_aload_n rL_isAll_285 rfl ?_
      refine w_iconst rL_isAll_286 (x := 0) (by decide) ?_
      refine xl_iaload rL_isAll_287 (G_at (by decide) rfl rfl (by unfold vp_in; decide)) (i := 0) (by decide) ?_
      refine w_irem rL_isAll_288 q.1 ?_
      replace q := q.2
      refine w_invokevirtual rL_isAll_289 rfl rfl rfl (Nat.le_of_ble_eq_true rfl) ⟨trivial, trivial, trivial, trivial⟩ (G_is (by decide) rfl) q.1.1 q.1.2 ?_
      replace q := q.2
      exact q
theorem k_L_isAll_292 {X : Nat × (Nat × (Nat → Int32))} {I : Nat → Nat → Int32} {L : Nat → Nat → Int64} {F : Nat → Nat → UInt32} {Q : AQ} {c s : Nat} {x4 : Int32} {x5 : Int32} {x6 : Int32} {x7 : Int32} {x8 : Int32} {x9 : Int32} {x10 : Int32} {d11 : Option Value} {d12 : Option Value} {e0 : Int32} (q : ∀ s292_0 : Int32, s292_0 = (if e0 < 0 then 0 else 1 : Int32) → (vp_in (x8 + 3) 22 ∧ (((I 498 (Int32.toNatClampNeg (x8 + 3))) = 1 → vp_in (x8 + 1) 22 ∧ ((c + 1 ≤ 200 ∧ s + 6 ≤ 1200) ∧ (WP mX9_latest 0 (am_ent 2 [.ref 0, .int (I 498 (Int32.toNatClampNeg (x8 + 1)))]) [] (G X I L F) 0 0 (am_kq mL_isAll 319 [some (.ref 0), some (.ref 498), some (.ref 499), some (.ref 500), some (.int x4), some (.int s292_0), some (.int x6), some (.int x7), some (.int x8), some (.int x9), some (.int x10), d11, d12] [] (c + 1) (s + 6) Q)))) ∧ (¬ (I 498 (Int32.toNatClampNeg (x8 + 3))) = 1 → WP mL_isAll 333 [some (.ref 0), some (.ref 498), some (.ref 499), some (.ref 500), some (.int x4), some (.int s292_0), some (.int x6), some (.int x7), some (.int x8), some (.int x9), some (.int x10), some (.int (-1)), some (.int (I 498 0))] [] (G X I L F) c s Q)))) : WP mL_isAll 292 [some (.ref 0), some (.ref 498), some (.ref 499), some (.ref 500), some (.int x4), some (.int x5), some (.int x6), some (.int x7), some (.int x8), some (.int x9), some (.int x10), d11, d12] [.int e0] (G X I L F) c s Q := by
  have j292 : ∀ s292_0 : Int32, s292_0 = (if e0 < 0 then 0 else 1 : Int32) → WP mL_isAll 300 [some (.ref 0), some (.ref 498), some (.ref 499), some (.ref 500), some (.int x4), some (.int x5), some (.int x6), some (.int x7), some (.int x8), some (.int x9), some (.int x10), d11, d12] [.int s292_0] (G X I L F) c s Q := by
    intro s292_0 es292_0
    replace q := q s292_0 es292_0
    refine w_istore rL_isAll_300 rfl trivial ?_
    refine w_aload_n rL_isAll_302 rfl ?_
    refine w_iload rL_isAll_303 rfl ?_
    refine w_iconst rL_isAll_305 (x := 3) (by decide) ?_
    refine w_iadd rL_isAll_306 ?_
    have h307 := q.1
    replace q := q.2
    refine x_iaload rL_isAll_307 (G_at (by decide) rfl rfl h307) ?_
    refine w_iconst rL_isAll_308 (x := 1) (by decide) ?_
    refine w_icmpne rL_isAll_309 (fun h309 => ?_) (fun h309 => ?_)
    · replace q := q.2 h309
      refine w_iconst rL_isAll_325 (x := -1) (by decide) ?_
      refine w_istore rL_isAll_326 rfl trivial ?_
      refine w_aload_n rL_isAll_328 rfl ?_
      refine w_iconst rL_isAll_329 (x := 0) (by decide) ?_
      refine xl_iaload rL_isAll_330 (G_at (by decide) rfl rfl (by unfold vp_in; decide)) (i := 0) (by decide) ?_
      refine w_istore rL_isAll_331 rfl trivial ?_
      exact q
    · replace q := q.1 h309
      refine w_aload_n rL_isAll_312 rfl ?_
      refine w_aload_n rL_isAll_313 rfl ?_
      refine w_iload rL_isAll_314 rfl ?_
      refine w_iconst rL_isAll_316 (x := 1) (by decide) ?_
      refine w_iadd rL_isAll_317 ?_
      have h318 := q.1
      replace q := q.2
      refine x_iaload rL_isAll_318 (G_at (by decide) rfl rfl h318) ?_
      refine w_invokevirtual rL_isAll_319 rfl rfl rfl (Nat.le_of_ble_eq_true rfl) ⟨trivial, trivial, trivial⟩ (G_is (by decide) rfl) q.1.1 q.1.2 ?_
      replace q := q.2
      exact q
  refine w_iflt rL_isAll_292 (fun h292 => ?_) (fun h292 => ?_)
  · skip
    refine w_iconst rL_isAll_299 (x := 0) (by decide) ?_
    exact j292 _ (if_pos h292).symm
  · skip
    refine w_iconst rL_isAll_295 (x := 1) (by decide) ?_
    refine w_goto rL_isAll_296 ?_
    exact j292 _ (if_neg h292).symm
theorem k_L_isAll_322 {X : Nat × (Nat × (Nat → Int32))} {I : Nat → Nat → Int32} {L : Nat → Nat → Int64} {F : Nat → Nat → UInt32} {Q : AQ} {c s : Nat} {x4 : Int32} {x5 : Int32} {x6 : Int32} {x7 : Int32} {x8 : Int32} {x9 : Int32} {x10 : Int32} {d11 : Option Value} {d12 : Option Value} {e0 : Int32} (q : WP mL_isAll 333 [some (.ref 0), some (.ref 498), some (.ref 499), some (.ref 500), some (.int x4), some (.int x5), some (.int x6), some (.int x7), some (.int x8), some (.int x9), some (.int x10), some (.int e0), some (.int (I 498 0))] [] (G X I L F) c s Q) : WP mL_isAll 322 [some (.ref 0), some (.ref 498), some (.ref 499), some (.ref 500), some (.int x4), some (.int x5), some (.int x6), some (.int x7), some (.int x8), some (.int x9), some (.int x10), d11, d12] [.int e0] (G X I L F) c s Q := by
  refine w_goto rL_isAll_322 ?_
  refine w_istore rL_isAll_326 rfl trivial ?_
  refine w_aload_n rL_isAll_328 rfl ?_
  refine w_iconst rL_isAll_329 (x := 0) (by decide) ?_
  refine xl_iaload rL_isAll_330 (G_at (by decide) rfl rfl (by unfold vp_in; decide)) (i := 0) (by decide) ?_
  refine w_istore rL_isAll_331 rfl trivial ?_
  exact q
theorem k_L_isAll_333 {X : Nat × (Nat × (Nat → Int32))} {I : Nat → Nat → Int32} {L : Nat → Nat → Int64} {F : Nat → Nat → UInt32} {Q : AQ} {c s : Nat} {x4 : Int32} {x5 : Int32} {x6 : Int32} {x7 : Int32} {x8 : Int32} {x9 : Int32} {x10 : Int32} {x11 : Int32} {x12 : Int32} (q : (x11 = (-1) → WP mL_isAll 199 [some (.ref 0), some (.ref 498), some (.ref 499), some (.ref 500), some (.int x4), some (.int x5), some (.int x6), some (.int (x7 + 1)), some (.int x8), some (.int x9), some (.int x10), some (.int x11), some (.int x12)] [] (G X I L F) c s Q) ∧ (¬ x11 = (-1) → (200 < x12 → WP mL_isAll 199 [some (.ref 0), some (.ref 498), some (.ref 499), some (.ref 500), some (.int x4), some (.int x5), some (.int x6), some (.int (x7 + 1)), some (.int x8), some (.int x9), some (.int x10), some (.int x11), some (.int x12)] [] (G X I L F) c s Q) ∧ (¬ 200 < x12 → (((I 498 0) + 24) < x12 → WP mL_isAll 199 [some (.ref 0), some (.ref 498), some (.ref 499), some (.ref 500), some (.int x4), some (.int x5), some (.int x6), some (.int (x7 + 1)), some (.int x8), some (.int x9), some (.int x10), some (.int x11), some (.int x12)] [] (G X I L F) c s Q) ∧ (¬ ((I 498 0) + 24) < x12 → (c + 1 ≤ 200 ∧ s + 6 ≤ 1200) ∧ (WP mX9_out 0 (am_ent 3 [.ref 0, .int x11, .int x12]) [] (G X I L F) 0 0 (am_kq mL_isAll 365 [some (.ref 0), some (.ref 498), some (.ref 499), some (.ref 500), some (.int x4), some (.int x5), some (.int x6), some (.int x7), some (.int x8), some (.int x9), some (.int x10), some (.int x11), some (.int x12)] [.int x6] (c + 1) (s + 6) Q)))))) : WP mL_isAll 333 [some (.ref 0), some (.ref 498), some (.ref 499), some (.ref 500), some (.int x4), some (.int x5), some (.int x6), some (.int x7), some (.int x8), some (.int x9), some (.int x10), some (.int x11), some (.int x12)] [] (G X I L F) c s Q := by
  refine w_iload rL_isAll_333 rfl ?_
  refine w_iconst rL_isAll_335 (x := -1) (by decide) ?_
  refine w_icmpeq rL_isAll_336 (fun h336 => ?_) (fun h336 => ?_)
  · replace q := q.1 h336
    refine w_iinc rL_isAll_400 rfl rfl trivial ?_
    refine w_goto rL_isAll_403 ?_
    exact q
  · replace q := q.2 h336
    refine w_iload rL_isAll_339 rfl ?_
    refine w_sipush rL_isAll_341 (x := 200) (by decide) ?_
    refine w_icmpgt rL_isAll_344 (fun h344 => ?_) (fun h344 => ?_)
    · replace q := q.1 h344
      refine w_iinc rL_isAll_400 rfl rfl trivial ?_
      refine w_goto rL_isAll_403 ?_
      exact q
    · replace q := q.2 h344
      refine w_iload rL_isAll_347 rfl ?_
      refine w_aload_n rL_isAll_349 rfl ?_
      refine w_iconst rL_isAll_350 (x := 0) (by decide) ?_
      refine xl_iaload rL_isAll_351 (G_at (by decide) rfl rfl (by unfold vp_in; decide)) (i := 0) (by decide) ?_
      refine w_bipush rL_isAll_352 (x := 24) (by decide) ?_
      refine w_iadd rL_isAll_354 ?_
      refine w_icmpgt rL_isAll_355 (fun h355 => ?_) (fun h355 => ?_)
      · replace q := q.1 h355
        refine w_iinc rL_isAll_400 rfl rfl trivial ?_
        refine w_goto rL_isAll_403 ?_
        exact q
      · replace q := q.2 h355
        refine w_iload rL_isAll_358 rfl ?_
        refine w_aload_n rL_isAll_360 rfl ?_
        refine w_iload rL_isAll_361 rfl ?_
        refine w_iload rL_isAll_363 rfl ?_
        refine w_invokevirtual rL_isAll_365 rfl rfl rfl (Nat.le_of_ble_eq_true rfl) ⟨trivial, trivial, trivial, trivial⟩ (G_is (by decide) rfl) q.1.1 q.1.2 ?_
        replace q := q.2
        exact q
theorem k_L_isAll_368 {X : Nat × (Nat × (Nat → Int32))} {I : Nat → Nat → Int32} {L : Nat → Nat → Int64} {F : Nat → Nat → UInt32} {Q : AQ} {c s : Nat} {x4 : Int32} {x5 : Int32} {x6 : Int32} {x7 : Int32} {x8 : Int32} {x9 : Int32} {x10 : Int32} {x11 : Int32} {x12 : Int32} {e0 : Int32} {e1 : Int32} (q : (c ≤ 200 ∧ s ≤ 1200) ∧ (vp_in (x8 + 5) 22 ∧ ((c + 0 ≤ 200 ∧ s + 0 ≤ 1200) ∧ (WP mL_bits 0 (am_ent 2 [.int (I 498 (Int32.toNatClampNeg (x8 + 5)))]) [] (G X I L F) 0 0 (am_kq mL_isAll 377 [some (.ref 0), some (.ref 498), some (.ref 499), some (.ref 500), some (.int x4), some (.int x5), some (.int x6), some (.int x7), some (.int x8), some (.int x9), some (.int x10), some (.int x11), some (.int x12)] [.int (f_L_key e1), .int e0] (c + 0) (s + 0) Q))))) : WP mL_isAll 368 [some (.ref 0), some (.ref 498), some (.ref 499), some (.ref 500), some (.int x4), some (.int x5), some (.int x6), some (.int x7), some (.int x8), some (.int x9), some (.int x10), some (.int x11), some (.int x12)] [.int e1, .int e0] (G X I L F) c s Q := by
  have bd368 := q.1
  replace q := q.2
  refine w_invokestatic rL_isAll_368 rfl rfl rfl (Nat.le_of_ble_eq_true rfl) ⟨trivial, trivial⟩ trivial bd368.1 bd368.2 ?_
  refine s_L_key ?_
  show WP mL_isAll 371 _ _ _ c s _
  refine w_aload_n rL_isAll_371 rfl ?_
  refine w_iload rL_isAll_372 rfl ?_
  refine w_iconst rL_isAll_374 (x := 5) (by decide) ?_
  refine w_iadd rL_isAll_375 ?_
  have h376 := q.1
  replace q := q.2
  refine x_iaload rL_isAll_376 (G_at (by decide) rfl rfl h376) ?_
  refine w_invokestatic rL_isAll_377 rfl rfl rfl (Nat.le_of_ble_eq_true rfl) ⟨trivial, trivial⟩ trivial q.1.1 q.1.2 ?_
  replace q := q.2
  exact q
theorem k_L_isAll_380 {X : Nat × (Nat × (Nat → Int32))} {I : Nat → Nat → Int32} {L : Nat → Nat → Int64} {F : Nat → Nat → UInt32} {Q : AQ} {c s : Nat} {x4 : Int32} {x5 : Int32} {x6 : Int32} {x7 : Int32} {x8 : Int32} {x9 : Int32} {x10 : Int32} {x11 : Int32} {x12 : Int32} {e0 : Int32} {e1 : Int32} {e2 : Int32} (q : ∀ s380_1 : Int32, s380_1 = (if e1 < e2 then 0 else ((1 : Int32) <<< (x7 &&& 31 : Int32)) : Int32) → (WP mL_isAll 333 [some (.ref 0), some (.ref 498), some (.ref 499), some (.ref 500), some (.int x4), some (.int x5), some (.int (e0 ||| s380_1)), some (.int x7), some (.int x8), some (.int x9), some (.int x10), some (.int x11), some (.int (x12 + 1))] [] (G X I L F) c s Q)) : WP mL_isAll 380 [some (.ref 0), some (.ref 498), some (.ref 499), some (.ref 500), some (.int x4), some (.int x5), some (.int x6), some (.int x7), some (.int x8), some (.int x9), some (.int x10), some (.int x11), some (.int x12)] [.int e2, .int e1, .int e0] (G X I L F) c s Q := by
  have j380 : ∀ s380_1 : Int32, s380_1 = (if e1 < e2 then 0 else ((1 : Int32) <<< (x7 &&& 31 : Int32)) : Int32) → WP mL_isAll 391 [some (.ref 0), some (.ref 498), some (.ref 499), some (.ref 500), some (.int x4), some (.int x5), some (.int x6), some (.int x7), some (.int x8), some (.int x9), some (.int x10), some (.int x11), some (.int x12)] [.int s380_1, .int e0] (G X I L F) c s Q := by
    intro s380_1 es380_1
    replace q := q s380_1 es380_1
    refine w_ior rL_isAll_391 ?_
    refine w_istore rL_isAll_392 rfl trivial ?_
    refine w_iinc rL_isAll_394 rfl rfl trivial ?_
    refine w_goto rL_isAll_397 ?_
    exact q
  refine w_icmplt rL_isAll_380 (fun h380 => ?_) (fun h380 => ?_)
  · skip
    refine w_iconst rL_isAll_390 (x := 0) (by decide) ?_
    exact j380 _ (if_pos h380).symm
  · skip
    refine w_iconst rL_isAll_383 (x := 1) (by decide) ?_
    refine w_iload rL_isAll_384 rfl ?_
    refine w_ishl rL_isAll_386 ?_
    refine w_goto rL_isAll_387 ?_
    exact j380 _ (if_neg h380).symm
theorem k_L_isAll_415 {X : Nat × (Nat × (Nat → Int32))} {I : Nat → Nat → Int32} {L : Nat → Nat → Int64} {F : Nat → Nat → UInt32} {Q : AQ} {c s : Nat} {x4 : Int32} {x5 : Int32} {x6 : Int32} {x7 : Int32} {d8 : Option Value} {d9 : Option Value} {d10 : Option Value} {d11 : Option Value} {d12 : Option Value} {e0 : Int32} (q : ∀ s417_0 : Int32, s417_0 = (if e0 = x6 then 1 else 0 : Int32) → ((s417_0 = 0 ∨ s417_0 = 1) ∧ (Q (.inl (some (.int s417_0))) (G X I L F)))) : WP mL_isAll 415 [some (.ref 0), some (.ref 498), some (.ref 499), some (.ref 500), some (.int x4), some (.int x5), some (.int x6), some (.int x7), d8, d9, d10, d11, d12] [.int e0] (G X I L F) c s Q := by
  refine w_iload rL_isAll_415 rfl ?_
  have j417 : ∀ s417_0 : Int32, s417_0 = (if e0 = x6 then 1 else 0 : Int32) → WP mL_isAll 425 [some (.ref 0), some (.ref 498), some (.ref 499), some (.ref 500), some (.int x4), some (.int x5), some (.int x6), some (.int x7), d8, d9, d10, d11, d12] [.int s417_0] (G X I L F) c s Q := by
    intro s417_0 es417_0
    replace q := q s417_0 es417_0
    have z425 := q.1
    replace q := q.2
    refine w_ireturn rL_isAll_425 z425 ?_
    exact q
  refine w_icmpne rL_isAll_417 (fun h417 => ?_) (fun h417 => ?_)
  · skip
    refine w_iconst rL_isAll_424 (x := 0) (by decide) ?_
    exact j417 _ (if_neg h417).symm
  · skip
    refine w_iconst rL_isAll_420 (x := 1) (by decide) ?_
    refine w_goto rL_isAll_421 ?_
    exact j417 _ (if_pos h417).symm
theorem k_L_law_30 {X : Nat × (Nat × (Nat → Int32))} {I : Nat → Nat → Int32} {L : Nat → Nat → Int64} {F : Nat → Nat → UInt32} {Q : AQ} {c s : Nat}  (q : (c + 0 ≤ 600104 ∧ s + 0 ≤ 7301314) ∧ (WP mX9_fault 0 (am_ent 2 [.ref 0, .int 0]) [] (G X I L F) 0 0 (am_kq mL_law 32 [some (.ref 1000000), some (.ref 0), some (.ref 498), some (.ref 499), some (.ref 500), some (.ref 501), none, none, none, none] [] (c + 0) (s + 0) Q))) : WP mL_law 30 [some (.ref 1000000), some (.ref 0), some (.ref 498), some (.ref 499), some (.ref 500), some (.ref 501), none, none, none, none] [] (G X I L F) c s Q := by
  refine w_aload_n rL_law_30 rfl ?_
  refine w_iconst rL_law_31 (x := 0) (by decide) ?_
  refine w_invokevirtual rL_law_32 rfl rfl rfl (Nat.le_of_ble_eq_true rfl) ⟨trivial, trivial, trivial⟩ (G_is (by decide) rfl) q.1.1 q.1.2 ?_
  replace q := q.2
  exact q
theorem k_L_law_35 {X : Nat × (Nat × (Nat → Int32))} {I : Nat → Nat → Int32} {L : Nat → Nat → Int64} {F : Nat → Nat → UInt32} {Q : AQ} {c s : Nat} {e0 : Int32} (q : (e0 = 0 → (c + 0 ≤ 600104 ∧ s + 0 ≤ 7301314) ∧ (WP mX9_wipe 0 (am_ent 1 [.ref 0]) [] (G X I L F) 0 0 (am_kq mL_law 39 [some (.ref 1000000), some (.ref 0), some (.ref 498), some (.ref 499), some (.ref 500), some (.ref 501), none, none, none, none] [] (c + 0) (s + 0) Q))) ∧ (¬ e0 = 0 → ∀ s84_0 : Int32, s84_0 = (if ((nI X.2.1) / 3) ≤ 90 then ((nI X.2.1) / 3) else 90 : Int32) → (WP mL_law 101 [some (.ref 1000000), some (.ref 0), some (.ref 498), some (.ref 499), some (.ref 500), some (.ref 501), some (.int 0), some (.int s84_0), some (.int 0), none] [] (G X I L F) c s Q))) : WP mL_law 35 [some (.ref 1000000), some (.ref 0), some (.ref 498), some (.ref 499), some (.ref 500), some (.ref 501), none, none, none, none] [.int e0] (G X I L F) c s Q := by
  refine w_ifne rL_law_35 (fun h35 => ?_) (fun h35 => ?_)
  · replace q := q.2 h35
    refine w_iconst rL_law_75 (x := 0) (by decide) ?_
    refine w_istore rL_law_76 rfl trivial ?_
    refine w_aload_n rL_law_78 rfl ?_
    refine x_lenX rL_law_79 ?_
    refine w_iconst rL_law_80 (x := 3) (by decide) ?_
    refine w_idiv rL_law_81 (by decide) ?_
    refine w_bipush rL_law_82 (x := 90) (by decide) ?_
    have j84 : ∀ s84_0 : Int32, s84_0 = (if ((nI X.2.1) / 3) ≤ 90 then ((nI X.2.1) / 3) else 90 : Int32) → WP mL_law 96 [some (.ref 1000000), some (.ref 0), some (.ref 498), some (.ref 499), some (.ref 500), some (.ref 501), some (.int 0), none, none, none] [.int s84_0] (G X I L F) c s Q := by
      intro s84_0 es84_0
      replace q := q s84_0 es84_0
      refine w_istore rL_law_96 rfl trivial ?_
      refine w_iconst rL_law_98 (x := 0) (by decide) ?_
      refine w_istore rL_law_99 rfl trivial ?_
      exact q
    refine w_icmple rL_law_84 (fun h84 => ?_) (fun h84 => ?_)
    · skip
      refine w_aload_n rL_law_92 rfl ?_
      refine x_lenX rL_law_93 ?_
      refine w_iconst rL_law_94 (x := 3) (by decide) ?_
      refine w_idiv rL_law_95 (by decide) ?_
      exact j84 _ (if_pos h84).symm
    · skip
      refine w_bipush rL_law_87 (x := 90) (by decide) ?_
      refine w_goto rL_law_89 ?_
      exact j84 _ (if_neg h84).symm
  · replace q := q.1 h35
    refine w_aload_n rL_law_38 rfl ?_
    refine w_invokevirtual rL_law_39 rfl rfl rfl (Nat.le_of_ble_eq_true rfl) ⟨trivial, trivial⟩ (G_is (by decide) rfl) q.1.1 q.1.2 ?_
    replace q := q.2
    exact q
theorem k_L_law_42 {X : Nat × (Nat × (Nat → Int32))} {I : Nat → Nat → Int32} {L : Nat → Nat → Int64} {F : Nat → Nat → UInt32} {Q : AQ} {c s : Nat} {e0 : Int32} (q : (e0 = 0 → (c + 1 ≤ 600104 ∧ s + 6 ≤ 7301314) ∧ (WP mX9_latest 0 (am_ent 2 [.ref 0, .int 5]) [] (G X I L F) 0 0 (am_kq mL_law 47 [some (.ref 1000000), some (.ref 0), some (.ref 498), some (.ref 499), some (.ref 500), some (.ref 501), none, none, none, none] [] (c + 1) (s + 6) Q))) ∧ (¬ e0 = 0 → ∀ s84_0 : Int32, s84_0 = (if ((nI X.2.1) / 3) ≤ 90 then ((nI X.2.1) / 3) else 90 : Int32) → (WP mL_law 101 [some (.ref 1000000), some (.ref 0), some (.ref 498), some (.ref 499), some (.ref 500), some (.ref 501), some (.int 0), some (.int s84_0), some (.int 0), none] [] (G X I L F) c s Q))) : WP mL_law 42 [some (.ref 1000000), some (.ref 0), some (.ref 498), some (.ref 499), some (.ref 500), some (.ref 501), none, none, none, none] [.int e0] (G X I L F) c s Q := by
  refine w_ifne rL_law_42 (fun h42 => ?_) (fun h42 => ?_)
  · replace q := q.2 h42
    refine w_iconst rL_law_75 (x := 0) (by decide) ?_
    refine w_istore rL_law_76 rfl trivial ?_
    refine w_aload_n rL_law_78 rfl ?_
    refine x_lenX rL_law_79 ?_
    refine w_iconst rL_law_80 (x := 3) (by decide) ?_
    refine w_idiv rL_law_81 (by decide) ?_
    refine w_bipush rL_law_82 (x := 90) (by decide) ?_
    have j84 : ∀ s84_0 : Int32, s84_0 = (if ((nI X.2.1) / 3) ≤ 90 then ((nI X.2.1) / 3) else 90 : Int32) → WP mL_law 96 [some (.ref 1000000), some (.ref 0), some (.ref 498), some (.ref 499), some (.ref 500), some (.ref 501), some (.int 0), none, none, none] [.int s84_0] (G X I L F) c s Q := by
      intro s84_0 es84_0
      replace q := q s84_0 es84_0
      refine w_istore rL_law_96 rfl trivial ?_
      refine w_iconst rL_law_98 (x := 0) (by decide) ?_
      refine w_istore rL_law_99 rfl trivial ?_
      exact q
    refine w_icmple rL_law_84 (fun h84 => ?_) (fun h84 => ?_)
    · skip
      refine w_aload_n rL_law_92 rfl ?_
      refine x_lenX rL_law_93 ?_
      refine w_iconst rL_law_94 (x := 3) (by decide) ?_
      refine w_idiv rL_law_95 (by decide) ?_
      exact j84 _ (if_pos h84).symm
    · skip
      refine w_bipush rL_law_87 (x := 90) (by decide) ?_
      refine w_goto rL_law_89 ?_
      exact j84 _ (if_neg h84).symm
  · replace q := q.1 h42
    refine w_aload_n rL_law_45 rfl ?_
    refine w_iconst rL_law_46 (x := 5) (by decide) ?_
    refine w_invokevirtual rL_law_47 rfl rfl rfl (Nat.le_of_ble_eq_true rfl) ⟨trivial, trivial, trivial⟩ (G_is (by decide) rfl) q.1.1 q.1.2 ?_
    replace q := q.2
    exact q
theorem k_L_law_50 {X : Nat × (Nat × (Nat → Int32))} {I : Nat → Nat → Int32} {L : Nat → Nat → Int64} {F : Nat → Nat → UInt32} {Q : AQ} {c s : Nat} {e0 : Int32} (q : (e0 = (-1) → (c + 0 ≤ 600104 ∧ s + 0 ≤ 7301314) ∧ (WP mX9_alarm 0 (am_ent 6 [.ref 0]) [] (G X I L F) 0 0 (am_kq mL_law 55 [some (.ref 1000000), some (.ref 0), some (.ref 498), some (.ref 499), some (.ref 500), some (.ref 501), none, none, none, none] [] (c + 0) (s + 0) Q))) ∧ (¬ e0 = (-1) → ∀ s84_0 : Int32, s84_0 = (if ((nI X.2.1) / 3) ≤ 90 then ((nI X.2.1) / 3) else 90 : Int32) → (WP mL_law 101 [some (.ref 1000000), some (.ref 0), some (.ref 498), some (.ref 499), some (.ref 500), some (.ref 501), some (.int 0), some (.int s84_0), some (.int 0), none] [] (G X I L F) c s Q))) : WP mL_law 50 [some (.ref 1000000), some (.ref 0), some (.ref 498), some (.ref 499), some (.ref 500), some (.ref 501), none, none, none, none] [.int e0] (G X I L F) c s Q := by
  refine w_iconst rL_law_50 (x := -1) (by decide) ?_
  refine w_icmpne rL_law_51 (fun h51 => ?_) (fun h51 => ?_)
  · replace q := q.2 h51
    refine w_iconst rL_law_75 (x := 0) (by decide) ?_
    refine w_istore rL_law_76 rfl trivial ?_
    refine w_aload_n rL_law_78 rfl ?_
    refine x_lenX rL_law_79 ?_
    refine w_iconst rL_law_80 (x := 3) (by decide) ?_
    refine w_idiv rL_law_81 (by decide) ?_
    refine w_bipush rL_law_82 (x := 90) (by decide) ?_
    have j84 : ∀ s84_0 : Int32, s84_0 = (if ((nI X.2.1) / 3) ≤ 90 then ((nI X.2.1) / 3) else 90 : Int32) → WP mL_law 96 [some (.ref 1000000), some (.ref 0), some (.ref 498), some (.ref 499), some (.ref 500), some (.ref 501), some (.int 0), none, none, none] [.int s84_0] (G X I L F) c s Q := by
      intro s84_0 es84_0
      replace q := q s84_0 es84_0
      refine w_istore rL_law_96 rfl trivial ?_
      refine w_iconst rL_law_98 (x := 0) (by decide) ?_
      refine w_istore rL_law_99 rfl trivial ?_
      exact q
    refine w_icmple rL_law_84 (fun h84 => ?_) (fun h84 => ?_)
    · skip
      refine w_aload_n rL_law_92 rfl ?_
      refine x_lenX rL_law_93 ?_
      refine w_iconst rL_law_94 (x := 3) (by decide) ?_
      refine w_idiv rL_law_95 (by decide) ?_
      exact j84 _ (if_pos h84).symm
    · skip
      refine w_bipush rL_law_87 (x := 90) (by decide) ?_
      refine w_goto rL_law_89 ?_
      exact j84 _ (if_neg h84).symm
  · replace q := q.1 h51
    refine w_aload_n rL_law_54 rfl ?_
    refine w_invokevirtual rL_law_55 rfl rfl rfl (Nat.le_of_ble_eq_true rfl) ⟨trivial, trivial⟩ (G_is (by decide) rfl) q.1.1 q.1.2 ?_
    replace q := q.2
    exact q
theorem k_L_law_58 {X : Nat × (Nat × (Nat → Int32))} {I : Nat → Nat → Int32} {L : Nat → Nat → Int64} {F : Nat → Nat → UInt32} {Q : AQ} {c s : Nat} {e0 : Int32} (q : (e0 = 0 → (c + 1 ≤ 600104 ∧ s + 6 ≤ 7301314) ∧ (WP mX9_trust 0 (am_ent 2 [.ref 0, .int 2]) [] (G X I L F) 0 0 (am_kq mL_law 63 [some (.ref 1000000), some (.ref 0), some (.ref 498), some (.ref 499), some (.ref 500), some (.ref 501), none, none, none, none] [] (c + 1) (s + 6) Q))) ∧ (¬ e0 = 0 → ∀ s84_0 : Int32, s84_0 = (if ((nI X.2.1) / 3) ≤ 90 then ((nI X.2.1) / 3) else 90 : Int32) → (WP mL_law 101 [some (.ref 1000000), some (.ref 0), some (.ref 498), some (.ref 499), some (.ref 500), some (.ref 501), some (.int 0), some (.int s84_0), some (.int 0), none] [] (G X I L F) c s Q))) : WP mL_law 58 [some (.ref 1000000), some (.ref 0), some (.ref 498), some (.ref 499), some (.ref 500), some (.ref 501), none, none, none, none] [.int e0] (G X I L F) c s Q := by
  refine w_ifne rL_law_58 (fun h58 => ?_) (fun h58 => ?_)
  · replace q := q.2 h58
    refine w_iconst rL_law_75 (x := 0) (by decide) ?_
    refine w_istore rL_law_76 rfl trivial ?_
    refine w_aload_n rL_law_78 rfl ?_
    refine x_lenX rL_law_79 ?_
    refine w_iconst rL_law_80 (x := 3) (by decide) ?_
    refine w_idiv rL_law_81 (by decide) ?_
    refine w_bipush rL_law_82 (x := 90) (by decide) ?_
    have j84 : ∀ s84_0 : Int32, s84_0 = (if ((nI X.2.1) / 3) ≤ 90 then ((nI X.2.1) / 3) else 90 : Int32) → WP mL_law 96 [some (.ref 1000000), some (.ref 0), some (.ref 498), some (.ref 499), some (.ref 500), some (.ref 501), some (.int 0), none, none, none] [.int s84_0] (G X I L F) c s Q := by
      intro s84_0 es84_0
      replace q := q s84_0 es84_0
      refine w_istore rL_law_96 rfl trivial ?_
      refine w_iconst rL_law_98 (x := 0) (by decide) ?_
      refine w_istore rL_law_99 rfl trivial ?_
      exact q
    refine w_icmple rL_law_84 (fun h84 => ?_) (fun h84 => ?_)
    · skip
      refine w_aload_n rL_law_92 rfl ?_
      refine x_lenX rL_law_93 ?_
      refine w_iconst rL_law_94 (x := 3) (by decide) ?_
      refine w_idiv rL_law_95 (by decide) ?_
      exact j84 _ (if_pos h84).symm
    · skip
      refine w_bipush rL_law_87 (x := 90) (by decide) ?_
      refine w_goto rL_law_89 ?_
      exact j84 _ (if_neg h84).symm
  · replace q := q.1 h58
    refine w_aload_n rL_law_61 rfl ?_
    refine w_iconst rL_law_62 (x := 2) (by decide) ?_
    refine w_invokevirtual rL_law_63 rfl rfl rfl (Nat.le_of_ble_eq_true rfl) ⟨trivial, trivial, trivial⟩ (G_is (by decide) rfl) q.1.1 q.1.2 ?_
    replace q := q.2
    exact q
theorem k_L_law_66 {X : Nat × (Nat × (Nat → Int32))} {I : Nat → Nat → Int32} {L : Nat → Nat → Int64} {F : Nat → Nat → UInt32} {Q : AQ} {c s : Nat} {e0 : Int32} (q : ∀ s68_0 : Int32, s68_0 = (if e0 = 1065353216 then 1 else 0 : Int32) → (∀ s84_0 : Int32, s84_0 = (if ((nI X.2.1) / 3) ≤ 90 then ((nI X.2.1) / 3) else 90 : Int32) → (WP mL_law 101 [some (.ref 1000000), some (.ref 0), some (.ref 498), some (.ref 499), some (.ref 500), some (.ref 501), some (.int s68_0), some (.int s84_0), some (.int 0), none] [] (G X I L F) c s Q))) : WP mL_law 66 [some (.ref 1000000), some (.ref 0), some (.ref 498), some (.ref 499), some (.ref 500), some (.ref 501), none, none, none, none] [.int e0] (G X I L F) c s Q := by
  refine w_ldcI rL_law_66 (x := 1065353216) (by decide) ?_
  have j68 : ∀ s68_0 : Int32, s68_0 = (if e0 = 1065353216 then 1 else 0 : Int32) → WP mL_law 76 [some (.ref 1000000), some (.ref 0), some (.ref 498), some (.ref 499), some (.ref 500), some (.ref 501), none, none, none, none] [.int s68_0] (G X I L F) c s Q := by
    intro s68_0 es68_0
    replace q := q s68_0 es68_0
    refine w_istore rL_law_76 rfl trivial ?_
    refine w_aload_n rL_law_78 rfl ?_
    refine x_lenX rL_law_79 ?_
    refine w_iconst rL_law_80 (x := 3) (by decide) ?_
    refine w_idiv rL_law_81 (by decide) ?_
    refine w_bipush rL_law_82 (x := 90) (by decide) ?_
    have j84 : ∀ s84_0 : Int32, s84_0 = (if ((nI X.2.1) / 3) ≤ 90 then ((nI X.2.1) / 3) else 90 : Int32) → WP mL_law 96 [some (.ref 1000000), some (.ref 0), some (.ref 498), some (.ref 499), some (.ref 500), some (.ref 501), some (.int s68_0), none, none, none] [.int s84_0] (G X I L F) c s Q := by
      intro s84_0 es84_0
      replace q := q s84_0 es84_0
      refine w_istore rL_law_96 rfl trivial ?_
      refine w_iconst rL_law_98 (x := 0) (by decide) ?_
      refine w_istore rL_law_99 rfl trivial ?_
      exact q
    refine w_icmple rL_law_84 (fun h84 => ?_) (fun h84 => ?_)
    · skip
      refine w_aload_n rL_law_92 rfl ?_
      refine x_lenX rL_law_93 ?_
      refine w_iconst rL_law_94 (x := 3) (by decide) ?_
      refine w_idiv rL_law_95 (by decide) ?_
      exact j84 _ (if_pos h84).symm
    · skip
      refine w_bipush rL_law_87 (x := 90) (by decide) ?_
      refine w_goto rL_law_89 ?_
      exact j84 _ (if_neg h84).symm
  refine w_icmpne rL_law_68 (fun h68 => ?_) (fun h68 => ?_)
  · skip
    refine w_iconst rL_law_75 (x := 0) (by decide) ?_
    exact j68 _ (if_neg h68).symm
  · skip
    refine w_iconst rL_law_71 (x := 1) (by decide) ?_
    refine w_goto rL_law_72 ?_
    exact j68 _ (if_pos h68).symm
theorem k_L_law_101 {X : Nat × (Nat × (Nat → Int32))} {I : Nat → Nat → Int32} {L : Nat → Nat → Int64} {F : Nat → Nat → UInt32} {Q : AQ} {c s : Nat} {x6 : Int32} {x7 : Int32} {x8 : Int32} {d9 : Option Value} (q : (x7 ≤ x8 → (x6 = 0 → Q (.inl (some (.int 0))) (G X I L F)) ∧ (¬ x6 = 0 → (c + 200 ≤ 600104 ∧ s + 1200 ≤ 7301314) ∧ (WP mL_isAll 0 (am_ent 13 [.ref 0, .ref 498, .ref 499, .ref 500, .int 7]) [] (G X I L F) 0 0 (am_kq mL_law 205 [some (.ref 1000000), some (.ref 0), some (.ref 498), some (.ref 499), some (.ref 500), some (.ref 501), some (.int x6), some (.int x7), some (.int x8), d9] [] (c + 200) (s + 1200) Q)))) ∧ (¬ x7 ≤ x8 → (x6 = 0 → Q (.inl (some (.int 0))) (G X I L F)) ∧ (¬ x6 = 0 → (c + 0 ≤ 600104 ∧ s + 0 ≤ 7301314) ∧ (WP mL_draw 0 (am_ent 2 [.ref 1000000, .int ((3 * x8) + 1)]) [] (G X I L F) 0 0 (am_kq mL_law 120 [some (.ref 1000000), some (.ref 0), some (.ref 498), some (.ref 499), some (.ref 500), some (.ref 501), some (.int x6), some (.int x7), some (.int x8), d9] [] (c + 0) (s + 0) Q))))) : WP mL_law 101 [some (.ref 1000000), some (.ref 0), some (.ref 498), some (.ref 499), some (.ref 500), some (.ref 501), some (.int x6), some (.int x7), some (.int x8), d9] [] (G X I L F) c s Q := by
  refine w_iload rL_law_101 rfl ?_
  refine w_iload rL_law_103 rfl ?_
  refine w_icmpge rL_law_105 (fun h105 => ?_) (fun h105 => ?_)
  · replace q := q.1 h105
    refine w_iload rL_law_193 rfl ?_
    refine w_ifeq rL_law_195 (fun h195 => ?_) (fun h195 => ?_)
    · replace q := q.1 h195
      refine w_iconst rL_law_215 (x := 0) (by decide) ?_
      refine w_ireturn rL_law_216 (Or.inl rfl) ?_
      exact q
    · replace q := q.2 h195
      refine w_aload_n rL_law_198 rfl ?_
      refine w_aload_n rL_law_199 rfl ?_
      refine w_aload_n rL_law_200 rfl ?_
      refine w_aload rL_law_201 rfl ?_
      refine w_bipush rL_law_203 (x := 7) (by decide) ?_
      refine w_invokestatic rL_law_205 rfl rfl rfl (Nat.le_of_ble_eq_true rfl) ⟨trivial, trivial, trivial, trivial, trivial, trivial⟩ trivial q.1.1 q.1.2 ?_
      replace q := q.2
      exact q
  · replace q := q.2 h105
    refine w_iload rL_law_108 rfl ?_
    refine w_ifeq rL_law_110 (fun h110 => ?_) (fun h110 => ?_)
    · replace q := q.1 h110
      refine w_iload rL_law_193 rfl ?_
      refine w_ifeq rL_law_195 (fun _ => ?_) (fun h => absurd h110 h)
      refine w_iconst rL_law_215 (x := 0) (by decide) ?_
      refine w_ireturn rL_law_216 (Or.inl rfl) ?_
      exact q
    · replace q := q.2 h110
      refine w_aload_n rL_law_113 rfl ?_
      refine w_iconst rL_law_114 (x := 3) (by decide) ?_
      refine w_iload rL_law_115 rfl ?_
      refine w_imul rL_law_117 ?_
      refine w_iconst rL_law_118 (x := 1) (by decide) ?_
      refine w_iadd rL_law_119 ?_
      refine w_invokestatic rL_law_120 rfl rfl rfl (Nat.le_of_ble_eq_true rfl) ⟨trivial, trivial, trivial⟩ trivial q.1.1 q.1.2 ?_
      replace q := q.2
      exact q
theorem k_L_law_123 {X : Nat × (Nat × (Nat → Int32))} {I : Nat → Nat → Int32} {L : Nat → Nat → Int64} {F : Nat → Nat → UInt32} {Q : AQ} {c s : Nat} {x6 : Int32} {x7 : Int32} {x8 : Int32} {d9 : Option Value} {e0 : Int32} (q : (c + 0 ≤ 600104 ∧ s + 0 ≤ 7301314) ∧ (WP mL_draw 0 (am_ent 2 [.ref 1000000, .int (3 * x8)]) [] (G X I L F) 0 0 (am_kq mL_law 137 [some (.ref 1000000), some (.ref 0), some (.ref 498), some (.ref 499), some (.ref 500), some (.ref 501), some (.int x6), some (.int x7), some (.int x8), some (.int e0)] [.ref 501, .ref 500, .ref 499, .ref 498, .ref 0] (c + 0) (s + 0) Q))) : WP mL_law 123 [some (.ref 1000000), some (.ref 0), some (.ref 498), some (.ref 499), some (.ref 500), some (.ref 501), some (.int x6), some (.int x7), some (.int x8), d9] [.int e0] (G X I L F) c s Q := by
  refine w_istore rL_law_123 rfl trivial ?_
  refine w_aload_n rL_law_125 rfl ?_
  refine w_aload_n rL_law_126 rfl ?_
  refine w_aload_n rL_law_127 rfl ?_
  refine w_aload rL_law_128 rfl ?_
  refine w_aload rL_law_130 rfl ?_
  refine w_aload_n rL_law_132 rfl ?_
  refine w_iconst rL_law_133 (x := 3) (by decide) ?_
  refine w_iload rL_law_134 rfl ?_
  refine w_imul rL_law_136 ?_
  refine w_invokestatic rL_law_137 rfl rfl rfl (Nat.le_of_ble_eq_true rfl) ⟨trivial, trivial, trivial⟩ trivial q.1.1 q.1.2 ?_
  replace q := q.2
  exact q
theorem k_L_law_140 {X : Nat × (Nat × (Nat → Int32))} {I : Nat → Nat → Int32} {L : Nat → Nat → Int64} {F : Nat → Nat → UInt32} {Q : AQ} {c s : Nat} {x6 : Int32} {x7 : Int32} {x8 : Int32} {x9 : Int32} {e5 : Int32} (q : (c + 0 ≤ 600104 ∧ s + 0 ≤ 7301314) ∧ (WP mL_draw 0 (am_ent 2 [.ref 1000000, .int ((3 * x8) + 2)]) [] (G X I L F) 0 0 (am_kq mL_law 149 [some (.ref 1000000), some (.ref 0), some (.ref 498), some (.ref 499), some (.ref 500), some (.ref 501), some (.int x6), some (.int x7), some (.int x8), some (.int x9)] [.int x9, .int e5, .ref 501, .ref 500, .ref 499, .ref 498, .ref 0] (c + 0) (s + 0) Q))) : WP mL_law 140 [some (.ref 1000000), some (.ref 0), some (.ref 498), some (.ref 499), some (.ref 500), some (.ref 501), some (.int x6), some (.int x7), some (.int x8), some (.int x9)] [.int e5, .ref 501, .ref 500, .ref 499, .ref 498, .ref 0] (G X I L F) c s Q := by
  refine w_iload rL_law_140 rfl ?_
  refine w_aload_n rL_law_142 rfl ?_
  refine w_iconst rL_law_143 (x := 3) (by decide) ?_
  refine w_iload rL_law_144 rfl ?_
  refine w_imul rL_law_146 ?_
  refine w_iconst rL_law_147 (x := 2) (by decide) ?_
  refine w_iadd rL_law_148 ?_
  refine w_invokestatic rL_law_149 rfl rfl rfl (Nat.le_of_ble_eq_true rfl) ⟨trivial, trivial, trivial⟩ trivial q.1.1 q.1.2 ?_
  replace q := q.2
  exact q
theorem k_L_law_152 {X : Nat × (Nat × (Nat → Int32))} {I : Nat → Nat → Int32} {L : Nat → Nat → Int64} {F : Nat → Nat → UInt32} {Q : AQ} {c s : Nat} {x6 : Int32} {x7 : Int32} {x8 : Int32} {x9 : Int32} {e5 : Int32} {e6 : Int32} {e7 : Int32} (q : (c + 500 ≤ 600104 ∧ s + 3200 ≤ 7301314) ∧ (WP mL_step 0 (am_ent 13 [.ref 0, .ref 498, .ref 499, .ref 500, .ref 501, .int e5, .int e6, .int e7]) [] (G X I L F) 0 0 (am_kq mL_law 152 [some (.ref 1000000), some (.ref 0), some (.ref 498), some (.ref 499), some (.ref 500), some (.ref 501), some (.int x6), some (.int x7), some (.int x8), some (.int x9)] [] (c + 500) (s + 3200) Q))) : WP mL_law 152 [some (.ref 1000000), some (.ref 0), some (.ref 498), some (.ref 499), some (.ref 500), some (.ref 501), some (.int x6), some (.int x7), some (.int x8), some (.int x9)] [.int e7, .int e6, .int e5, .ref 501, .ref 500, .ref 499, .ref 498, .ref 0] (G X I L F) c s Q := by
  refine w_invokestatic rL_law_152 rfl rfl rfl (Nat.le_of_ble_eq_true rfl) ⟨trivial, trivial, trivial, trivial, trivial, trivial, trivial, trivial, trivial⟩ trivial q.1.1 q.1.2 ?_
  replace q := q.2
  exact q
theorem k_L_law_155 {X : Nat × (Nat × (Nat → Int32))} {I : Nat → Nat → Int32} {L : Nat → Nat → Int64} {F : Nat → Nat → UInt32} {Q : AQ} {c s : Nat} {x6 : Int32} {x7 : Int32} {x8 : Int32} {x9 : Int32} {e0 : Int32} (q : (e0 = 0 → WP mL_law 101 [some (.ref 1000000), some (.ref 0), some (.ref 498), some (.ref 499), some (.ref 500), some (.ref 501), some (.int 0), some (.int x7), some (.int (x8 + 1)), some (.int x9)] [] (G X I L F) c s Q) ∧ (¬ e0 = 0 → (0 < (x8 - x8 / 5 * 5) → WP mL_law 101 [some (.ref 1000000), some (.ref 0), some (.ref 498), some (.ref 499), some (.ref 500), some (.ref 501), some (.int 1), some (.int x7), some (.int (x8 + 1)), some (.int x9)] [] (G X I L F) c s Q) ∧ (¬ 0 < (x8 - x8 / 5 * 5) → (c + 200 ≤ 600104 ∧ s + 1200 ≤ 7301314) ∧ (WP mL_isAll 0 (am_ent 13 [.ref 0, .ref 498, .ref 499, .ref 500, .int (x9 / 3)]) [] (G X I L F) 0 0 (am_kq mL_law 174 [some (.ref 1000000), some (.ref 0), some (.ref 498), some (.ref 499), some (.ref 500), some (.ref 501), some (.int x6), some (.int x7), some (.int x8), some (.int x9)] [] (c + 200) (s + 1200) Q))))) : WP mL_law 155 [some (.ref 1000000), some (.ref 0), some (.ref 498), some (.ref 499), some (.ref 500), some (.ref 501), some (.int x6), some (.int x7), some (.int x8), some (.int x9)] [.int e0] (G X I L F) c s Q := by
  refine w_ifeq rL_law_155 (fun h155 => ?_) (fun h155 => ?_)
  · replace q := q.1 h155
    refine w_iconst rL_law_184 (x := 0) (by decide) ?_
    refine w_istore rL_law_185 rfl trivial ?_
    refine w_iinc rL_law_187 rfl rfl trivial ?_
    refine w_goto rL_law_190 ?_
    exact q
  · replace q := q.2 h155
    refine w_iload rL_law_158 rfl ?_
    refine w_iconst rL_law_160 (x := 5) (by decide) ?_
    refine w_irem rL_law_161 (by decide) ?_
    refine w_ifgt rL_law_162 (fun h162 => ?_) (fun h162 => ?_)
    · replace q := q.1 h162
      refine w_iconst rL_law_180 (x := 1) (by decide) ?_
      refine w_goto rL_law_181 ?_
      refine w_istore rL_law_185 rfl trivial ?_
      refine w_iinc rL_law_187 rfl rfl trivial ?_
      refine w_goto rL_law_190 ?_
      exact q
    · replace q := q.2 h162
      refine w_aload_n rL_law_165 rfl ?_
      refine w_aload_n rL_law_166 rfl ?_
      refine w_aload_n rL_law_167 rfl ?_
      refine w_aload rL_law_168 rfl ?_
      refine w_iload rL_law_170 rfl ?_
      refine w_iconst rL_law_172 (x := 3) (by decide) ?_
      refine w_idiv rL_law_173 (by decide) ?_
      refine w_invokestatic rL_law_174 rfl rfl rfl (Nat.le_of_ble_eq_true rfl) ⟨trivial, trivial, trivial, trivial, trivial, trivial⟩ trivial q.1.1 q.1.2 ?_
      replace q := q.2
      exact q
theorem k_L_law_177 {X : Nat × (Nat × (Nat → Int32))} {I : Nat → Nat → Int32} {L : Nat → Nat → Int64} {F : Nat → Nat → UInt32} {Q : AQ} {c s : Nat} {x6 : Int32} {x7 : Int32} {x8 : Int32} {x9 : Int32} {e0 : Int32} (q : ∀ s177_0 : Int32, s177_0 = (if e0 = 0 then 0 else 1 : Int32) → (WP mL_law 101 [some (.ref 1000000), some (.ref 0), some (.ref 498), some (.ref 499), some (.ref 500), some (.ref 501), some (.int s177_0), some (.int x7), some (.int (x8 + 1)), some (.int x9)] [] (G X I L F) c s Q)) : WP mL_law 177 [some (.ref 1000000), some (.ref 0), some (.ref 498), some (.ref 499), some (.ref 500), some (.ref 501), some (.int x6), some (.int x7), some (.int x8), some (.int x9)] [.int e0] (G X I L F) c s Q := by
  have j177 : ∀ s177_0 : Int32, s177_0 = (if e0 = 0 then 0 else 1 : Int32) → WP mL_law 185 [some (.ref 1000000), some (.ref 0), some (.ref 498), some (.ref 499), some (.ref 500), some (.ref 501), some (.int x6), some (.int x7), some (.int x8), some (.int x9)] [.int s177_0] (G X I L F) c s Q := by
    intro s177_0 es177_0
    replace q := q s177_0 es177_0
    refine w_istore rL_law_185 rfl trivial ?_
    refine w_iinc rL_law_187 rfl rfl trivial ?_
    refine w_goto rL_law_190 ?_
    exact q
  refine w_ifeq rL_law_177 (fun h177 => ?_) (fun h177 => ?_)
  · skip
    refine w_iconst rL_law_184 (x := 0) (by decide) ?_
    exact j177 _ (if_pos h177).symm
  · skip
    refine w_iconst rL_law_180 (x := 1) (by decide) ?_
    refine w_goto rL_law_181 ?_
    exact j177 _ (if_neg h177).symm
theorem k_L_law_208 {X : Nat × (Nat × (Nat → Int32))} {I : Nat → Nat → Int32} {L : Nat → Nat → Int64} {F : Nat → Nat → UInt32} {Q : AQ} {c s : Nat} {x6 : Int32} {x7 : Int32} {x8 : Int32} {d9 : Option Value} {e0 : Int32} (q : ∀ s208_0 : Int32, s208_0 = (if e0 = 0 then 0 else 1 : Int32) → ((s208_0 = 0 ∨ s208_0 = 1) ∧ (Q (.inl (some (.int s208_0))) (G X I L F)))) : WP mL_law 208 [some (.ref 1000000), some (.ref 0), some (.ref 498), some (.ref 499), some (.ref 500), some (.ref 501), some (.int x6), some (.int x7), some (.int x8), d9] [.int e0] (G X I L F) c s Q := by
  have j208 : ∀ s208_0 : Int32, s208_0 = (if e0 = 0 then 0 else 1 : Int32) → WP mL_law 216 [some (.ref 1000000), some (.ref 0), some (.ref 498), some (.ref 499), some (.ref 500), some (.ref 501), some (.int x6), some (.int x7), some (.int x8), d9] [.int s208_0] (G X I L F) c s Q := by
    intro s208_0 es208_0
    replace q := q s208_0 es208_0
    have z216 := q.1
    replace q := q.2
    refine w_ireturn rL_law_216 z216 ?_
    exact q
  refine w_ifeq rL_law_208 (fun h208 => ?_) (fun h208 => ?_)
  · skip
    refine w_iconst rL_law_215 (x := 0) (by decide) ?_
    exact j208 _ (if_pos h208).symm
  · skip
    refine w_iconst rL_law_211 (x := 1) (by decide) ?_
    refine w_goto rL_law_212 ?_
    exact j208 _ (if_neg h208).symm
theorem k_L_texts_24 {X : Nat × (Nat × (Nat → Int32))} {I : Nat → Nat → Int32} {L : Nat → Nat → Int64} {F : Nat → Nat → UInt32} {Q : AQ} {c s : Nat} {model : Int32} {seed : Int32} {n : Nat} {ro : Nat} {x7 : Int32} {x8 : Int32} {x9 : Int32} (hn : isT X n 1) (hro : isT X ro 8) (q : (c ≤ 400 ∧ s ≤ 2500) ∧ (((f_X9_wipe I) < 0 → WP mL_texts 54 [some (.ref 0), some (.ref 498), some (.ref 499), some (.int model), some (.int seed), some (.ref n), some (.ref ro), some (.int x7), some (.int x8), some (.int x9), some (.int 0), none, none, none, none, none, none] [] (G X (fI_X9_wipe I) L F) c s Q) ∧ (¬ (f_X9_wipe I) < 0 → (c + 0 ≤ 400 ∧ s + 0 ≤ 2500) ∧ (WP mX9_fault 0 (am_ent 2 [.ref 0, .int 0]) [] (G X (fI_X9_wipe I) L F) 0 0 (am_kq mL_texts 33 [some (.ref 0), some (.ref 498), some (.ref 499), some (.int model), some (.int seed), some (.ref n), some (.ref ro), some (.int x7), some (.int x8), some (.int x9), none, none, none, none, none, none, none] [] (c + 0) (s + 0) Q))))) : WP mL_texts 24 [some (.ref 0), some (.ref 498), some (.ref 499), some (.int model), some (.int seed), some (.ref n), some (.ref ro), some (.int x7), some (.int x8), some (.int x9), none, none, none, none, none, none, none] [] (G X I L F) c s Q := by
  refine w_aload_n rL_texts_24 rfl ?_
  have bd25 := q.1
  replace q := q.2
  refine w_invokevirtual rL_texts_25 rfl rfl rfl (Nat.le_of_ble_eq_true rfl) ⟨trivial, trivial⟩ (G_is (by decide) rfl) bd25.1 bd25.2 ?_
  refine s_X9_wipe ?_
  show WP mL_texts 28 _ _ _ c s _
  refine w_iflt rL_texts_28 (fun h28 => ?_) (fun h28 => ?_)
  · replace q := q.1 h28
    refine w_iconst rL_texts_51 (x := 0) (by decide) ?_
    refine w_istore rL_texts_52 rfl trivial ?_
    exact q
  · replace q := q.2 h28
    refine w_aload_n rL_texts_31 rfl ?_
    refine w_iconst rL_texts_32 (x := 0) (by decide) ?_
    refine w_invokevirtual rL_texts_33 rfl rfl rfl (Nat.le_of_ble_eq_true rfl) ⟨trivial, trivial, trivial⟩ (G_is (by decide) rfl) q.1.1 q.1.2 ?_
    replace q := q.2
    exact q
theorem k_L_texts_36 {X : Nat × (Nat × (Nat → Int32))} {I : Nat → Nat → Int32} {L : Nat → Nat → Int64} {F : Nat → Nat → UInt32} {Q : AQ} {c s : Nat} {x3 : Int32} {x4 : Int32} {o5 : Nat} {o6 : Nat} {x7 : Int32} {x8 : Int32} {x9 : Int32} {e0 : Int32} (ho5 : isT X o5 1) (ho6 : isT X o6 8) (q : (e0 = 0 → (c + 0 ≤ 400 ∧ s + 0 ≤ 2500) ∧ (WP mX9_fault 0 (am_ent 2 [.ref 0, .int 1]) [] (G X I L F) 0 0 (am_kq mL_texts 41 [some (.ref 0), some (.ref 498), some (.ref 499), some (.int x3), some (.int x4), some (.ref o5), some (.ref o6), some (.int x7), some (.int x8), some (.int x9), none, none, none, none, none, none, none] [] (c + 0) (s + 0) Q))) ∧ (¬ e0 = 0 → WP mL_texts 54 [some (.ref 0), some (.ref 498), some (.ref 499), some (.int x3), some (.int x4), some (.ref o5), some (.ref o6), some (.int x7), some (.int x8), some (.int x9), some (.int 0), none, none, none, none, none, none] [] (G X I L F) c s Q)) : WP mL_texts 36 [some (.ref 0), some (.ref 498), some (.ref 499), some (.int x3), some (.int x4), some (.ref o5), some (.ref o6), some (.int x7), some (.int x8), some (.int x9), none, none, none, none, none, none, none] [.int e0] (G X I L F) c s Q := by
  refine w_ifne rL_texts_36 (fun h36 => ?_) (fun h36 => ?_)
  · replace q := q.2 h36
    refine w_iconst rL_texts_51 (x := 0) (by decide) ?_
    refine w_istore rL_texts_52 rfl trivial ?_
    exact q
  · replace q := q.1 h36
    refine w_aload_n rL_texts_39 rfl ?_
    refine w_iconst rL_texts_40 (x := 1) (by decide) ?_
    refine w_invokevirtual rL_texts_41 rfl rfl rfl (Nat.le_of_ble_eq_true rfl) ⟨trivial, trivial, trivial⟩ (G_is (by decide) rfl) q.1.1 q.1.2 ?_
    replace q := q.2
    exact q
theorem k_L_texts_44 {X : Nat × (Nat × (Nat → Int32))} {I : Nat → Nat → Int32} {L : Nat → Nat → Int64} {F : Nat → Nat → UInt32} {Q : AQ} {c s : Nat} {x3 : Int32} {x4 : Int32} {o5 : Nat} {o6 : Nat} {x7 : Int32} {x8 : Int32} {x9 : Int32} {e0 : Int32} (ho5 : isT X o5 1) (ho6 : isT X o6 8) (q : ∀ s44_0 : Int32, s44_0 = (if e0 = 0 then 1 else 0 : Int32) → (WP mL_texts 54 [some (.ref 0), some (.ref 498), some (.ref 499), some (.int x3), some (.int x4), some (.ref o5), some (.ref o6), some (.int x7), some (.int x8), some (.int x9), some (.int s44_0), none, none, none, none, none, none] [] (G X I L F) c s Q)) : WP mL_texts 44 [some (.ref 0), some (.ref 498), some (.ref 499), some (.int x3), some (.int x4), some (.ref o5), some (.ref o6), some (.int x7), some (.int x8), some (.int x9), none, none, none, none, none, none, none] [.int e0] (G X I L F) c s Q := by
  have j44 : ∀ s44_0 : Int32, s44_0 = (if e0 = 0 then 1 else 0 : Int32) → WP mL_texts 52 [some (.ref 0), some (.ref 498), some (.ref 499), some (.int x3), some (.int x4), some (.ref o5), some (.ref o6), some (.int x7), some (.int x8), some (.int x9), none, none, none, none, none, none, none] [.int s44_0] (G X I L F) c s Q := by
    intro s44_0 es44_0
    replace q := q s44_0 es44_0
    refine w_istore rL_texts_52 rfl trivial ?_
    exact q
  refine w_ifne rL_texts_44 (fun h44 => ?_) (fun h44 => ?_)
  · skip
    refine w_iconst rL_texts_51 (x := 0) (by decide) ?_
    exact j44 _ (if_neg h44).symm
  · skip
    refine w_iconst rL_texts_47 (x := 1) (by decide) ?_
    refine w_goto rL_texts_48 ?_
    exact j44 _ (if_pos h44).symm
theorem k_L_texts_54 {X : Nat × (Nat × (Nat → Int32))} {I : Nat → Nat → Int32} {L : Nat → Nat → Int64} {F : Nat → Nat → UInt32} {Q : AQ} {c s : Nat} {x3 : Int32} {x4 : Int32} {o5 : Nat} {o6 : Nat} {x7 : Int32} {x8 : Int32} {x9 : Int32} {x10 : Int32} {d11 : Option Value} {d12 : Option Value} {d13 : Option Value} {d14 : Option Value} {d15 : Option Value} {d16 : Option Value} (ho5 : isT X o5 1) (ho6 : isT X o6 8) (q : (x10 = 0 → Q (.inl (some (.int 0))) (G X I L F)) ∧ (¬ x10 = 0 → (x9 = 0 → ∀ s112_0 : Int32, s112_0 = (if (I o5 0) ≤ 10 then 0 else 1 : Int32) → (∀ s136_0 : Int32, s136_0 = (if s112_0 = 0 then (if x7 = 3 then (if ((((((x8 * 31) + (17 * (I o5 0))) + 11) - (((x8 * 31) + (17 * (I o5 0))) + 11) / 60013 * 60013) / 7) - (((((x8 * 31) + (17 * (I o5 0))) + 11) - (((x8 * 31) + (17 * (I o5 0))) + 11) / 60013 * 60013) / 7) / 9 * 9) ≤ 4 then ((((((x8 * 31) + (17 * (I o5 0))) + 11) - (((x8 * 31) + (17 * (I o5 0))) + 11) / 60013 * 60013) / 7) - (((((x8 * 31) + (17 * (I o5 0))) + 11) - (((x8 * 31) + (17 * (I o5 0))) + 11) / 60013 * 60013) / 7) / 9 * 9) else (if 8 ≤ ((((((x8 * 31) + (17 * (I o5 0))) + 11) - (((x8 * 31) + (17 * (I o5 0))) + 11) / 60013 * 60013) / 7) - (((((x8 * 31) + (17 * (I o5 0))) + 11) - (((x8 * 31) + (17 * (I o5 0))) + 11) / 60013 * 60013) / 7) / 9 * 9) then ((((((x8 * 31) + (17 * (I o5 0))) + 11) - (((x8 * 31) + (17 * (I o5 0))) + 11) / 60013 * 60013) / 7) - (((((x8 * 31) + (17 * (I o5 0))) + 11) - (((x8 * 31) + (17 * (I o5 0))) + 11) / 60013 * 60013) / 7) / 9 * 9) else ((((((x8 * 31) + (17 * (I o5 0))) + 11) - (((x8 * 31) + (17 * (I o5 0))) + 11) / 60013 * 60013) / 7) - (((((x8 * 31) + (17 * (I o5 0))) + 11) - (((x8 * 31) + (17 * (I o5 0))) + 11) / 60013 * 60013) / 7) / 3 * 3) : Int32) : Int32) else ((((((x8 * 31) + (17 * (I o5 0))) + 11) - (((x8 * 31) + (17 * (I o5 0))) + 11) / 60013 * 60013) / 7) - (((((x8 * 31) + (17 * (I o5 0))) + 11) - (((x8 * 31) + (17 * (I o5 0))) + 11) / 60013 * 60013) / 7) / 9 * 9) : Int32) else ((((((x8 * 31) + (17 * (I o5 0))) + 11) - (((x8 * 31) + (17 * (I o5 0))) + 11) / 60013 * 60013) / 7) - (((((x8 * 31) + (17 * (I o5 0))) + 11) - (((x8 * 31) + (17 * (I o5 0))) + 11) / 60013 * 60013) / 7) / 3 * 3) : Int32) → (∀ s180_0 : Int32, s180_0 = (if x7 = 0 then 1 else 0 : Int32) → ((s136_0 = 5 → ∀ s223_0 : Int32, s223_0 = (if s136_0 = 7 then 45 else 40 : Int32) → ((c + 1 ≤ 400 ∧ s + 6 ≤ 2500) ∧ (WP mL_types 0 (am_ent 4 [.ref 0, .ref o5, .int s223_0, .int 0]) [] (G X I L F) 0 0 (am_kq mL_texts 295 [some (.ref 0), some (.ref 498), some (.ref 499), some (.int x3), some (.int x4), some (.ref o5), some (.ref o6), some (.int x7), some (.int ((((x8 * 31) + (17 * (I o5 0))) + 11) - (((x8 * 31) + (17 * (I o5 0))) + 11) / 60013 * 60013)), some (.int x9), some (.int x10), some (.int s112_0), some (.int (((((x8 * 31) + (17 * (I o5 0))) + 11) - (((x8 * 31) + (17 * (I o5 0))) + 11) / 60013 * 60013) / 7)), some (.int s136_0), some (.int s180_0), some (.int (((((((x8 * 31) + (17 * (I o5 0))) + 11) - (((x8 * 31) + (17 * (I o5 0))) + 11) / 60013 * 60013) / 7) / 9) - ((((((x8 * 31) + (17 * (I o5 0))) + 11) - (((x8 * 31) + (17 * (I o5 0))) + 11) / 60013 * 60013) / 7) / 9) / 5 * 5)), some (.int s223_0)] [] (c + 1) (s + 6) Q)))) ∧ (¬ s136_0 = 5 → (s136_0 = 6 → ∀ s223_0 : Int32, s223_0 = (if s136_0 = 7 then 45 else (if (((((((x8 * 31) + (17 * (I o5 0))) + 11) - (((x8 * 31) + (17 * (I o5 0))) + 11) / 60013 * 60013) / 7) / 9) - ((((((x8 * 31) + (17 * (I o5 0))) + 11) - (((x8 * 31) + (17 * (I o5 0))) + 11) / 60013 * 60013) / 7) / 9) / 5 * 5) = 0 then 120 else (if (((((((x8 * 31) + (17 * (I o5 0))) + 11) - (((x8 * 31) + (17 * (I o5 0))) + 11) / 60013 * 60013) / 7) / 9) - ((((((x8 * 31) + (17 * (I o5 0))) + 11) - (((x8 * 31) + (17 * (I o5 0))) + 11) / 60013 * 60013) / 7) / 9) / 5 * 5) = 1 then 110 else (if (((((((x8 * 31) + (17 * (I o5 0))) + 11) - (((x8 * 31) + (17 * (I o5 0))) + 11) / 60013 * 60013) / 7) / 9) - ((((((x8 * 31) + (17 * (I o5 0))) + 11) - (((x8 * 31) + (17 * (I o5 0))) + 11) / 60013 * 60013) / 7) / 9) / 5 * 5) = 2 then 105 else (if (((((((x8 * 31) + (17 * (I o5 0))) + 11) - (((x8 * 31) + (17 * (I o5 0))) + 11) / 60013 * 60013) / 7) / 9) - ((((((x8 * 31) + (17 * (I o5 0))) + 11) - (((x8 * 31) + (17 * (I o5 0))) + 11) / 60013 * 60013) / 7) / 9) / 5 * 5) = 3 then 116 else 97 : Int32) : Int32) : Int32) : Int32) : Int32) → ((c + 1 ≤ 400 ∧ s + 6 ≤ 2500) ∧ (WP mL_types 0 (am_ent 4 [.ref 0, .ref o5, .int s223_0, .int 0]) [] (G X I L F) 0 0 (am_kq mL_texts 295 [some (.ref 0), some (.ref 498), some (.ref 499), some (.int x3), some (.int x4), some (.ref o5), some (.ref o6), some (.int x7), some (.int ((((x8 * 31) + (17 * (I o5 0))) + 11) - (((x8 * 31) + (17 * (I o5 0))) + 11) / 60013 * 60013)), some (.int x9), some (.int x10), some (.int s112_0), some (.int (((((x8 * 31) + (17 * (I o5 0))) + 11) - (((x8 * 31) + (17 * (I o5 0))) + 11) / 60013 * 60013) / 7)), some (.int s136_0), some (.int s180_0), some (.int (((((((x8 * 31) + (17 * (I o5 0))) + 11) - (((x8 * 31) + (17 * (I o5 0))) + 11) / 60013 * 60013) / 7) / 9) - ((((((x8 * 31) + (17 * (I o5 0))) + 11) - (((x8 * 31) + (17 * (I o5 0))) + 11) / 60013 * 60013) / 7) / 9) / 5 * 5)), some (.int s223_0)] [] (c + 1) (s + 6) Q)))) ∧ (¬ s136_0 = 6 → (s136_0 = 7 → (c + 1 ≤ 400 ∧ s + 6 ≤ 2500) ∧ (WP mL_types 0 (am_ent 4 [.ref 0, .ref o5, .int 45, .int 0]) [] (G X I L F) 0 0 (am_kq mL_texts 295 [some (.ref 0), some (.ref 498), some (.ref 499), some (.int x3), some (.int x4), some (.ref o5), some (.ref o6), some (.int x7), some (.int ((((x8 * 31) + (17 * (I o5 0))) + 11) - (((x8 * 31) + (17 * (I o5 0))) + 11) / 60013 * 60013)), some (.int x9), some (.int x10), some (.int s112_0), some (.int (((((x8 * 31) + (17 * (I o5 0))) + 11) - (((x8 * 31) + (17 * (I o5 0))) + 11) / 60013 * 60013) / 7)), some (.int s136_0), some (.int s180_0), some (.int (((((((x8 * 31) + (17 * (I o5 0))) + 11) - (((x8 * 31) + (17 * (I o5 0))) + 11) / 60013 * 60013) / 7) / 9) - ((((((x8 * 31) + (17 * (I o5 0))) + 11) - (((x8 * 31) + (17 * (I o5 0))) + 11) / 60013 * 60013) / 7) / 9) / 5 * 5)), some (.int 45)] [] (c + 1) (s + 6) Q))) ∧ (¬ s136_0 = 7 → (c + 5 ≤ 400 ∧ s + 30 ≤ 2500) ∧ (WP mL_factor 0 (am_ent 8 [.ref 0, .ref o5, .ref 499, .int x3, .int s136_0, .int ((((((x8 * 31) + (17 * (I o5 0))) + 11) - (((x8 * 31) + (17 * (I o5 0))) + 11) / 60013 * 60013) / 7) / 9), .int s180_0]) [] (G X I L F) 0 0 (am_kq mL_texts 396 [some (.ref 0), some (.ref 498), some (.ref 499), some (.int x3), some (.int x4), some (.ref o5), some (.ref o6), some (.int x7), some (.int ((((x8 * 31) + (17 * (I o5 0))) + 11) - (((x8 * 31) + (17 * (I o5 0))) + 11) / 60013 * 60013)), some (.int x9), some (.int x10), some (.int s112_0), some (.int (((((x8 * 31) + (17 * (I o5 0))) + 11) - (((x8 * 31) + (17 * (I o5 0))) + 11) / 60013 * 60013) / 7)), some (.int s136_0), some (.int s180_0), d15, d16] [] (c + 5) (s + 30) Q))))))))) ∧ (¬ x9 = 0 → (0 < x7 → ∀ s112_0 : Int32, s112_0 = (if (I o5 0) ≤ 10 then 0 else 1 : Int32) → ((x7 ≤ 0 → ∀ s507_2 : Int32, s507_2 = (if (((((((x8 * 31) + (17 * (I o5 0))) + 11) - (((x8 * 31) + (17 * (I o5 0))) + 11) / 60013 * 60013) / 7) / 2) - ((((((x8 * 31) + (17 * (I o5 0))) + 11) - (((x8 * 31) + (17 * (I o5 0))) + 11) / 60013 * 60013) / 7) / 2) / 4 * 4) = 0 then 43 else (if (((((((x8 * 31) + (17 * (I o5 0))) + 11) - (((x8 * 31) + (17 * (I o5 0))) + 11) / 60013 * 60013) / 7) / 2) - ((((((x8 * 31) + (17 * (I o5 0))) + 11) - (((x8 * 31) + (17 * (I o5 0))) + 11) / 60013 * 60013) / 7) / 2) / 4 * 4) = 1 then 45 else (if (((((((x8 * 31) + (17 * (I o5 0))) + 11) - (((x8 * 31) + (17 * (I o5 0))) + 11) / 60013 * 60013) / 7) / 2) - ((((((x8 * 31) + (17 * (I o5 0))) + 11) - (((x8 * 31) + (17 * (I o5 0))) + 11) / 60013 * 60013) / 7) / 2) / 4 * 4) = 2 then 42 else 47 : Int32) : Int32) : Int32) → ((c + 1 ≤ 400 ∧ s + 6 ≤ 2500) ∧ (WP mL_types 0 (am_ent 4 [.ref 0, .ref o5, .int s507_2, .int 0]) [] (G X I L F) 0 0 (am_kq mL_texts 540 [some (.ref 0), some (.ref 498), some (.ref 499), some (.int x3), some (.int x4), some (.ref o5), some (.ref o6), some (.int x7), some (.int ((((x8 * 31) + (17 * (I o5 0))) + 11) - (((x8 * 31) + (17 * (I o5 0))) + 11) / 60013 * 60013)), some (.int x9), some (.int x10), some (.int s112_0), some (.int (((((x8 * 31) + (17 * (I o5 0))) + 11) - (((x8 * 31) + (17 * (I o5 0))) + 11) / 60013 * 60013) / 7)), some (.int (((((((x8 * 31) + (17 * (I o5 0))) + 11) - (((x8 * 31) + (17 * (I o5 0))) + 11) / 60013 * 60013) / 7) / 2) - ((((((x8 * 31) + (17 * (I o5 0))) + 11) - (((x8 * 31) + (17 * (I o5 0))) + 11) / 60013 * 60013) / 7) / 2) / 4 * 4)), d14, d15, d16] [] (c + 1) (s + 6) Q)))) ∧ (¬ x7 ≤ 0 → vp_in (x7 - 1) 8 ∧ (((I o6 (Int32.toNatClampNeg (x7 - 1))) ≤ 1 → (s112_0 = 0 → (((((((x8 * 31) + (17 * (I o5 0))) + 11) - (((x8 * 31) + (17 * (I o5 0))) + 11) / 60013 * 60013) / 7) - (((((x8 * 31) + (17 * (I o5 0))) + 11) - (((x8 * 31) + (17 * (I o5 0))) + 11) / 60013 * 60013) / 7) / 2 * 2) = 0 → ∀ s478_3 : Int32, s478_3 = (if (x7 + (-1)) = 0 then 1 else 0 : Int32) → ((c + 1 ≤ 400 ∧ s + 6 ≤ 2500) ∧ (WP mL_types 0 (am_ent 4 [.ref 0, .ref o5, .int 41, .int s478_3]) [] (G X I L F) 0 0 (am_kq mL_texts 486 [some (.ref 0), some (.ref 498), some (.ref 499), some (.int x3), some (.int x4), some (.ref o5), some (.ref o6), some (.int (x7 + (-1))), some (.int ((((x8 * 31) + (17 * (I o5 0))) + 11) - (((x8 * 31) + (17 * (I o5 0))) + 11) / 60013 * 60013)), some (.int x9), some (.int x10), some (.int s112_0), some (.int (((((x8 * 31) + (17 * (I o5 0))) + 11) - (((x8 * 31) + (17 * (I o5 0))) + 11) / 60013 * 60013) / 7)), d13, d14, d15, d16] [] (c + 1) (s + 6) Q)))) ∧ (¬ ((((((x8 * 31) + (17 * (I o5 0))) + 11) - (((x8 * 31) + (17 * (I o5 0))) + 11) / 60013 * 60013) / 7) - (((((x8 * 31) + (17 * (I o5 0))) + 11) - (((x8 * 31) + (17 * (I o5 0))) + 11) / 60013 * 60013) / 7) / 2 * 2) = 0 → ∀ s507_2 : Int32, s507_2 = (if (((((((x8 * 31) + (17 * (I o5 0))) + 11) - (((x8 * 31) + (17 * (I o5 0))) + 11) / 60013 * 60013) / 7) / 2) - ((((((x8 * 31) + (17 * (I o5 0))) + 11) - (((x8 * 31) + (17 * (I o5 0))) + 11) / 60013 * 60013) / 7) / 2) / 4 * 4) = 0 then 43 else (if (((((((x8 * 31) + (17 * (I o5 0))) + 11) - (((x8 * 31) + (17 * (I o5 0))) + 11) / 60013 * 60013) / 7) / 2) - ((((((x8 * 31) + (17 * (I o5 0))) + 11) - (((x8 * 31) + (17 * (I o5 0))) + 11) / 60013 * 60013) / 7) / 2) / 4 * 4) = 1 then 45 else (if (((((((x8 * 31) + (17 * (I o5 0))) + 11) - (((x8 * 31) + (17 * (I o5 0))) + 11) / 60013 * 60013) / 7) / 2) - ((((((x8 * 31) + (17 * (I o5 0))) + 11) - (((x8 * 31) + (17 * (I o5 0))) + 11) / 60013 * 60013) / 7) / 2) / 4 * 4) = 2 then 42 else 47 : Int32) : Int32) : Int32) → ((c + 1 ≤ 400 ∧ s + 6 ≤ 2500) ∧ (WP mL_types 0 (am_ent 4 [.ref 0, .ref o5, .int s507_2, .int 0]) [] (G X I L F) 0 0 (am_kq mL_texts 540 [some (.ref 0), some (.ref 498), some (.ref 499), some (.int x3), some (.int x4), some (.ref o5), some (.ref o6), some (.int x7), some (.int ((((x8 * 31) + (17 * (I o5 0))) + 11) - (((x8 * 31) + (17 * (I o5 0))) + 11) / 60013 * 60013)), some (.int x9), some (.int x10), some (.int s112_0), some (.int (((((x8 * 31) + (17 * (I o5 0))) + 11) - (((x8 * 31) + (17 * (I o5 0))) + 11) / 60013 * 60013) / 7)), some (.int (((((((x8 * 31) + (17 * (I o5 0))) + 11) - (((x8 * 31) + (17 * (I o5 0))) + 11) / 60013 * 60013) / 7) / 2) - ((((((x8 * 31) + (17 * (I o5 0))) + 11) - (((x8 * 31) + (17 * (I o5 0))) + 11) / 60013 * 60013) / 7) / 2) / 4 * 4)), d14, d15, d16] [] (c + 1) (s + 6) Q))))) ∧ (¬ s112_0 = 0 → ∀ s478_3 : Int32, s478_3 = (if (x7 + (-1)) = 0 then 1 else 0 : Int32) → ((c + 1 ≤ 400 ∧ s + 6 ≤ 2500) ∧ (WP mL_types 0 (am_ent 4 [.ref 0, .ref o5, .int 41, .int s478_3]) [] (G X I L F) 0 0 (am_kq mL_texts 486 [some (.ref 0), some (.ref 498), some (.ref 499), some (.int x3), some (.int x4), some (.ref o5), some (.ref o6), some (.int (x7 + (-1))), some (.int ((((x8 * 31) + (17 * (I o5 0))) + 11) - (((x8 * 31) + (17 * (I o5 0))) + 11) / 60013 * 60013)), some (.int x9), some (.int x10), some (.int s112_0), some (.int (((((x8 * 31) + (17 * (I o5 0))) + 11) - (((x8 * 31) + (17 * (I o5 0))) + 11) / 60013 * 60013) / 7)), d13, d14, d15, d16] [] (c + 1) (s + 6) Q))))) ∧ (¬ (I o6 (Int32.toNatClampNeg (x7 - 1))) ≤ 1 → (c + 1 ≤ 400 ∧ s + 6 ≤ 2500) ∧ (WP mL_types 0 (am_ent 4 [.ref 0, .ref o5, .int 44, .int 0]) [] (G X I L F) 0 0 (am_kq mL_texts 429 [some (.ref 0), some (.ref 498), some (.ref 499), some (.int x3), some (.int x4), some (.ref o5), some (.ref o6), some (.int x7), some (.int ((((x8 * 31) + (17 * (I o5 0))) + 11) - (((x8 * 31) + (17 * (I o5 0))) + 11) / 60013 * 60013)), some (.int x9), some (.int x10), some (.int s112_0), some (.int (((((x8 * 31) + (17 * (I o5 0))) + 11) - (((x8 * 31) + (17 * (I o5 0))) + 11) / 60013 * 60013) / 7)), d13, d14, d15, d16] [] (c + 1) (s + 6) Q))))))) ∧ (¬ 0 < x7 → (12 ≤ (I o5 0) → (c + 100 ≤ 400 ∧ s + 600 ≤ 2500) ∧ (WP mL_publishes 0 (am_ent 11 [.ref 0, .ref 498, .ref 499, .int x3]) [] (G X I L F) 0 0 (am_kq mL_texts 560 [some (.ref 0), some (.ref 498), some (.ref 499), some (.int x3), some (.int x4), some (.ref o5), some (.ref o6), some (.int x7), some (.int x8), some (.int x9), some (.int x10), d11, d12, d13, d14, d15, d16] [] (c + 100) (s + 600) Q))) ∧ (¬ 12 ≤ (I o5 0) → ((x8 - x8 / 5 * 5) ≤ 0 → (c + 100 ≤ 400 ∧ s + 600 ≤ 2500) ∧ (WP mL_publishes 0 (am_ent 11 [.ref 0, .ref 498, .ref 499, .int x3]) [] (G X I L F) 0 0 (am_kq mL_texts 560 [some (.ref 0), some (.ref 498), some (.ref 499), some (.int x3), some (.int x4), some (.ref o5), some (.ref o6), some (.int x7), some (.int x8), some (.int x9), some (.int x10), d11, d12, d13, d14, d15, d16] [] (c + 100) (s + 600) Q))) ∧ (¬ (x8 - x8 / 5 * 5) ≤ 0 → ∀ s112_0 : Int32, s112_0 = (if (I o5 0) ≤ 10 then 0 else 1 : Int32) → ((x7 ≤ 0 → ∀ s507_2 : Int32, s507_2 = (if (((((((x8 * 31) + (17 * (I o5 0))) + 11) - (((x8 * 31) + (17 * (I o5 0))) + 11) / 60013 * 60013) / 7) / 2) - ((((((x8 * 31) + (17 * (I o5 0))) + 11) - (((x8 * 31) + (17 * (I o5 0))) + 11) / 60013 * 60013) / 7) / 2) / 4 * 4) = 0 then 43 else (if (((((((x8 * 31) + (17 * (I o5 0))) + 11) - (((x8 * 31) + (17 * (I o5 0))) + 11) / 60013 * 60013) / 7) / 2) - ((((((x8 * 31) + (17 * (I o5 0))) + 11) - (((x8 * 31) + (17 * (I o5 0))) + 11) / 60013 * 60013) / 7) / 2) / 4 * 4) = 1 then 45 else (if (((((((x8 * 31) + (17 * (I o5 0))) + 11) - (((x8 * 31) + (17 * (I o5 0))) + 11) / 60013 * 60013) / 7) / 2) - ((((((x8 * 31) + (17 * (I o5 0))) + 11) - (((x8 * 31) + (17 * (I o5 0))) + 11) / 60013 * 60013) / 7) / 2) / 4 * 4) = 2 then 42 else 47 : Int32) : Int32) : Int32) → ((c + 1 ≤ 400 ∧ s + 6 ≤ 2500) ∧ (WP mL_types 0 (am_ent 4 [.ref 0, .ref o5, .int s507_2, .int 0]) [] (G X I L F) 0 0 (am_kq mL_texts 540 [some (.ref 0), some (.ref 498), some (.ref 499), some (.int x3), some (.int x4), some (.ref o5), some (.ref o6), some (.int x7), some (.int ((((x8 * 31) + (17 * (I o5 0))) + 11) - (((x8 * 31) + (17 * (I o5 0))) + 11) / 60013 * 60013)), some (.int x9), some (.int x10), some (.int s112_0), some (.int (((((x8 * 31) + (17 * (I o5 0))) + 11) - (((x8 * 31) + (17 * (I o5 0))) + 11) / 60013 * 60013) / 7)), some (.int (((((((x8 * 31) + (17 * (I o5 0))) + 11) - (((x8 * 31) + (17 * (I o5 0))) + 11) / 60013 * 60013) / 7) / 2) - ((((((x8 * 31) + (17 * (I o5 0))) + 11) - (((x8 * 31) + (17 * (I o5 0))) + 11) / 60013 * 60013) / 7) / 2) / 4 * 4)), d14, d15, d16] [] (c + 1) (s + 6) Q)))) ∧ (¬ x7 ≤ 0 → vp_in (x7 - 1) 8 ∧ (((I o6 (Int32.toNatClampNeg (x7 - 1))) ≤ 1 → (s112_0 = 0 → (((((((x8 * 31) + (17 * (I o5 0))) + 11) - (((x8 * 31) + (17 * (I o5 0))) + 11) / 60013 * 60013) / 7) - (((((x8 * 31) + (17 * (I o5 0))) + 11) - (((x8 * 31) + (17 * (I o5 0))) + 11) / 60013 * 60013) / 7) / 2 * 2) = 0 → ∀ s478_3 : Int32, s478_3 = (if (x7 + (-1)) = 0 then 1 else 0 : Int32) → ((c + 1 ≤ 400 ∧ s + 6 ≤ 2500) ∧ (WP mL_types 0 (am_ent 4 [.ref 0, .ref o5, .int 41, .int s478_3]) [] (G X I L F) 0 0 (am_kq mL_texts 486 [some (.ref 0), some (.ref 498), some (.ref 499), some (.int x3), some (.int x4), some (.ref o5), some (.ref o6), some (.int (x7 + (-1))), some (.int ((((x8 * 31) + (17 * (I o5 0))) + 11) - (((x8 * 31) + (17 * (I o5 0))) + 11) / 60013 * 60013)), some (.int x9), some (.int x10), some (.int s112_0), some (.int (((((x8 * 31) + (17 * (I o5 0))) + 11) - (((x8 * 31) + (17 * (I o5 0))) + 11) / 60013 * 60013) / 7)), d13, d14, d15, d16] [] (c + 1) (s + 6) Q)))) ∧ (¬ ((((((x8 * 31) + (17 * (I o5 0))) + 11) - (((x8 * 31) + (17 * (I o5 0))) + 11) / 60013 * 60013) / 7) - (((((x8 * 31) + (17 * (I o5 0))) + 11) - (((x8 * 31) + (17 * (I o5 0))) + 11) / 60013 * 60013) / 7) / 2 * 2) = 0 → ∀ s507_2 : Int32, s507_2 = (if (((((((x8 * 31) + (17 * (I o5 0))) + 11) - (((x8 * 31) + (17 * (I o5 0))) + 11) / 60013 * 60013) / 7) / 2) - ((((((x8 * 31) + (17 * (I o5 0))) + 11) - (((x8 * 31) + (17 * (I o5 0))) + 11) / 60013 * 60013) / 7) / 2) / 4 * 4) = 0 then 43 else (if (((((((x8 * 31) + (17 * (I o5 0))) + 11) - (((x8 * 31) + (17 * (I o5 0))) + 11) / 60013 * 60013) / 7) / 2) - ((((((x8 * 31) + (17 * (I o5 0))) + 11) - (((x8 * 31) + (17 * (I o5 0))) + 11) / 60013 * 60013) / 7) / 2) / 4 * 4) = 1 then 45 else (if (((((((x8 * 31) + (17 * (I o5 0))) + 11) - (((x8 * 31) + (17 * (I o5 0))) + 11) / 60013 * 60013) / 7) / 2) - ((((((x8 * 31) + (17 * (I o5 0))) + 11) - (((x8 * 31) + (17 * (I o5 0))) + 11) / 60013 * 60013) / 7) / 2) / 4 * 4) = 2 then 42 else 47 : Int32) : Int32) : Int32) → ((c + 1 ≤ 400 ∧ s + 6 ≤ 2500) ∧ (WP mL_types 0 (am_ent 4 [.ref 0, .ref o5, .int s507_2, .int 0]) [] (G X I L F) 0 0 (am_kq mL_texts 540 [some (.ref 0), some (.ref 498), some (.ref 499), some (.int x3), some (.int x4), some (.ref o5), some (.ref o6), some (.int x7), some (.int ((((x8 * 31) + (17 * (I o5 0))) + 11) - (((x8 * 31) + (17 * (I o5 0))) + 11) / 60013 * 60013)), some (.int x9), some (.int x10), some (.int s112_0), some (.int (((((x8 * 31) + (17 * (I o5 0))) + 11) - (((x8 * 31) + (17 * (I o5 0))) + 11) / 60013 * 60013) / 7)), some (.int (((((((x8 * 31) + (17 * (I o5 0))) + 11) - (((x8 * 31) + (17 * (I o5 0))) + 11) / 60013 * 60013) / 7) / 2) - ((((((x8 * 31) + (17 * (I o5 0))) + 11) - (((x8 * 31) + (17 * (I o5 0))) + 11) / 60013 * 60013) / 7) / 2) / 4 * 4)), d14, d15, d16] [] (c + 1) (s + 6) Q))))) ∧ (¬ s112_0 = 0 → ∀ s478_3 : Int32, s478_3 = (if (x7 + (-1)) = 0 then 1 else 0 : Int32) → ((c + 1 ≤ 400 ∧ s + 6 ≤ 2500) ∧ (WP mL_types 0 (am_ent 4 [.ref 0, .ref o5, .int 41, .int s478_3]) [] (G X I L F) 0 0 (am_kq mL_texts 486 [some (.ref 0), some (.ref 498), some (.ref 499), some (.int x3), some (.int x4), some (.ref o5), some (.ref o6), some (.int (x7 + (-1))), some (.int ((((x8 * 31) + (17 * (I o5 0))) + 11) - (((x8 * 31) + (17 * (I o5 0))) + 11) / 60013 * 60013)), some (.int x9), some (.int x10), some (.int s112_0), some (.int (((((x8 * 31) + (17 * (I o5 0))) + 11) - (((x8 * 31) + (17 * (I o5 0))) + 11) / 60013 * 60013) / 7)), d13, d14, d15, d16] [] (c + 1) (s + 6) Q))))) ∧ (¬ (I o6 (Int32.toNatClampNeg (x7 - 1))) ≤ 1 → (c + 1 ≤ 400 ∧ s + 6 ≤ 2500) ∧ (WP mL_types 0 (am_ent 4 [.ref 0, .ref o5, .int 44, .int 0]) [] (G X I L F) 0 0 (am_kq mL_texts 429 [some (.ref 0), some (.ref 498), some (.ref 499), some (.int x3), some (.int x4), some (.ref o5), some (.ref o6), some (.int x7), some (.int ((((x8 * 31) + (17 * (I o5 0))) + 11) - (((x8 * 31) + (17 * (I o5 0))) + 11) / 60013 * 60013)), some (.int x9), some (.int x10), some (.int s112_0), some (.int (((((x8 * 31) + (17 * (I o5 0))) + 11) - (((x8 * 31) + (17 * (I o5 0))) + 11) / 60013 * 60013) / 7)), d13, d14, d15, d16] [] (c + 1) (s + 6) Q)))))))))))) : WP mL_texts 54 [some (.ref 0), some (.ref 498), some (.ref 499), some (.int x3), some (.int x4), some (.ref o5), some (.ref o6), some (.int x7), some (.int x8), some (.int x9), some (.int x10), d11, d12, d13, d14, d15, d16] [] (G X I L F) c s Q := by
  refine w_iload rL_texts_54 rfl ?_
  refine w_ifeq rL_texts_56 (fun h56 => ?_) (fun h56 => ?_)
  · replace q := q.1 h56
    refine w_iload rL_texts_551 rfl ?_
    refine w_ifeq rL_texts_553 (fun _ => ?_) (fun h => absurd h56 h)
    refine w_iconst rL_texts_570 (x := 0) (by decide) ?_
    refine w_ireturn rL_texts_571 (Or.inl rfl) ?_
    exact q
  · replace q := q.2 h56
    refine w_iload rL_texts_59 rfl ?_
    refine w_ifeq rL_texts_61 (fun h61 => ?_) (fun h61 => ?_)
    · replace q := q.1 h61
      refine w_iload rL_texts_85 rfl ?_
      refine w_bipush rL_texts_87 (x := 31) (by decide) ?_
      refine w_imul rL_texts_89 ?_
      refine w_bipush rL_texts_90 (x := 17) (by decide) ?_
      refine w_aload rL_texts_92 rfl ?_
      refine w_iconst rL_texts_94 (x := 0) (by decide) ?_
      refine xl_iaload rL_texts_95 (G_att ho5 (by unfold vp_in; decide)) (i := 0) (by decide) ?_
      refine w_imul rL_texts_96 ?_
      refine w_iadd rL_texts_97 ?_
      refine w_bipush rL_texts_98 (x := 11) (by decide) ?_
      refine w_iadd rL_texts_100 ?_
      refine w_ldcI rL_texts_101 (x := 60013) (by decide) ?_
      refine w_irem rL_texts_103 (by decide) ?_
      refine w_istore rL_texts_104 rfl trivial ?_
      refine w_aload rL_texts_106 rfl ?_
      refine w_iconst rL_texts_108 (x := 0) (by decide) ?_
      refine xl_iaload rL_texts_109 (G_att ho5 (by unfold vp_in; decide)) (i := 0) (by decide) ?_
      refine w_bipush rL_texts_110 (x := 10) (by decide) ?_
      have j112 : ∀ s112_0 : Int32, s112_0 = (if (I o5 0) ≤ 10 then 0 else 1 : Int32) → WP mL_texts 120 [some (.ref 0), some (.ref 498), some (.ref 499), some (.int x3), some (.int x4), some (.ref o5), some (.ref o6), some (.int x7), some (.int ((((x8 * 31) + (17 * (I o5 0))) + 11) - (((x8 * 31) + (17 * (I o5 0))) + 11) / 60013 * 60013)), some (.int x9), some (.int x10), d11, d12, d13, d14, d15, d16] [.int s112_0] (G X I L F) c s Q := by
        intro s112_0 es112_0
        replace q := q s112_0 es112_0
        refine w_istore rL_texts_120 rfl trivial ?_
        refine w_iload rL_texts_122 rfl ?_
        refine w_bipush rL_texts_124 (x := 7) (by decide) ?_
        refine w_idiv rL_texts_126 (by decide) ?_
        refine w_istore rL_texts_127 rfl trivial ?_
        refine w_iload rL_texts_129 rfl ?_
        refine w_ifne rL_texts_131 (fun h => absurd h61 h) (fun _ => ?_)
        refine w_iload rL_texts_134 rfl ?_
        have j136 : ∀ s136_0 : Int32, s136_0 = (if s112_0 = 0 then (if x7 = 3 then (if ((((((x8 * 31) + (17 * (I o5 0))) + 11) - (((x8 * 31) + (17 * (I o5 0))) + 11) / 60013 * 60013) / 7) - (((((x8 * 31) + (17 * (I o5 0))) + 11) - (((x8 * 31) + (17 * (I o5 0))) + 11) / 60013 * 60013) / 7) / 9 * 9) ≤ 4 then ((((((x8 * 31) + (17 * (I o5 0))) + 11) - (((x8 * 31) + (17 * (I o5 0))) + 11) / 60013 * 60013) / 7) - (((((x8 * 31) + (17 * (I o5 0))) + 11) - (((x8 * 31) + (17 * (I o5 0))) + 11) / 60013 * 60013) / 7) / 9 * 9) else (if 8 ≤ ((((((x8 * 31) + (17 * (I o5 0))) + 11) - (((x8 * 31) + (17 * (I o5 0))) + 11) / 60013 * 60013) / 7) - (((((x8 * 31) + (17 * (I o5 0))) + 11) - (((x8 * 31) + (17 * (I o5 0))) + 11) / 60013 * 60013) / 7) / 9 * 9) then ((((((x8 * 31) + (17 * (I o5 0))) + 11) - (((x8 * 31) + (17 * (I o5 0))) + 11) / 60013 * 60013) / 7) - (((((x8 * 31) + (17 * (I o5 0))) + 11) - (((x8 * 31) + (17 * (I o5 0))) + 11) / 60013 * 60013) / 7) / 9 * 9) else ((((((x8 * 31) + (17 * (I o5 0))) + 11) - (((x8 * 31) + (17 * (I o5 0))) + 11) / 60013 * 60013) / 7) - (((((x8 * 31) + (17 * (I o5 0))) + 11) - (((x8 * 31) + (17 * (I o5 0))) + 11) / 60013 * 60013) / 7) / 3 * 3) : Int32) : Int32) else ((((((x8 * 31) + (17 * (I o5 0))) + 11) - (((x8 * 31) + (17 * (I o5 0))) + 11) / 60013 * 60013) / 7) - (((((x8 * 31) + (17 * (I o5 0))) + 11) - (((x8 * 31) + (17 * (I o5 0))) + 11) / 60013 * 60013) / 7) / 9 * 9) : Int32) else ((((((x8 * 31) + (17 * (I o5 0))) + 11) - (((x8 * 31) + (17 * (I o5 0))) + 11) / 60013 * 60013) / 7) - (((((x8 * 31) + (17 * (I o5 0))) + 11) - (((x8 * 31) + (17 * (I o5 0))) + 11) / 60013 * 60013) / 7) / 3 * 3) : Int32) → WP mL_texts 176 [some (.ref 0), some (.ref 498), some (.ref 499), some (.int x3), some (.int x4), some (.ref o5), some (.ref o6), some (.int x7), some (.int ((((x8 * 31) + (17 * (I o5 0))) + 11) - (((x8 * 31) + (17 * (I o5 0))) + 11) / 60013 * 60013)), some (.int x9), some (.int x10), some (.int s112_0), some (.int (((((x8 * 31) + (17 * (I o5 0))) + 11) - (((x8 * 31) + (17 * (I o5 0))) + 11) / 60013 * 60013) / 7)), d13, d14, d15, d16] [.int s136_0] (G X I L F) c s Q := by
          intro s136_0 es136_0
          replace q := q s136_0 es136_0
          refine w_istore rL_texts_176 rfl trivial ?_
          refine w_iload rL_texts_178 rfl ?_
          have j180 : ∀ s180_0 : Int32, s180_0 = (if x7 = 0 then 1 else 0 : Int32) → WP mL_texts 188 [some (.ref 0), some (.ref 498), some (.ref 499), some (.int x3), some (.int x4), some (.ref o5), some (.ref o6), some (.int x7), some (.int ((((x8 * 31) + (17 * (I o5 0))) + 11) - (((x8 * 31) + (17 * (I o5 0))) + 11) / 60013 * 60013)), some (.int x9), some (.int x10), some (.int s112_0), some (.int (((((x8 * 31) + (17 * (I o5 0))) + 11) - (((x8 * 31) + (17 * (I o5 0))) + 11) / 60013 * 60013) / 7)), some (.int s136_0), d14, d15, d16] [.int s180_0] (G X I L F) c s Q := by
            intro s180_0 es180_0
            replace q := q s180_0 es180_0
            refine w_istore rL_texts_188 rfl trivial ?_
            refine w_iload rL_texts_190 rfl ?_
            refine w_iconst rL_texts_192 (x := 5) (by decide) ?_
            refine w_icmpeq rL_texts_193 (fun h193 => ?_) (fun h193 => ?_)
            · replace q := q.1 h193
              refine w_iload rL_texts_210 rfl ?_
              refine w_bipush rL_texts_212 (x := 9) (by decide) ?_
              refine w_idiv rL_texts_214 (by decide) ?_
              refine w_iconst rL_texts_215 (x := 5) (by decide) ?_
              refine w_irem rL_texts_216 (by decide) ?_
              refine w_istore rL_texts_217 rfl trivial ?_
              refine w_iload rL_texts_219 rfl ?_
              refine w_bipush rL_texts_221 (x := 7) (by decide) ?_
              have j223 : ∀ s223_0 : Int32, s223_0 = (if s136_0 = 7 then 45 else 40 : Int32) → WP mL_texts 287 [some (.ref 0), some (.ref 498), some (.ref 499), some (.int x3), some (.int x4), some (.ref o5), some (.ref o6), some (.int x7), some (.int ((((x8 * 31) + (17 * (I o5 0))) + 11) - (((x8 * 31) + (17 * (I o5 0))) + 11) / 60013 * 60013)), some (.int x9), some (.int x10), some (.int s112_0), some (.int (((((x8 * 31) + (17 * (I o5 0))) + 11) - (((x8 * 31) + (17 * (I o5 0))) + 11) / 60013 * 60013) / 7)), some (.int s136_0), some (.int s180_0), some (.int (((((((x8 * 31) + (17 * (I o5 0))) + 11) - (((x8 * 31) + (17 * (I o5 0))) + 11) / 60013 * 60013) / 7) / 9) - ((((((x8 * 31) + (17 * (I o5 0))) + 11) - (((x8 * 31) + (17 * (I o5 0))) + 11) / 60013 * 60013) / 7) / 9) / 5 * 5)), d16] [.int s223_0] (G X I L F) c s Q := by
                intro s223_0 es223_0
                replace q := q s223_0 es223_0
                refine w_istore rL_texts_287 rfl trivial ?_
                refine w_aload_n rL_texts_289 rfl ?_
                refine w_aload rL_texts_290 rfl ?_
                refine w_iload rL_texts_292 rfl ?_
                refine w_iconst rL_texts_294 (x := 0) (by decide) ?_
                refine w_invokestatic rL_texts_295 rfl rfl rfl (Nat.le_of_ble_eq_true rfl) ⟨trivial, trivial, trivial, trivial, trivial⟩ trivial q.1.1 q.1.2 ?_
                replace q := q.2
                exact q
              refine w_icmpne rL_texts_223 (fun h223 => ?_) (fun h223 => ?_)
              · skip
                refine w_iload rL_texts_231 rfl ?_
                refine w_iconst rL_texts_233 (x := 5) (by decide) ?_
                refine w_icmpne rL_texts_234 (fun h => absurd h193 h) (fun _ => ?_)
                refine w_bipush rL_texts_237 (x := 40) (by decide) ?_
                refine w_goto rL_texts_239 ?_
                exact j223 _ (if_neg h223).symm
              · skip
                refine w_bipush rL_texts_226 (x := 45) (by decide) ?_
                refine w_goto rL_texts_228 ?_
                exact j223 _ (if_pos h223).symm
            · replace q := q.2 h193
              refine w_iload rL_texts_196 rfl ?_
              refine w_bipush rL_texts_198 (x := 6) (by decide) ?_
              refine w_icmpeq rL_texts_200 (fun h200 => ?_) (fun h200 => ?_)
              · replace q := q.1 h200
                refine w_iload rL_texts_210 rfl ?_
                refine w_bipush rL_texts_212 (x := 9) (by decide) ?_
                refine w_idiv rL_texts_214 (by decide) ?_
                refine w_iconst rL_texts_215 (x := 5) (by decide) ?_
                refine w_irem rL_texts_216 (by decide) ?_
                refine w_istore rL_texts_217 rfl trivial ?_
                refine w_iload rL_texts_219 rfl ?_
                refine w_bipush rL_texts_221 (x := 7) (by decide) ?_
                have j223 : ∀ s223_0 : Int32, s223_0 = (if s136_0 = 7 then 45 else (if (((((((x8 * 31) + (17 * (I o5 0))) + 11) - (((x8 * 31) + (17 * (I o5 0))) + 11) / 60013 * 60013) / 7) / 9) - ((((((x8 * 31) + (17 * (I o5 0))) + 11) - (((x8 * 31) + (17 * (I o5 0))) + 11) / 60013 * 60013) / 7) / 9) / 5 * 5) = 0 then 120 else (if (((((((x8 * 31) + (17 * (I o5 0))) + 11) - (((x8 * 31) + (17 * (I o5 0))) + 11) / 60013 * 60013) / 7) / 9) - ((((((x8 * 31) + (17 * (I o5 0))) + 11) - (((x8 * 31) + (17 * (I o5 0))) + 11) / 60013 * 60013) / 7) / 9) / 5 * 5) = 1 then 110 else (if (((((((x8 * 31) + (17 * (I o5 0))) + 11) - (((x8 * 31) + (17 * (I o5 0))) + 11) / 60013 * 60013) / 7) / 9) - ((((((x8 * 31) + (17 * (I o5 0))) + 11) - (((x8 * 31) + (17 * (I o5 0))) + 11) / 60013 * 60013) / 7) / 9) / 5 * 5) = 2 then 105 else (if (((((((x8 * 31) + (17 * (I o5 0))) + 11) - (((x8 * 31) + (17 * (I o5 0))) + 11) / 60013 * 60013) / 7) / 9) - ((((((x8 * 31) + (17 * (I o5 0))) + 11) - (((x8 * 31) + (17 * (I o5 0))) + 11) / 60013 * 60013) / 7) / 9) / 5 * 5) = 3 then 116 else 97 : Int32) : Int32) : Int32) : Int32) : Int32) → WP mL_texts 287 [some (.ref 0), some (.ref 498), some (.ref 499), some (.int x3), some (.int x4), some (.ref o5), some (.ref o6), some (.int x7), some (.int ((((x8 * 31) + (17 * (I o5 0))) + 11) - (((x8 * 31) + (17 * (I o5 0))) + 11) / 60013 * 60013)), some (.int x9), some (.int x10), some (.int s112_0), some (.int (((((x8 * 31) + (17 * (I o5 0))) + 11) - (((x8 * 31) + (17 * (I o5 0))) + 11) / 60013 * 60013) / 7)), some (.int s136_0), some (.int s180_0), some (.int (((((((x8 * 31) + (17 * (I o5 0))) + 11) - (((x8 * 31) + (17 * (I o5 0))) + 11) / 60013 * 60013) / 7) / 9) - ((((((x8 * 31) + (17 * (I o5 0))) + 11) - (((x8 * 31) + (17 * (I o5 0))) + 11) / 60013 * 60013) / 7) / 9) / 5 * 5)), d16] [.int s223_0] (G X I L F) c s Q := by
                  intro s223_0 es223_0
                  replace q := q s223_0 es223_0
                  refine w_istore rL_texts_287 rfl trivial ?_
                  refine w_aload_n rL_texts_289 rfl ?_
                  refine w_aload rL_texts_290 rfl ?_
                  refine w_iload rL_texts_292 rfl ?_
                  refine w_iconst rL_texts_294 (x := 0) (by decide) ?_
                  refine w_invokestatic rL_texts_295 rfl rfl rfl (Nat.le_of_ble_eq_true rfl) ⟨trivial, trivial, trivial, trivial, trivial⟩ trivial q.1.1 q.1.2 ?_
                  replace q := q.2
                  exact q
                refine w_icmpne rL_texts_223 (fun h223 => ?_) (fun h223 => ?_)
                · skip
                  refine w_iload rL_texts_231 rfl ?_
                  refine w_iconst rL_texts_233 (x := 5) (by decide) ?_
                  refine w_icmpne rL_texts_234 (fun _ => ?_) (fun h => absurd h h193)
                  refine w_iload rL_texts_242 rfl ?_
                  refine w_ifne rL_texts_244 (fun h244 => ?_) (fun h244 => ?_)
                  · skip
                    refine w_iload rL_texts_252 rfl ?_
                    refine w_iconst rL_texts_254 (x := 1) (by decide) ?_
                    refine w_icmpne rL_texts_255 (fun h255 => ?_) (fun h255 => ?_)
                    · skip
                      refine w_iload rL_texts_263 rfl ?_
                      refine w_iconst rL_texts_265 (x := 2) (by decide) ?_
                      refine w_icmpne rL_texts_266 (fun h266 => ?_) (fun h266 => ?_)
                      · skip
                        refine w_iload rL_texts_274 rfl ?_
                        refine w_iconst rL_texts_276 (x := 3) (by decide) ?_
                        refine w_icmpne rL_texts_277 (fun h277 => ?_) (fun h277 => ?_)
                        · skip
                          refine w_bipush rL_texts_285 (x := 97) (by decide) ?_
                          exact j223 _ (((((if_neg h223).trans (if_neg h244)).trans (if_neg h255)).trans (if_neg h266)).trans (if_neg h277)).symm
                        · skip
                          refine w_bipush rL_texts_280 (x := 116) (by decide) ?_
                          refine w_goto rL_texts_282 ?_
                          exact j223 _ (((((if_neg h223).trans (if_neg h244)).trans (if_neg h255)).trans (if_neg h266)).trans (if_pos h277)).symm
                      · skip
                        refine w_bipush rL_texts_269 (x := 105) (by decide) ?_
                        refine w_goto rL_texts_271 ?_
                        exact j223 _ ((((if_neg h223).trans (if_neg h244)).trans (if_neg h255)).trans (if_pos h266)).symm
                    · skip
                      refine w_bipush rL_texts_258 (x := 110) (by decide) ?_
                      refine w_goto rL_texts_260 ?_
                      exact j223 _ (((if_neg h223).trans (if_neg h244)).trans (if_pos h255)).symm
                  · skip
                    refine w_bipush rL_texts_247 (x := 120) (by decide) ?_
                    refine w_goto rL_texts_249 ?_
                    exact j223 _ ((if_neg h223).trans (if_pos h244)).symm
                · skip
                  refine w_bipush rL_texts_226 (x := 45) (by decide) ?_
                  refine w_goto rL_texts_228 ?_
                  exact j223 _ (if_pos h223).symm
              · replace q := q.2 h200
                refine w_iload rL_texts_203 rfl ?_
                refine w_bipush rL_texts_205 (x := 7) (by decide) ?_
                refine w_icmpne rL_texts_207 (fun h207 => ?_) (fun h207 => ?_)
                · replace q := q.2 h207
                  refine w_aload_n rL_texts_382 rfl ?_
                  refine w_aload rL_texts_383 rfl ?_
                  refine w_aload_n rL_texts_385 rfl ?_
                  refine w_iload_n rL_texts_386 rfl ?_
                  refine w_iload rL_texts_387 rfl ?_
                  refine w_iload rL_texts_389 rfl ?_
                  refine w_bipush rL_texts_391 (x := 9) (by decide) ?_
                  refine w_idiv rL_texts_393 (by decide) ?_
                  refine w_iload rL_texts_394 rfl ?_
                  refine w_invokestatic rL_texts_396 rfl rfl rfl (Nat.le_of_ble_eq_true rfl) ⟨trivial, trivial, trivial, trivial, trivial, trivial, trivial, trivial⟩ trivial q.1.1 q.1.2 ?_
                  replace q := q.2
                  exact q
                · replace q := q.1 h207
                  refine w_iload rL_texts_210 rfl ?_
                  refine w_bipush rL_texts_212 (x := 9) (by decide) ?_
                  refine w_idiv rL_texts_214 (by decide) ?_
                  refine w_iconst rL_texts_215 (x := 5) (by decide) ?_
                  refine w_irem rL_texts_216 (by decide) ?_
                  refine w_istore rL_texts_217 rfl trivial ?_
                  refine w_iload rL_texts_219 rfl ?_
                  refine w_bipush rL_texts_221 (x := 7) (by decide) ?_
                  refine w_icmpne rL_texts_223 (fun h => absurd h207 h) (fun _ => ?_)
                  refine w_bipush rL_texts_226 (x := 45) (by decide) ?_
                  refine w_goto rL_texts_228 ?_
                  refine w_istore rL_texts_287 rfl trivial ?_
                  refine w_aload_n rL_texts_289 rfl ?_
                  refine w_aload rL_texts_290 rfl ?_
                  refine w_iload rL_texts_292 rfl ?_
                  refine w_iconst rL_texts_294 (x := 0) (by decide) ?_
                  refine w_invokestatic rL_texts_295 rfl rfl rfl (Nat.le_of_ble_eq_true rfl) ⟨trivial, trivial, trivial, trivial, trivial⟩ trivial q.1.1 q.1.2 ?_
                  replace q := q.2
                  exact q
          refine w_ifne rL_texts_180 (fun h180 => ?_) (fun h180 => ?_)
          · skip
            refine w_iconst rL_texts_187 (x := 0) (by decide) ?_
            exact j180 _ (if_neg h180).symm
          · skip
            refine w_iconst rL_texts_183 (x := 1) (by decide) ?_
            refine w_goto rL_texts_184 ?_
            exact j180 _ (if_pos h180).symm
        refine w_ifne rL_texts_136 (fun h136 => ?_) (fun h136 => ?_)
        · skip
          refine w_iload rL_texts_164 rfl ?_
          refine w_iconst rL_texts_166 (x := 3) (by decide) ?_
          refine w_irem rL_texts_167 (by decide) ?_
          refine w_goto rL_texts_168 ?_
          exact j136 _ (if_neg h136).symm
        · skip
          refine w_iload rL_texts_139 rfl ?_
          refine w_iconst rL_texts_141 (x := 3) (by decide) ?_
          refine w_icmpne rL_texts_142 (fun h142 => ?_) (fun h142 => ?_)
          · skip
            refine w_iload rL_texts_171 rfl ?_
            refine w_bipush rL_texts_173 (x := 9) (by decide) ?_
            refine w_irem rL_texts_175 (by decide) ?_
            exact j136 _ ((if_pos h136).trans (if_neg h142)).symm
          · skip
            refine w_iload rL_texts_145 rfl ?_
            refine w_bipush rL_texts_147 (x := 9) (by decide) ?_
            refine w_irem rL_texts_149 (by decide) ?_
            refine w_iconst rL_texts_150 (x := 4) (by decide) ?_
            refine w_icmple rL_texts_151 (fun h151 => ?_) (fun h151 => ?_)
            · skip
              refine w_iload rL_texts_171 rfl ?_
              refine w_bipush rL_texts_173 (x := 9) (by decide) ?_
              refine w_irem rL_texts_175 (by decide) ?_
              exact j136 _ (((if_pos h136).trans (if_pos h142)).trans (if_pos h151)).symm
            · skip
              refine w_iload rL_texts_154 rfl ?_
              refine w_bipush rL_texts_156 (x := 9) (by decide) ?_
              refine w_irem rL_texts_158 (by decide) ?_
              refine w_bipush rL_texts_159 (x := 8) (by decide) ?_
              refine w_icmpge rL_texts_161 (fun h161 => ?_) (fun h161 => ?_)
              · skip
                refine w_iload rL_texts_171 rfl ?_
                refine w_bipush rL_texts_173 (x := 9) (by decide) ?_
                refine w_irem rL_texts_175 (by decide) ?_
                exact j136 _ ((((if_pos h136).trans (if_pos h142)).trans (if_neg h151)).trans (if_pos h161)).symm
              · skip
                refine w_iload rL_texts_164 rfl ?_
                refine w_iconst rL_texts_166 (x := 3) (by decide) ?_
                refine w_irem rL_texts_167 (by decide) ?_
                refine w_goto rL_texts_168 ?_
                exact j136 _ ((((if_pos h136).trans (if_pos h142)).trans (if_neg h151)).trans (if_neg h161)).symm
      refine w_icmple rL_texts_112 (fun h112 => ?_) (fun h112 => ?_)
      · skip
        refine w_iconst rL_texts_119 (x := 0) (by decide) ?_
        exact j112 _ (if_pos h112).symm
      · skip
        refine w_iconst rL_texts_115 (x := 1) (by decide) ?_
        refine w_goto rL_texts_116 ?_
        exact j112 _ (if_neg h112).symm
    · replace q := q.2 h61
      refine w_iload rL_texts_64 rfl ?_
      refine w_ifgt rL_texts_66 (fun h66 => ?_) (fun h66 => ?_)
      · replace q := q.1 h66
        refine w_iload rL_texts_85 rfl ?_
        refine w_bipush rL_texts_87 (x := 31) (by decide) ?_
        refine w_imul rL_texts_89 ?_
        refine w_bipush rL_texts_90 (x := 17) (by decide) ?_
        refine w_aload rL_texts_92 rfl ?_
        refine w_iconst rL_texts_94 (x := 0) (by decide) ?_
        refine xl_iaload rL_texts_95 (G_att ho5 (by unfold vp_in; decide)) (i := 0) (by decide) ?_
        refine w_imul rL_texts_96 ?_
        refine w_iadd rL_texts_97 ?_
        refine w_bipush rL_texts_98 (x := 11) (by decide) ?_
        refine w_iadd rL_texts_100 ?_
        refine w_ldcI rL_texts_101 (x := 60013) (by decide) ?_
        refine w_irem rL_texts_103 (by decide) ?_
        refine w_istore rL_texts_104 rfl trivial ?_
        refine w_aload rL_texts_106 rfl ?_
        refine w_iconst rL_texts_108 (x := 0) (by decide) ?_
        refine xl_iaload rL_texts_109 (G_att ho5 (by unfold vp_in; decide)) (i := 0) (by decide) ?_
        refine w_bipush rL_texts_110 (x := 10) (by decide) ?_
        have j112 : ∀ s112_0 : Int32, s112_0 = (if (I o5 0) ≤ 10 then 0 else 1 : Int32) → WP mL_texts 120 [some (.ref 0), some (.ref 498), some (.ref 499), some (.int x3), some (.int x4), some (.ref o5), some (.ref o6), some (.int x7), some (.int ((((x8 * 31) + (17 * (I o5 0))) + 11) - (((x8 * 31) + (17 * (I o5 0))) + 11) / 60013 * 60013)), some (.int x9), some (.int x10), d11, d12, d13, d14, d15, d16] [.int s112_0] (G X I L F) c s Q := by
          intro s112_0 es112_0
          replace q := q s112_0 es112_0
          refine w_istore rL_texts_120 rfl trivial ?_
          refine w_iload rL_texts_122 rfl ?_
          refine w_bipush rL_texts_124 (x := 7) (by decide) ?_
          refine w_idiv rL_texts_126 (by decide) ?_
          refine w_istore rL_texts_127 rfl trivial ?_
          refine w_iload rL_texts_129 rfl ?_
          refine w_ifne rL_texts_131 (fun _ => ?_) (fun h => absurd h h61)
          refine w_iload rL_texts_407 rfl ?_
          refine w_ifle rL_texts_409 (fun h409 => ?_) (fun h409 => ?_)
          · replace q := q.1 h409
            refine w_iload rL_texts_451 rfl ?_
            refine w_ifle rL_texts_453 (fun _ => ?_) (fun h => absurd h409 h)
            refine w_iload rL_texts_494 rfl ?_
            refine w_iconst rL_texts_496 (x := 2) (by decide) ?_
            refine w_idiv rL_texts_497 (by decide) ?_
            refine w_iconst rL_texts_498 (x := 4) (by decide) ?_
            refine w_irem rL_texts_499 (by decide) ?_
            refine w_istore rL_texts_500 rfl trivial ?_
            refine w_aload_n rL_texts_502 rfl ?_
            refine w_aload rL_texts_503 rfl ?_
            refine w_iload rL_texts_505 rfl ?_
            have j507 : ∀ s507_2 : Int32, s507_2 = (if (((((((x8 * 31) + (17 * (I o5 0))) + 11) - (((x8 * 31) + (17 * (I o5 0))) + 11) / 60013 * 60013) / 7) / 2) - ((((((x8 * 31) + (17 * (I o5 0))) + 11) - (((x8 * 31) + (17 * (I o5 0))) + 11) / 60013 * 60013) / 7) / 2) / 4 * 4) = 0 then 43 else (if (((((((x8 * 31) + (17 * (I o5 0))) + 11) - (((x8 * 31) + (17 * (I o5 0))) + 11) / 60013 * 60013) / 7) / 2) - ((((((x8 * 31) + (17 * (I o5 0))) + 11) - (((x8 * 31) + (17 * (I o5 0))) + 11) / 60013 * 60013) / 7) / 2) / 4 * 4) = 1 then 45 else (if (((((((x8 * 31) + (17 * (I o5 0))) + 11) - (((x8 * 31) + (17 * (I o5 0))) + 11) / 60013 * 60013) / 7) / 2) - ((((((x8 * 31) + (17 * (I o5 0))) + 11) - (((x8 * 31) + (17 * (I o5 0))) + 11) / 60013 * 60013) / 7) / 2) / 4 * 4) = 2 then 42 else 47 : Int32) : Int32) : Int32) → WP mL_texts 539 [some (.ref 0), some (.ref 498), some (.ref 499), some (.int x3), some (.int x4), some (.ref o5), some (.ref o6), some (.int x7), some (.int ((((x8 * 31) + (17 * (I o5 0))) + 11) - (((x8 * 31) + (17 * (I o5 0))) + 11) / 60013 * 60013)), some (.int x9), some (.int x10), some (.int s112_0), some (.int (((((x8 * 31) + (17 * (I o5 0))) + 11) - (((x8 * 31) + (17 * (I o5 0))) + 11) / 60013 * 60013) / 7)), some (.int (((((((x8 * 31) + (17 * (I o5 0))) + 11) - (((x8 * 31) + (17 * (I o5 0))) + 11) / 60013 * 60013) / 7) / 2) - ((((((x8 * 31) + (17 * (I o5 0))) + 11) - (((x8 * 31) + (17 * (I o5 0))) + 11) / 60013 * 60013) / 7) / 2) / 4 * 4)), d14, d15, d16] [.int s507_2, .ref o5, .ref 0] (G X I L F) c s Q := by
              intro s507_2 es507_2
              replace q := q s507_2 es507_2
              refine w_iconst rL_texts_539 (x := 0) (by decide) ?_
              refine w_invokestatic rL_texts_540 rfl rfl rfl (Nat.le_of_ble_eq_true rfl) ⟨trivial, trivial, trivial, trivial, trivial⟩ trivial q.1.1 q.1.2 ?_
              replace q := q.2
              exact q
            refine w_ifne rL_texts_507 (fun h507 => ?_) (fun h507 => ?_)
            · skip
              refine w_iload rL_texts_515 rfl ?_
              refine w_iconst rL_texts_517 (x := 1) (by decide) ?_
              refine w_icmpne rL_texts_518 (fun h518 => ?_) (fun h518 => ?_)
              · skip
                refine w_iload rL_texts_526 rfl ?_
                refine w_iconst rL_texts_528 (x := 2) (by decide) ?_
                refine w_icmpne rL_texts_529 (fun h529 => ?_) (fun h529 => ?_)
                · skip
                  refine w_bipush rL_texts_537 (x := 47) (by decide) ?_
                  exact j507 _ (((if_neg h507).trans (if_neg h518)).trans (if_neg h529)).symm
                · skip
                  refine w_bipush rL_texts_532 (x := 42) (by decide) ?_
                  refine w_goto rL_texts_534 ?_
                  exact j507 _ (((if_neg h507).trans (if_neg h518)).trans (if_pos h529)).symm
              · skip
                refine w_bipush rL_texts_521 (x := 45) (by decide) ?_
                refine w_goto rL_texts_523 ?_
                exact j507 _ ((if_neg h507).trans (if_pos h518)).symm
            · skip
              refine w_bipush rL_texts_510 (x := 43) (by decide) ?_
              refine w_goto rL_texts_512 ?_
              exact j507 _ (if_pos h507).symm
          · replace q := q.2 h409
            refine w_aload rL_texts_412 rfl ?_
            refine w_iload rL_texts_414 rfl ?_
            refine w_iconst rL_texts_416 (x := 1) (by decide) ?_
            refine w_isub rL_texts_417 ?_
            have h418 := q.1
            replace q := q.2
            refine x_iaload rL_texts_418 (G_att ho6 h418) ?_
            refine w_iconst rL_texts_419 (x := 1) (by decide) ?_
            refine w_icmple rL_texts_420 (fun h420 => ?_) (fun h420 => ?_)
            · replace q := q.1 h420
              refine w_iload rL_texts_451 rfl ?_
              refine w_ifle rL_texts_453 (fun h => absurd h h409) (fun _ => ?_)
              refine w_iload rL_texts_456 rfl ?_
              refine w_ifne rL_texts_458 (fun h458 => ?_) (fun h458 => ?_)
              · replace q := q.2 h458
                refine w_iinc rL_texts_468 rfl rfl trivial ?_
                refine w_aload_n rL_texts_471 rfl ?_
                refine w_aload rL_texts_472 rfl ?_
                refine w_bipush rL_texts_474 (x := 41) (by decide) ?_
                refine w_iload rL_texts_476 rfl ?_
                have j478 : ∀ s478_3 : Int32, s478_3 = (if (x7 + (-1)) = 0 then 1 else 0 : Int32) → WP mL_texts 486 [some (.ref 0), some (.ref 498), some (.ref 499), some (.int x3), some (.int x4), some (.ref o5), some (.ref o6), some (.int (x7 + (-1))), some (.int ((((x8 * 31) + (17 * (I o5 0))) + 11) - (((x8 * 31) + (17 * (I o5 0))) + 11) / 60013 * 60013)), some (.int x9), some (.int x10), some (.int s112_0), some (.int (((((x8 * 31) + (17 * (I o5 0))) + 11) - (((x8 * 31) + (17 * (I o5 0))) + 11) / 60013 * 60013) / 7)), d13, d14, d15, d16] [.int s478_3, .int 41, .ref o5, .ref 0] (G X I L F) c s Q := by
                  intro s478_3 es478_3
                  replace q := q s478_3 es478_3
                  refine w_invokestatic rL_texts_486 rfl rfl rfl (Nat.le_of_ble_eq_true rfl) ⟨trivial, trivial, trivial, trivial, trivial⟩ trivial q.1.1 q.1.2 ?_
                  replace q := q.2
                  exact q
                refine w_ifne rL_texts_478 (fun h478 => ?_) (fun h478 => ?_)
                · skip
                  refine w_iconst rL_texts_485 (x := 0) (by decide) ?_
                  exact j478 _ (if_neg h478).symm
                · skip
                  refine w_iconst rL_texts_481 (x := 1) (by decide) ?_
                  refine w_goto rL_texts_482 ?_
                  exact j478 _ (if_pos h478).symm
              · replace q := q.1 h458
                refine w_iload rL_texts_461 rfl ?_
                refine w_iconst rL_texts_463 (x := 2) (by decide) ?_
                refine w_irem rL_texts_464 (by decide) ?_
                refine w_ifne rL_texts_465 (fun h465 => ?_) (fun h465 => ?_)
                · replace q := q.2 h465
                  refine w_iload rL_texts_494 rfl ?_
                  refine w_iconst rL_texts_496 (x := 2) (by decide) ?_
                  refine w_idiv rL_texts_497 (by decide) ?_
                  refine w_iconst rL_texts_498 (x := 4) (by decide) ?_
                  refine w_irem rL_texts_499 (by decide) ?_
                  refine w_istore rL_texts_500 rfl trivial ?_
                  refine w_aload_n rL_texts_502 rfl ?_
                  refine w_aload rL_texts_503 rfl ?_
                  refine w_iload rL_texts_505 rfl ?_
                  have j507 : ∀ s507_2 : Int32, s507_2 = (if (((((((x8 * 31) + (17 * (I o5 0))) + 11) - (((x8 * 31) + (17 * (I o5 0))) + 11) / 60013 * 60013) / 7) / 2) - ((((((x8 * 31) + (17 * (I o5 0))) + 11) - (((x8 * 31) + (17 * (I o5 0))) + 11) / 60013 * 60013) / 7) / 2) / 4 * 4) = 0 then 43 else (if (((((((x8 * 31) + (17 * (I o5 0))) + 11) - (((x8 * 31) + (17 * (I o5 0))) + 11) / 60013 * 60013) / 7) / 2) - ((((((x8 * 31) + (17 * (I o5 0))) + 11) - (((x8 * 31) + (17 * (I o5 0))) + 11) / 60013 * 60013) / 7) / 2) / 4 * 4) = 1 then 45 else (if (((((((x8 * 31) + (17 * (I o5 0))) + 11) - (((x8 * 31) + (17 * (I o5 0))) + 11) / 60013 * 60013) / 7) / 2) - ((((((x8 * 31) + (17 * (I o5 0))) + 11) - (((x8 * 31) + (17 * (I o5 0))) + 11) / 60013 * 60013) / 7) / 2) / 4 * 4) = 2 then 42 else 47 : Int32) : Int32) : Int32) → WP mL_texts 539 [some (.ref 0), some (.ref 498), some (.ref 499), some (.int x3), some (.int x4), some (.ref o5), some (.ref o6), some (.int x7), some (.int ((((x8 * 31) + (17 * (I o5 0))) + 11) - (((x8 * 31) + (17 * (I o5 0))) + 11) / 60013 * 60013)), some (.int x9), some (.int x10), some (.int s112_0), some (.int (((((x8 * 31) + (17 * (I o5 0))) + 11) - (((x8 * 31) + (17 * (I o5 0))) + 11) / 60013 * 60013) / 7)), some (.int (((((((x8 * 31) + (17 * (I o5 0))) + 11) - (((x8 * 31) + (17 * (I o5 0))) + 11) / 60013 * 60013) / 7) / 2) - ((((((x8 * 31) + (17 * (I o5 0))) + 11) - (((x8 * 31) + (17 * (I o5 0))) + 11) / 60013 * 60013) / 7) / 2) / 4 * 4)), d14, d15, d16] [.int s507_2, .ref o5, .ref 0] (G X I L F) c s Q := by
                    intro s507_2 es507_2
                    replace q := q s507_2 es507_2
                    refine w_iconst rL_texts_539 (x := 0) (by decide) ?_
                    refine w_invokestatic rL_texts_540 rfl rfl rfl (Nat.le_of_ble_eq_true rfl) ⟨trivial, trivial, trivial, trivial, trivial⟩ trivial q.1.1 q.1.2 ?_
                    replace q := q.2
                    exact q
                  refine w_ifne rL_texts_507 (fun h507 => ?_) (fun h507 => ?_)
                  · skip
                    refine w_iload rL_texts_515 rfl ?_
                    refine w_iconst rL_texts_517 (x := 1) (by decide) ?_
                    refine w_icmpne rL_texts_518 (fun h518 => ?_) (fun h518 => ?_)
                    · skip
                      refine w_iload rL_texts_526 rfl ?_
                      refine w_iconst rL_texts_528 (x := 2) (by decide) ?_
                      refine w_icmpne rL_texts_529 (fun h529 => ?_) (fun h529 => ?_)
                      · skip
                        refine w_bipush rL_texts_537 (x := 47) (by decide) ?_
                        exact j507 _ (((if_neg h507).trans (if_neg h518)).trans (if_neg h529)).symm
                      · skip
                        refine w_bipush rL_texts_532 (x := 42) (by decide) ?_
                        refine w_goto rL_texts_534 ?_
                        exact j507 _ (((if_neg h507).trans (if_neg h518)).trans (if_pos h529)).symm
                    · skip
                      refine w_bipush rL_texts_521 (x := 45) (by decide) ?_
                      refine w_goto rL_texts_523 ?_
                      exact j507 _ ((if_neg h507).trans (if_pos h518)).symm
                  · skip
                    refine w_bipush rL_texts_510 (x := 43) (by decide) ?_
                    refine w_goto rL_texts_512 ?_
                    exact j507 _ (if_pos h507).symm
                · replace q := q.1 h465
                  refine w_iinc rL_texts_468 rfl rfl trivial ?_
                  refine w_aload_n rL_texts_471 rfl ?_
                  refine w_aload rL_texts_472 rfl ?_
                  refine w_bipush rL_texts_474 (x := 41) (by decide) ?_
                  refine w_iload rL_texts_476 rfl ?_
                  have j478 : ∀ s478_3 : Int32, s478_3 = (if (x7 + (-1)) = 0 then 1 else 0 : Int32) → WP mL_texts 486 [some (.ref 0), some (.ref 498), some (.ref 499), some (.int x3), some (.int x4), some (.ref o5), some (.ref o6), some (.int (x7 + (-1))), some (.int ((((x8 * 31) + (17 * (I o5 0))) + 11) - (((x8 * 31) + (17 * (I o5 0))) + 11) / 60013 * 60013)), some (.int x9), some (.int x10), some (.int s112_0), some (.int (((((x8 * 31) + (17 * (I o5 0))) + 11) - (((x8 * 31) + (17 * (I o5 0))) + 11) / 60013 * 60013) / 7)), d13, d14, d15, d16] [.int s478_3, .int 41, .ref o5, .ref 0] (G X I L F) c s Q := by
                    intro s478_3 es478_3
                    replace q := q s478_3 es478_3
                    refine w_invokestatic rL_texts_486 rfl rfl rfl (Nat.le_of_ble_eq_true rfl) ⟨trivial, trivial, trivial, trivial, trivial⟩ trivial q.1.1 q.1.2 ?_
                    replace q := q.2
                    exact q
                  refine w_ifne rL_texts_478 (fun h478 => ?_) (fun h478 => ?_)
                  · skip
                    refine w_iconst rL_texts_485 (x := 0) (by decide) ?_
                    exact j478 _ (if_neg h478).symm
                  · skip
                    refine w_iconst rL_texts_481 (x := 1) (by decide) ?_
                    refine w_goto rL_texts_482 ?_
                    exact j478 _ (if_pos h478).symm
            · replace q := q.2 h420
              refine w_aload_n rL_texts_423 rfl ?_
              refine w_aload rL_texts_424 rfl ?_
              refine w_bipush rL_texts_426 (x := 44) (by decide) ?_
              refine w_iconst rL_texts_428 (x := 0) (by decide) ?_
              refine w_invokestatic rL_texts_429 rfl rfl rfl (Nat.le_of_ble_eq_true rfl) ⟨trivial, trivial, trivial, trivial, trivial⟩ trivial q.1.1 q.1.2 ?_
              replace q := q.2
              exact q
        refine w_icmple rL_texts_112 (fun h112 => ?_) (fun h112 => ?_)
        · skip
          refine w_iconst rL_texts_119 (x := 0) (by decide) ?_
          exact j112 _ (if_pos h112).symm
        · skip
          refine w_iconst rL_texts_115 (x := 1) (by decide) ?_
          refine w_goto rL_texts_116 ?_
          exact j112 _ (if_neg h112).symm
      · replace q := q.2 h66
        refine w_aload rL_texts_69 rfl ?_
        refine w_iconst rL_texts_71 (x := 0) (by decide) ?_
        refine xl_iaload rL_texts_72 (G_att ho5 (by unfold vp_in; decide)) (i := 0) (by decide) ?_
        refine w_bipush rL_texts_73 (x := 12) (by decide) ?_
        refine w_icmpge rL_texts_75 (fun h75 => ?_) (fun h75 => ?_)
        · replace q := q.1 h75
          refine w_iload rL_texts_551 rfl ?_
          refine w_ifeq rL_texts_553 (fun h => absurd h h56) (fun _ => ?_)
          refine w_aload_n rL_texts_556 rfl ?_
          refine w_aload_n rL_texts_557 rfl ?_
          refine w_aload_n rL_texts_558 rfl ?_
          refine w_iload_n rL_texts_559 rfl ?_
          refine w_invokestatic rL_texts_560 rfl rfl rfl (Nat.le_of_ble_eq_true rfl) ⟨trivial, trivial, trivial, trivial, trivial⟩ trivial q.1.1 q.1.2 ?_
          replace q := q.2
          exact q
        · replace q := q.2 h75
          refine w_iload rL_texts_78 rfl ?_
          refine w_iconst rL_texts_80 (x := 5) (by decide) ?_
          refine w_irem rL_texts_81 (by decide) ?_
          refine w_ifle rL_texts_82 (fun h82 => ?_) (fun h82 => ?_)
          · replace q := q.1 h82
            refine w_iload rL_texts_551 rfl ?_
            refine w_ifeq rL_texts_553 (fun h => absurd h h56) (fun _ => ?_)
            refine w_aload_n rL_texts_556 rfl ?_
            refine w_aload_n rL_texts_557 rfl ?_
            refine w_aload_n rL_texts_558 rfl ?_
            refine w_iload_n rL_texts_559 rfl ?_
            refine w_invokestatic rL_texts_560 rfl rfl rfl (Nat.le_of_ble_eq_true rfl) ⟨trivial, trivial, trivial, trivial, trivial⟩ trivial q.1.1 q.1.2 ?_
            replace q := q.2
            exact q
          · replace q := q.2 h82
            refine w_iload rL_texts_85 rfl ?_
            refine w_bipush rL_texts_87 (x := 31) (by decide) ?_
            refine w_imul rL_texts_89 ?_
            refine w_bipush rL_texts_90 (x := 17) (by decide) ?_
            refine w_aload rL_texts_92 rfl ?_
            refine w_iconst rL_texts_94 (x := 0) (by decide) ?_
            refine xl_iaload rL_texts_95 (G_att ho5 (by unfold vp_in; decide)) (i := 0) (by decide) ?_
            refine w_imul rL_texts_96 ?_
            refine w_iadd rL_texts_97 ?_
            refine w_bipush rL_texts_98 (x := 11) (by decide) ?_
            refine w_iadd rL_texts_100 ?_
            refine w_ldcI rL_texts_101 (x := 60013) (by decide) ?_
            refine w_irem rL_texts_103 (by decide) ?_
            refine w_istore rL_texts_104 rfl trivial ?_
            refine w_aload rL_texts_106 rfl ?_
            refine w_iconst rL_texts_108 (x := 0) (by decide) ?_
            refine xl_iaload rL_texts_109 (G_att ho5 (by unfold vp_in; decide)) (i := 0) (by decide) ?_
            refine w_bipush rL_texts_110 (x := 10) (by decide) ?_
            have j112 : ∀ s112_0 : Int32, s112_0 = (if (I o5 0) ≤ 10 then 0 else 1 : Int32) → WP mL_texts 120 [some (.ref 0), some (.ref 498), some (.ref 499), some (.int x3), some (.int x4), some (.ref o5), some (.ref o6), some (.int x7), some (.int ((((x8 * 31) + (17 * (I o5 0))) + 11) - (((x8 * 31) + (17 * (I o5 0))) + 11) / 60013 * 60013)), some (.int x9), some (.int x10), d11, d12, d13, d14, d15, d16] [.int s112_0] (G X I L F) c s Q := by
              intro s112_0 es112_0
              replace q := q s112_0 es112_0
              refine w_istore rL_texts_120 rfl trivial ?_
              refine w_iload rL_texts_122 rfl ?_
              refine w_bipush rL_texts_124 (x := 7) (by decide) ?_
              refine w_idiv rL_texts_126 (by decide) ?_
              refine w_istore rL_texts_127 rfl trivial ?_
              refine w_iload rL_texts_129 rfl ?_
              refine w_ifne rL_texts_131 (fun _ => ?_) (fun h => absurd h h61)
              refine w_iload rL_texts_407 rfl ?_
              refine w_ifle rL_texts_409 (fun h409 => ?_) (fun h409 => ?_)
              · replace q := q.1 h409
                refine w_iload rL_texts_451 rfl ?_
                refine w_ifle rL_texts_453 (fun _ => ?_) (fun h => absurd h409 h)
                refine w_iload rL_texts_494 rfl ?_
                refine w_iconst rL_texts_496 (x := 2) (by decide) ?_
                refine w_idiv rL_texts_497 (by decide) ?_
                refine w_iconst rL_texts_498 (x := 4) (by decide) ?_
                refine w_irem rL_texts_499 (by decide) ?_
                refine w_istore rL_texts_500 rfl trivial ?_
                refine w_aload_n rL_texts_502 rfl ?_
                refine w_aload rL_texts_503 rfl ?_
                refine w_iload rL_texts_505 rfl ?_
                have j507 : ∀ s507_2 : Int32, s507_2 = (if (((((((x8 * 31) + (17 * (I o5 0))) + 11) - (((x8 * 31) + (17 * (I o5 0))) + 11) / 60013 * 60013) / 7) / 2) - ((((((x8 * 31) + (17 * (I o5 0))) + 11) - (((x8 * 31) + (17 * (I o5 0))) + 11) / 60013 * 60013) / 7) / 2) / 4 * 4) = 0 then 43 else (if (((((((x8 * 31) + (17 * (I o5 0))) + 11) - (((x8 * 31) + (17 * (I o5 0))) + 11) / 60013 * 60013) / 7) / 2) - ((((((x8 * 31) + (17 * (I o5 0))) + 11) - (((x8 * 31) + (17 * (I o5 0))) + 11) / 60013 * 60013) / 7) / 2) / 4 * 4) = 1 then 45 else (if (((((((x8 * 31) + (17 * (I o5 0))) + 11) - (((x8 * 31) + (17 * (I o5 0))) + 11) / 60013 * 60013) / 7) / 2) - ((((((x8 * 31) + (17 * (I o5 0))) + 11) - (((x8 * 31) + (17 * (I o5 0))) + 11) / 60013 * 60013) / 7) / 2) / 4 * 4) = 2 then 42 else 47 : Int32) : Int32) : Int32) → WP mL_texts 539 [some (.ref 0), some (.ref 498), some (.ref 499), some (.int x3), some (.int x4), some (.ref o5), some (.ref o6), some (.int x7), some (.int ((((x8 * 31) + (17 * (I o5 0))) + 11) - (((x8 * 31) + (17 * (I o5 0))) + 11) / 60013 * 60013)), some (.int x9), some (.int x10), some (.int s112_0), some (.int (((((x8 * 31) + (17 * (I o5 0))) + 11) - (((x8 * 31) + (17 * (I o5 0))) + 11) / 60013 * 60013) / 7)), some (.int (((((((x8 * 31) + (17 * (I o5 0))) + 11) - (((x8 * 31) + (17 * (I o5 0))) + 11) / 60013 * 60013) / 7) / 2) - ((((((x8 * 31) + (17 * (I o5 0))) + 11) - (((x8 * 31) + (17 * (I o5 0))) + 11) / 60013 * 60013) / 7) / 2) / 4 * 4)), d14, d15, d16] [.int s507_2, .ref o5, .ref 0] (G X I L F) c s Q := by
                  intro s507_2 es507_2
                  replace q := q s507_2 es507_2
                  refine w_iconst rL_texts_539 (x := 0) (by decide) ?_
                  refine w_invokestatic rL_texts_540 rfl rfl rfl (Nat.le_of_ble_eq_true rfl) ⟨trivial, trivial, trivial, trivial, trivial⟩ trivial q.1.1 q.1.2 ?_
                  replace q := q.2
                  exact q
                refine w_ifne rL_texts_507 (fun h507 => ?_) (fun h507 => ?_)
                · skip
                  refine w_iload rL_texts_515 rfl ?_
                  refine w_iconst rL_texts_517 (x := 1) (by decide) ?_
                  refine w_icmpne rL_texts_518 (fun h518 => ?_) (fun h518 => ?_)
                  · skip
                    refine w_iload rL_texts_526 rfl ?_
                    refine w_iconst rL_texts_528 (x := 2) (by decide) ?_
                    refine w_icmpne rL_texts_529 (fun h529 => ?_) (fun h529 => ?_)
                    · skip
                      refine w_bipush rL_texts_537 (x := 47) (by decide) ?_
                      exact j507 _ (((if_neg h507).trans (if_neg h518)).trans (if_neg h529)).symm
                    · skip
                      refine w_bipush rL_texts_532 (x := 42) (by decide) ?_
                      refine w_goto rL_texts_534 ?_
                      exact j507 _ (((if_neg h507).trans (if_neg h518)).trans (if_pos h529)).symm
                  · skip
                    refine w_bipush rL_texts_521 (x := 45) (by decide) ?_
                    refine w_goto rL_texts_523 ?_
                    exact j507 _ ((if_neg h507).trans (if_pos h518)).symm
                · skip
                  refine w_bipush rL_texts_510 (x := 43) (by decide) ?_
                  refine w_goto rL_texts_512 ?_
                  exact j507 _ (if_pos h507).symm
              · replace q := q.2 h409
                refine w_aload rL_texts_412 rfl ?_
                refine w_iload rL_texts_414 rfl ?_
                refine w_iconst rL_texts_416 (x := 1) (by decide) ?_
                refine w_isub rL_texts_417 ?_
                have h418 := q.1
                replace q := q.2
                refine x_iaload rL_texts_418 (G_att ho6 h418) ?_
                refine w_iconst rL_texts_419 (x := 1) (by decide) ?_
                refine w_icmple rL_texts_420 (fun h420 => ?_) (fun h420 => ?_)
                · replace q := q.1 h420
                  refine w_iload rL_texts_451 rfl ?_
                  refine w_ifle rL_texts_453 (fun h => absurd h h409) (fun _ => ?_)
                  refine w_iload rL_texts_456 rfl ?_
                  refine w_ifne rL_texts_458 (fun h458 => ?_) (fun h458 => ?_)
                  · replace q := q.2 h458
                    refine w_iinc rL_texts_468 rfl rfl trivial ?_
                    refine w_aload_n rL_texts_471 rfl ?_
                    refine w_aload rL_texts_472 rfl ?_
                    refine w_bipush rL_texts_474 (x := 41) (by decide) ?_
                    refine w_iload rL_texts_476 rfl ?_
                    have j478 : ∀ s478_3 : Int32, s478_3 = (if (x7 + (-1)) = 0 then 1 else 0 : Int32) → WP mL_texts 486 [some (.ref 0), some (.ref 498), some (.ref 499), some (.int x3), some (.int x4), some (.ref o5), some (.ref o6), some (.int (x7 + (-1))), some (.int ((((x8 * 31) + (17 * (I o5 0))) + 11) - (((x8 * 31) + (17 * (I o5 0))) + 11) / 60013 * 60013)), some (.int x9), some (.int x10), some (.int s112_0), some (.int (((((x8 * 31) + (17 * (I o5 0))) + 11) - (((x8 * 31) + (17 * (I o5 0))) + 11) / 60013 * 60013) / 7)), d13, d14, d15, d16] [.int s478_3, .int 41, .ref o5, .ref 0] (G X I L F) c s Q := by
                      intro s478_3 es478_3
                      replace q := q s478_3 es478_3
                      refine w_invokestatic rL_texts_486 rfl rfl rfl (Nat.le_of_ble_eq_true rfl) ⟨trivial, trivial, trivial, trivial, trivial⟩ trivial q.1.1 q.1.2 ?_
                      replace q := q.2
                      exact q
                    refine w_ifne rL_texts_478 (fun h478 => ?_) (fun h478 => ?_)
                    · skip
                      refine w_iconst rL_texts_485 (x := 0) (by decide) ?_
                      exact j478 _ (if_neg h478).symm
                    · skip
                      refine w_iconst rL_texts_481 (x := 1) (by decide) ?_
                      refine w_goto rL_texts_482 ?_
                      exact j478 _ (if_pos h478).symm
                  · replace q := q.1 h458
                    refine w_iload rL_texts_461 rfl ?_
                    refine w_iconst rL_texts_463 (x := 2) (by decide) ?_
                    refine w_irem rL_texts_464 (by decide) ?_
                    refine w_ifne rL_texts_465 (fun h465 => ?_) (fun h465 => ?_)
                    · replace q := q.2 h465
                      refine w_iload rL_texts_494 rfl ?_
                      refine w_iconst rL_texts_496 (x := 2) (by decide) ?_
                      refine w_idiv rL_texts_497 (by decide) ?_
                      refine w_iconst rL_texts_498 (x := 4) (by decide) ?_
                      refine w_irem rL_texts_499 (by decide) ?_
                      refine w_istore rL_texts_500 rfl trivial ?_
                      refine w_aload_n rL_texts_502 rfl ?_
                      refine w_aload rL_texts_503 rfl ?_
                      refine w_iload rL_texts_505 rfl ?_
                      have j507 : ∀ s507_2 : Int32, s507_2 = (if (((((((x8 * 31) + (17 * (I o5 0))) + 11) - (((x8 * 31) + (17 * (I o5 0))) + 11) / 60013 * 60013) / 7) / 2) - ((((((x8 * 31) + (17 * (I o5 0))) + 11) - (((x8 * 31) + (17 * (I o5 0))) + 11) / 60013 * 60013) / 7) / 2) / 4 * 4) = 0 then 43 else (if (((((((x8 * 31) + (17 * (I o5 0))) + 11) - (((x8 * 31) + (17 * (I o5 0))) + 11) / 60013 * 60013) / 7) / 2) - ((((((x8 * 31) + (17 * (I o5 0))) + 11) - (((x8 * 31) + (17 * (I o5 0))) + 11) / 60013 * 60013) / 7) / 2) / 4 * 4) = 1 then 45 else (if (((((((x8 * 31) + (17 * (I o5 0))) + 11) - (((x8 * 31) + (17 * (I o5 0))) + 11) / 60013 * 60013) / 7) / 2) - ((((((x8 * 31) + (17 * (I o5 0))) + 11) - (((x8 * 31) + (17 * (I o5 0))) + 11) / 60013 * 60013) / 7) / 2) / 4 * 4) = 2 then 42 else 47 : Int32) : Int32) : Int32) → WP mL_texts 539 [some (.ref 0), some (.ref 498), some (.ref 499), some (.int x3), some (.int x4), some (.ref o5), some (.ref o6), some (.int x7), some (.int ((((x8 * 31) + (17 * (I o5 0))) + 11) - (((x8 * 31) + (17 * (I o5 0))) + 11) / 60013 * 60013)), some (.int x9), some (.int x10), some (.int s112_0), some (.int (((((x8 * 31) + (17 * (I o5 0))) + 11) - (((x8 * 31) + (17 * (I o5 0))) + 11) / 60013 * 60013) / 7)), some (.int (((((((x8 * 31) + (17 * (I o5 0))) + 11) - (((x8 * 31) + (17 * (I o5 0))) + 11) / 60013 * 60013) / 7) / 2) - ((((((x8 * 31) + (17 * (I o5 0))) + 11) - (((x8 * 31) + (17 * (I o5 0))) + 11) / 60013 * 60013) / 7) / 2) / 4 * 4)), d14, d15, d16] [.int s507_2, .ref o5, .ref 0] (G X I L F) c s Q := by
                        intro s507_2 es507_2
                        replace q := q s507_2 es507_2
                        refine w_iconst rL_texts_539 (x := 0) (by decide) ?_
                        refine w_invokestatic rL_texts_540 rfl rfl rfl (Nat.le_of_ble_eq_true rfl) ⟨trivial, trivial, trivial, trivial, trivial⟩ trivial q.1.1 q.1.2 ?_
                        replace q := q.2
                        exact q
                      refine w_ifne rL_texts_507 (fun h507 => ?_) (fun h507 => ?_)
                      · skip
                        refine w_iload rL_texts_515 rfl ?_
                        refine w_iconst rL_texts_517 (x := 1) (by decide) ?_
                        refine w_icmpne rL_texts_518 (fun h518 => ?_) (fun h518 => ?_)
                        · skip
                          refine w_iload rL_texts_526 rfl ?_
                          refine w_iconst rL_texts_528 (x := 2) (by decide) ?_
                          refine w_icmpne rL_texts_529 (fun h529 => ?_) (fun h529 => ?_)
                          · skip
                            refine w_bipush rL_texts_537 (x := 47) (by decide) ?_
                            exact j507 _ (((if_neg h507).trans (if_neg h518)).trans (if_neg h529)).symm
                          · skip
                            refine w_bipush rL_texts_532 (x := 42) (by decide) ?_
                            refine w_goto rL_texts_534 ?_
                            exact j507 _ (((if_neg h507).trans (if_neg h518)).trans (if_pos h529)).symm
                        · skip
                          refine w_bipush rL_texts_521 (x := 45) (by decide) ?_
                          refine w_goto rL_texts_523 ?_
                          exact j507 _ ((if_neg h507).trans (if_pos h518)).symm
                      · skip
                        refine w_bipush rL_texts_510 (x := 43) (by decide) ?_
                        refine w_goto rL_texts_512 ?_
                        exact j507 _ (if_pos h507).symm
                    · replace q := q.1 h465
                      refine w_iinc rL_texts_468 rfl rfl trivial ?_
                      refine w_aload_n rL_texts_471 rfl ?_
                      refine w_aload rL_texts_472 rfl ?_
                      refine w_bipush rL_texts_474 (x := 41) (by decide) ?_
                      refine w_iload rL_texts_476 rfl ?_
                      have j478 : ∀ s478_3 : Int32, s478_3 = (if (x7 + (-1)) = 0 then 1 else 0 : Int32) → WP mL_texts 486 [some (.ref 0), some (.ref 498), some (.ref 499), some (.int x3), some (.int x4), some (.ref o5), some (.ref o6), some (.int (x7 + (-1))), some (.int ((((x8 * 31) + (17 * (I o5 0))) + 11) - (((x8 * 31) + (17 * (I o5 0))) + 11) / 60013 * 60013)), some (.int x9), some (.int x10), some (.int s112_0), some (.int (((((x8 * 31) + (17 * (I o5 0))) + 11) - (((x8 * 31) + (17 * (I o5 0))) + 11) / 60013 * 60013) / 7)), d13, d14, d15, d16] [.int s478_3, .int 41, .ref o5, .ref 0] (G X I L F) c s Q := by
                        intro s478_3 es478_3
                        replace q := q s478_3 es478_3
                        refine w_invokestatic rL_texts_486 rfl rfl rfl (Nat.le_of_ble_eq_true rfl) ⟨trivial, trivial, trivial, trivial, trivial⟩ trivial q.1.1 q.1.2 ?_
                        replace q := q.2
                        exact q
                      refine w_ifne rL_texts_478 (fun h478 => ?_) (fun h478 => ?_)
                      · skip
                        refine w_iconst rL_texts_485 (x := 0) (by decide) ?_
                        exact j478 _ (if_neg h478).symm
                      · skip
                        refine w_iconst rL_texts_481 (x := 1) (by decide) ?_
                        refine w_goto rL_texts_482 ?_
                        exact j478 _ (if_pos h478).symm
                · replace q := q.2 h420
                  refine w_aload_n rL_texts_423 rfl ?_
                  refine w_aload rL_texts_424 rfl ?_
                  refine w_bipush rL_texts_426 (x := 44) (by decide) ?_
                  refine w_iconst rL_texts_428 (x := 0) (by decide) ?_
                  refine w_invokestatic rL_texts_429 rfl rfl rfl (Nat.le_of_ble_eq_true rfl) ⟨trivial, trivial, trivial, trivial, trivial⟩ trivial q.1.1 q.1.2 ?_
                  replace q := q.2
                  exact q
            refine w_icmple rL_texts_112 (fun h112 => ?_) (fun h112 => ?_)
            · skip
              refine w_iconst rL_texts_119 (x := 0) (by decide) ?_
              exact j112 _ (if_pos h112).symm
            · skip
              refine w_iconst rL_texts_115 (x := 1) (by decide) ?_
              refine w_goto rL_texts_116 ?_
              exact j112 _ (if_neg h112).symm
theorem k_L_texts_298 {X : Nat × (Nat × (Nat → Int32))} {I : Nat → Nat → Int32} {L : Nat → Nat → Int64} {F : Nat → Nat → UInt32} {Q : AQ} {c s : Nat} {x3 : Int32} {x4 : Int32} {o5 : Nat} {o6 : Nat} {x7 : Int32} {x8 : Int32} {x9 : Int32} {x10 : Int32} {x11 : Int32} {x12 : Int32} {x13 : Int32} {x14 : Int32} {x15 : Int32} {x16 : Int32} {e0 : Int32} (ho5 : isT X o5 1) (ho6 : isT X o6 8) (q : (e0 = 0 → ((x13 = 7 → vp_in x7 8 ∧ (True)) ∧ (¬ x13 = 7 → (¬ x13 = 5 → (c ≤ 400 ∧ s ≤ 2500) ∧ (True)))) ∧ (∀ s335_2 : Int32, s335_2 = (if x13 = 7 then (I o6 (Int32.toNatClampNeg x7)) else (if x13 = 5 then 1 else (f_L_inputs x15) : Int32) : Int32) → (vp_in x7 8 ∧ (∀ s368_1 : Int32, s368_1 = (if x13 = 7 then 0 else 1 : Int32) → (WP mL_texts 54 [some (.ref 0), some (.ref 498), some (.ref 499), some (.int x3), some (.int x4), some (.ref o5), some (.ref o6), some (.int (x7 + s368_1)), some (.int x8), some (.int x9), some (.int 0), some (.int x11), some (.int x12), some (.int x13), some (.int x14), some (.int x15), some (.int x16)] [] (G X (am_u I o6 (Int32.toNatClampNeg x7) s335_2) L F) c s Q))))) ∧ (¬ e0 = 0 → (x13 = 6 → (c + 1 ≤ 400 ∧ s + 6 ≤ 2500) ∧ (WP mL_types 0 (am_ent 4 [.ref 0, .ref o5, .int 40, .int 0]) [] (G X I L F) 0 0 (am_kq mL_texts 314 [some (.ref 0), some (.ref 498), some (.ref 499), some (.int x3), some (.int x4), some (.ref o5), some (.ref o6), some (.int x7), some (.int x8), some (.int x9), some (.int x10), some (.int x11), some (.int x12), some (.int x13), some (.int x14), some (.int x15), some (.int x16)] [] (c + 1) (s + 6) Q))) ∧ (¬ x13 = 6 → ((x13 = 7 → vp_in x7 8 ∧ (True)) ∧ (¬ x13 = 7 → (¬ x13 = 5 → (c ≤ 400 ∧ s ≤ 2500) ∧ (True)))) ∧ (∀ s335_2 : Int32, s335_2 = (if x13 = 7 then (I o6 (Int32.toNatClampNeg x7)) else (if x13 = 5 then 1 else (f_L_inputs x15) : Int32) : Int32) → (vp_in x7 8 ∧ (∀ s368_1 : Int32, s368_1 = (if x13 = 7 then 0 else 1 : Int32) → (WP mL_texts 54 [some (.ref 0), some (.ref 498), some (.ref 499), some (.int x3), some (.int x4), some (.ref o5), some (.ref o6), some (.int (x7 + s368_1)), some (.int x8), some (.int x9), some (.int 1), some (.int x11), some (.int x12), some (.int x13), some (.int x14), some (.int x15), some (.int x16)] [] (G X (am_u I o6 (Int32.toNatClampNeg x7) s335_2) L F) c s Q))))))) : WP mL_texts 298 [some (.ref 0), some (.ref 498), some (.ref 499), some (.int x3), some (.int x4), some (.ref o5), some (.ref o6), some (.int x7), some (.int x8), some (.int x9), some (.int x10), some (.int x11), some (.int x12), some (.int x13), some (.int x14), some (.int x15), some (.int x16)] [.int e0] (G X I L F) c s Q := by
  refine w_ifeq rL_texts_298 (fun h298 => ?_) (fun h298 => ?_)
  · replace q := q.1 h298
    refine w_iconst rL_texts_324 (x := 0) (by decide) ?_
    refine w_istore rL_texts_325 rfl trivial ?_
    refine w_aload rL_texts_327 rfl ?_
    refine w_iload rL_texts_329 rfl ?_
    refine w_iload rL_texts_331 rfl ?_
    refine w_bipush rL_texts_333 (x := 7) (by decide) ?_
    have j335 : ∀ s335_2 : Int32, s335_2 = (if x13 = 7 then (I o6 (Int32.toNatClampNeg x7)) else (if x13 = 5 then 1 else (f_L_inputs x15) : Int32) : Int32) → WP mL_texts 361 [some (.ref 0), some (.ref 498), some (.ref 499), some (.int x3), some (.int x4), some (.ref o5), some (.ref o6), some (.int x7), some (.int x8), some (.int x9), some (.int 0), some (.int x11), some (.int x12), some (.int x13), some (.int x14), some (.int x15), some (.int x16)] [.int s335_2, .int x7, .ref o6] (G X I L F) c s Q := by
      intro s335_2 es335_2
      replace q := q.2
      replace q := q s335_2 es335_2
      have h361 := q.1
      replace q := q.2
      refine x_iastore rL_texts_361 (G_att ho6 h361) ?_
      refine w_iload rL_texts_362 rfl ?_
      refine w_iload rL_texts_364 rfl ?_
      refine w_bipush rL_texts_366 (x := 7) (by decide) ?_
      have j368 : ∀ s368_1 : Int32, s368_1 = (if x13 = 7 then 0 else 1 : Int32) → WP mL_texts 376 [some (.ref 0), some (.ref 498), some (.ref 499), some (.int x3), some (.int x4), some (.ref o5), some (.ref o6), some (.int x7), some (.int x8), some (.int x9), some (.int 0), some (.int x11), some (.int x12), some (.int x13), some (.int x14), some (.int x15), some (.int x16)] [.int s368_1, .int x7] (G X (am_u I o6 (Int32.toNatClampNeg x7) s335_2) L F) c s Q := by
        intro s368_1 es368_1
        replace q := q s368_1 es368_1
        refine w_iadd rL_texts_376 ?_
        refine w_istore rL_texts_377 rfl trivial ?_
        refine w_goto rL_texts_379 ?_
        refine w_goto rL_texts_404 ?_
        refine w_goto rL_texts_548 ?_
        exact q
      refine w_icmpne rL_texts_368 (fun h368 => ?_) (fun h368 => ?_)
      · skip
        refine w_iconst rL_texts_375 (x := 1) (by decide) ?_
        exact j368 _ (if_neg h368).symm
      · skip
        refine w_iconst rL_texts_371 (x := 0) (by decide) ?_
        refine w_goto rL_texts_372 ?_
        exact j368 _ (if_pos h368).symm
    replace q := q.1
    refine w_icmpne rL_texts_335 (fun h335 => ?_) (fun h335 => ?_)
    · replace q := q.2 h335
      refine w_iload rL_texts_346 rfl ?_
      refine w_iconst rL_texts_348 (x := 5) (by decide) ?_
      refine w_icmpne rL_texts_349 (fun h349 => ?_) (fun h349 => ?_)
      · replace q := q h349
        refine w_iload rL_texts_356 rfl ?_
        have bd358 := q.1
        replace q := q.2
        refine w_invokestatic rL_texts_358 rfl rfl rfl (Nat.le_of_ble_eq_true rfl) ⟨trivial, trivial⟩ trivial bd358.1 bd358.2 ?_
        refine s_L_inputs ?_
        show WP mL_texts 361 _ _ _ c s _
        exact j335 _ ((if_neg h335).trans (if_neg h349)).symm
      · skip
        refine w_iconst rL_texts_352 (x := 1) (by decide) ?_
        refine w_goto rL_texts_353 ?_
        exact j335 _ ((if_neg h335).trans (if_pos h349)).symm
    · replace q := q.1 h335
      refine w_aload rL_texts_338 rfl ?_
      refine w_iload rL_texts_340 rfl ?_
      have h342 := q.1
      replace q := q.2
      refine x_iaload rL_texts_342 (G_att ho6 h342) ?_
      refine w_goto rL_texts_343 ?_
      exact j335 _ (if_pos h335).symm
  · replace q := q.2 h298
    refine w_iload rL_texts_301 rfl ?_
    refine w_bipush rL_texts_303 (x := 6) (by decide) ?_
    refine w_icmpne rL_texts_305 (fun h305 => ?_) (fun h305 => ?_)
    · replace q := q.2 h305
      refine w_iconst rL_texts_320 (x := 1) (by decide) ?_
      refine w_goto rL_texts_321 ?_
      refine w_istore rL_texts_325 rfl trivial ?_
      refine w_aload rL_texts_327 rfl ?_
      refine w_iload rL_texts_329 rfl ?_
      refine w_iload rL_texts_331 rfl ?_
      refine w_bipush rL_texts_333 (x := 7) (by decide) ?_
      have j335 : ∀ s335_2 : Int32, s335_2 = (if x13 = 7 then (I o6 (Int32.toNatClampNeg x7)) else (if x13 = 5 then 1 else (f_L_inputs x15) : Int32) : Int32) → WP mL_texts 361 [some (.ref 0), some (.ref 498), some (.ref 499), some (.int x3), some (.int x4), some (.ref o5), some (.ref o6), some (.int x7), some (.int x8), some (.int x9), some (.int 1), some (.int x11), some (.int x12), some (.int x13), some (.int x14), some (.int x15), some (.int x16)] [.int s335_2, .int x7, .ref o6] (G X I L F) c s Q := by
        intro s335_2 es335_2
        replace q := q.2
        replace q := q s335_2 es335_2
        have h361 := q.1
        replace q := q.2
        refine x_iastore rL_texts_361 (G_att ho6 h361) ?_
        refine w_iload rL_texts_362 rfl ?_
        refine w_iload rL_texts_364 rfl ?_
        refine w_bipush rL_texts_366 (x := 7) (by decide) ?_
        have j368 : ∀ s368_1 : Int32, s368_1 = (if x13 = 7 then 0 else 1 : Int32) → WP mL_texts 376 [some (.ref 0), some (.ref 498), some (.ref 499), some (.int x3), some (.int x4), some (.ref o5), some (.ref o6), some (.int x7), some (.int x8), some (.int x9), some (.int 1), some (.int x11), some (.int x12), some (.int x13), some (.int x14), some (.int x15), some (.int x16)] [.int s368_1, .int x7] (G X (am_u I o6 (Int32.toNatClampNeg x7) s335_2) L F) c s Q := by
          intro s368_1 es368_1
          replace q := q s368_1 es368_1
          refine w_iadd rL_texts_376 ?_
          refine w_istore rL_texts_377 rfl trivial ?_
          refine w_goto rL_texts_379 ?_
          refine w_goto rL_texts_404 ?_
          refine w_goto rL_texts_548 ?_
          exact q
        refine w_icmpne rL_texts_368 (fun h368 => ?_) (fun h368 => ?_)
        · skip
          refine w_iconst rL_texts_375 (x := 1) (by decide) ?_
          exact j368 _ (if_neg h368).symm
        · skip
          refine w_iconst rL_texts_371 (x := 0) (by decide) ?_
          refine w_goto rL_texts_372 ?_
          exact j368 _ (if_pos h368).symm
      replace q := q.1
      refine w_icmpne rL_texts_335 (fun h335 => ?_) (fun h335 => ?_)
      · replace q := q.2 h335
        refine w_iload rL_texts_346 rfl ?_
        refine w_iconst rL_texts_348 (x := 5) (by decide) ?_
        refine w_icmpne rL_texts_349 (fun h349 => ?_) (fun h349 => ?_)
        · replace q := q h349
          refine w_iload rL_texts_356 rfl ?_
          have bd358 := q.1
          replace q := q.2
          refine w_invokestatic rL_texts_358 rfl rfl rfl (Nat.le_of_ble_eq_true rfl) ⟨trivial, trivial⟩ trivial bd358.1 bd358.2 ?_
          refine s_L_inputs ?_
          show WP mL_texts 361 _ _ _ c s _
          exact j335 _ ((if_neg h335).trans (if_neg h349)).symm
        · skip
          refine w_iconst rL_texts_352 (x := 1) (by decide) ?_
          refine w_goto rL_texts_353 ?_
          exact j335 _ ((if_neg h335).trans (if_pos h349)).symm
      · replace q := q.1 h335
        refine w_aload rL_texts_338 rfl ?_
        refine w_iload rL_texts_340 rfl ?_
        have h342 := q.1
        replace q := q.2
        refine x_iaload rL_texts_342 (G_att ho6 h342) ?_
        refine w_goto rL_texts_343 ?_
        exact j335 _ (if_pos h335).symm
    · replace q := q.1 h305
      refine w_aload_n rL_texts_308 rfl ?_
      refine w_aload rL_texts_309 rfl ?_
      refine w_bipush rL_texts_311 (x := 40) (by decide) ?_
      refine w_iconst rL_texts_313 (x := 0) (by decide) ?_
      refine w_invokestatic rL_texts_314 rfl rfl rfl (Nat.le_of_ble_eq_true rfl) ⟨trivial, trivial, trivial, trivial, trivial⟩ trivial q.1.1 q.1.2 ?_
      replace q := q.2
      exact q
theorem k_L_texts_317 {X : Nat × (Nat × (Nat → Int32))} {I : Nat → Nat → Int32} {L : Nat → Nat → Int64} {F : Nat → Nat → UInt32} {Q : AQ} {c s : Nat} {x3 : Int32} {x4 : Int32} {o5 : Nat} {o6 : Nat} {x7 : Int32} {x8 : Int32} {x9 : Int32} {x10 : Int32} {x11 : Int32} {x12 : Int32} {x13 : Int32} {x14 : Int32} {x15 : Int32} {x16 : Int32} {e0 : Int32} (ho5 : isT X o5 1) (ho6 : isT X o6 8) (q : ∀ s317_0 : Int32, s317_0 = (if e0 = 0 then 0 else 1 : Int32) → (((x13 = 7 → vp_in x7 8 ∧ (True)) ∧ (¬ x13 = 7 → (¬ x13 = 5 → (c ≤ 400 ∧ s ≤ 2500) ∧ (True)))) ∧ (∀ s335_2 : Int32, s335_2 = (if x13 = 7 then (I o6 (Int32.toNatClampNeg x7)) else (if x13 = 5 then 1 else (f_L_inputs x15) : Int32) : Int32) → (vp_in x7 8 ∧ (∀ s368_1 : Int32, s368_1 = (if x13 = 7 then 0 else 1 : Int32) → (WP mL_texts 54 [some (.ref 0), some (.ref 498), some (.ref 499), some (.int x3), some (.int x4), some (.ref o5), some (.ref o6), some (.int (x7 + s368_1)), some (.int x8), some (.int x9), some (.int s317_0), some (.int x11), some (.int x12), some (.int x13), some (.int x14), some (.int x15), some (.int x16)] [] (G X (am_u I o6 (Int32.toNatClampNeg x7) s335_2) L F) c s Q)))))) : WP mL_texts 317 [some (.ref 0), some (.ref 498), some (.ref 499), some (.int x3), some (.int x4), some (.ref o5), some (.ref o6), some (.int x7), some (.int x8), some (.int x9), some (.int x10), some (.int x11), some (.int x12), some (.int x13), some (.int x14), some (.int x15), some (.int x16)] [.int e0] (G X I L F) c s Q := by
  have j317 : ∀ s317_0 : Int32, s317_0 = (if e0 = 0 then 0 else 1 : Int32) → WP mL_texts 325 [some (.ref 0), some (.ref 498), some (.ref 499), some (.int x3), some (.int x4), some (.ref o5), some (.ref o6), some (.int x7), some (.int x8), some (.int x9), some (.int x10), some (.int x11), some (.int x12), some (.int x13), some (.int x14), some (.int x15), some (.int x16)] [.int s317_0] (G X I L F) c s Q := by
    intro s317_0 es317_0
    replace q := q s317_0 es317_0
    refine w_istore rL_texts_325 rfl trivial ?_
    refine w_aload rL_texts_327 rfl ?_
    refine w_iload rL_texts_329 rfl ?_
    refine w_iload rL_texts_331 rfl ?_
    refine w_bipush rL_texts_333 (x := 7) (by decide) ?_
    have j335 : ∀ s335_2 : Int32, s335_2 = (if x13 = 7 then (I o6 (Int32.toNatClampNeg x7)) else (if x13 = 5 then 1 else (f_L_inputs x15) : Int32) : Int32) → WP mL_texts 361 [some (.ref 0), some (.ref 498), some (.ref 499), some (.int x3), some (.int x4), some (.ref o5), some (.ref o6), some (.int x7), some (.int x8), some (.int x9), some (.int s317_0), some (.int x11), some (.int x12), some (.int x13), some (.int x14), some (.int x15), some (.int x16)] [.int s335_2, .int x7, .ref o6] (G X I L F) c s Q := by
      intro s335_2 es335_2
      replace q := q.2
      replace q := q s335_2 es335_2
      have h361 := q.1
      replace q := q.2
      refine x_iastore rL_texts_361 (G_att ho6 h361) ?_
      refine w_iload rL_texts_362 rfl ?_
      refine w_iload rL_texts_364 rfl ?_
      refine w_bipush rL_texts_366 (x := 7) (by decide) ?_
      have j368 : ∀ s368_1 : Int32, s368_1 = (if x13 = 7 then 0 else 1 : Int32) → WP mL_texts 376 [some (.ref 0), some (.ref 498), some (.ref 499), some (.int x3), some (.int x4), some (.ref o5), some (.ref o6), some (.int x7), some (.int x8), some (.int x9), some (.int s317_0), some (.int x11), some (.int x12), some (.int x13), some (.int x14), some (.int x15), some (.int x16)] [.int s368_1, .int x7] (G X (am_u I o6 (Int32.toNatClampNeg x7) s335_2) L F) c s Q := by
        intro s368_1 es368_1
        replace q := q s368_1 es368_1
        refine w_iadd rL_texts_376 ?_
        refine w_istore rL_texts_377 rfl trivial ?_
        refine w_goto rL_texts_379 ?_
        refine w_goto rL_texts_404 ?_
        refine w_goto rL_texts_548 ?_
        exact q
      refine w_icmpne rL_texts_368 (fun h368 => ?_) (fun h368 => ?_)
      · skip
        refine w_iconst rL_texts_375 (x := 1) (by decide) ?_
        exact j368 _ (if_neg h368).symm
      · skip
        refine w_iconst rL_texts_371 (x := 0) (by decide) ?_
        refine w_goto rL_texts_372 ?_
        exact j368 _ (if_pos h368).symm
    replace q := q.1
    refine w_icmpne rL_texts_335 (fun h335 => ?_) (fun h335 => ?_)
    · replace q := q.2 h335
      refine w_iload rL_texts_346 rfl ?_
      refine w_iconst rL_texts_348 (x := 5) (by decide) ?_
      refine w_icmpne rL_texts_349 (fun h349 => ?_) (fun h349 => ?_)
      · replace q := q h349
        refine w_iload rL_texts_356 rfl ?_
        have bd358 := q.1
        replace q := q.2
        refine w_invokestatic rL_texts_358 rfl rfl rfl (Nat.le_of_ble_eq_true rfl) ⟨trivial, trivial⟩ trivial bd358.1 bd358.2 ?_
        refine s_L_inputs ?_
        show WP mL_texts 361 _ _ _ c s _
        exact j335 _ ((if_neg h335).trans (if_neg h349)).symm
      · skip
        refine w_iconst rL_texts_352 (x := 1) (by decide) ?_
        refine w_goto rL_texts_353 ?_
        exact j335 _ ((if_neg h335).trans (if_pos h349)).symm
    · replace q := q.1 h335
      refine w_aload rL_texts_338 rfl ?_
      refine w_iload rL_texts_340 rfl ?_
      have h342 := q.1
      replace q := q.2
      refine x_iaload rL_texts_342 (G_att ho6 h342) ?_
      refine w_goto rL_texts_343 ?_
      exact j335 _ (if_pos h335).symm
  refine w_ifeq rL_texts_317 (fun h317 => ?_) (fun h317 => ?_)
  · skip
    refine w_iconst rL_texts_324 (x := 0) (by decide) ?_
    exact j317 _ (if_pos h317).symm
  · skip
    refine w_iconst rL_texts_320 (x := 1) (by decide) ?_
    refine w_goto rL_texts_321 ?_
    exact j317 _ (if_neg h317).symm
theorem k_L_texts_399 {X : Nat × (Nat × (Nat → Int32))} {I : Nat → Nat → Int32} {L : Nat → Nat → Int64} {F : Nat → Nat → UInt32} {Q : AQ} {c s : Nat} {x3 : Int32} {x4 : Int32} {o5 : Nat} {o6 : Nat} {x7 : Int32} {x8 : Int32} {x9 : Int32} {x10 : Int32} {x11 : Int32} {x12 : Int32} {x13 : Int32} {x14 : Int32} {d15 : Option Value} {d16 : Option Value} {e0 : Int32} (ho5 : isT X o5 1) (ho6 : isT X o6 8) (q : WP mL_texts 54 [some (.ref 0), some (.ref 498), some (.ref 499), some (.int x3), some (.int x4), some (.ref o5), some (.ref o6), some (.int x7), some (.int x8), some (.int 1), some (.int e0), some (.int x11), some (.int x12), some (.int x13), some (.int x14), d15, d16] [] (G X I L F) c s Q) : WP mL_texts 399 [some (.ref 0), some (.ref 498), some (.ref 499), some (.int x3), some (.int x4), some (.ref o5), some (.ref o6), some (.int x7), some (.int x8), some (.int x9), some (.int x10), some (.int x11), some (.int x12), some (.int x13), some (.int x14), d15, d16] [.int e0] (G X I L F) c s Q := by
  refine w_istore rL_texts_399 rfl trivial ?_
  refine w_iconst rL_texts_401 (x := 1) (by decide) ?_
  refine w_istore rL_texts_402 rfl trivial ?_
  refine w_goto rL_texts_404 ?_
  refine w_goto rL_texts_548 ?_
  exact q
theorem k_L_texts_432 {X : Nat × (Nat × (Nat → Int32))} {I : Nat → Nat → Int32} {L : Nat → Nat → Int64} {F : Nat → Nat → UInt32} {Q : AQ} {c s : Nat} {x3 : Int32} {x4 : Int32} {o5 : Nat} {o6 : Nat} {x7 : Int32} {x8 : Int32} {x9 : Int32} {x10 : Int32} {x11 : Int32} {x12 : Int32} {d13 : Option Value} {d14 : Option Value} {d15 : Option Value} {d16 : Option Value} {e0 : Int32} (ho5 : isT X o5 1) (ho6 : isT X o6 8) (q : vp_in (x7 - 1) 8 ∧ (vp_in (x7 - 1) 8 ∧ (WP mL_texts 54 [some (.ref 0), some (.ref 498), some (.ref 499), some (.int x3), some (.int x4), some (.ref o5), some (.ref o6), some (.int x7), some (.int x8), some (.int 0), some (.int e0), some (.int x11), some (.int x12), d13, d14, d15, d16] [] (G X (am_u I o6 (Int32.toNatClampNeg (x7 - 1)) ((I o6 (Int32.toNatClampNeg (x7 - 1))) - 1)) L F) c s Q))) : WP mL_texts 432 [some (.ref 0), some (.ref 498), some (.ref 499), some (.int x3), some (.int x4), some (.ref o5), some (.ref o6), some (.int x7), some (.int x8), some (.int x9), some (.int x10), some (.int x11), some (.int x12), d13, d14, d15, d16] [.int e0] (G X I L F) c s Q := by
  refine w_istore rL_texts_432 rfl trivial ?_
  refine w_aload rL_texts_434 rfl ?_
  refine w_iload rL_texts_436 rfl ?_
  refine w_iconst rL_texts_438 (x := 1) (by decide) ?_
  refine w_isub rL_texts_439 ?_
  refine w_dup2 rL_texts_440 trivial trivial ?_
  have h441 := q.1
  replace q := q.2
  refine x_iaload rL_texts_441 (G_att ho6 h441) ?_
  refine w_iconst rL_texts_442 (x := 1) (by decide) ?_
  refine w_isub rL_texts_443 ?_
  have h444 := q.1
  replace q := q.2
  refine x_iastore rL_texts_444 (G_att ho6 h444) ?_
  refine w_iconst rL_texts_445 (x := 0) (by decide) ?_
  refine w_istore rL_texts_446 rfl trivial ?_
  refine w_goto rL_texts_448 ?_
  refine w_goto rL_texts_548 ?_
  exact q
theorem k_L_texts_489 {X : Nat × (Nat × (Nat → Int32))} {I : Nat → Nat → Int32} {L : Nat → Nat → Int64} {F : Nat → Nat → UInt32} {Q : AQ} {c s : Nat} {x3 : Int32} {x4 : Int32} {o5 : Nat} {o6 : Nat} {x7 : Int32} {x8 : Int32} {x9 : Int32} {x10 : Int32} {x11 : Int32} {x12 : Int32} {d13 : Option Value} {d14 : Option Value} {d15 : Option Value} {d16 : Option Value} {e0 : Int32} (ho5 : isT X o5 1) (ho6 : isT X o6 8) (q : WP mL_texts 54 [some (.ref 0), some (.ref 498), some (.ref 499), some (.int x3), some (.int x4), some (.ref o5), some (.ref o6), some (.int x7), some (.int x8), some (.int x9), some (.int e0), some (.int x11), some (.int x12), d13, d14, d15, d16] [] (G X I L F) c s Q) : WP mL_texts 489 [some (.ref 0), some (.ref 498), some (.ref 499), some (.int x3), some (.int x4), some (.ref o5), some (.ref o6), some (.int x7), some (.int x8), some (.int x9), some (.int x10), some (.int x11), some (.int x12), d13, d14, d15, d16] [.int e0] (G X I L F) c s Q := by
  refine w_istore rL_texts_489 rfl trivial ?_
  refine w_goto rL_texts_491 ?_
  refine w_goto rL_texts_548 ?_
  exact q
theorem k_L_texts_543 {X : Nat × (Nat × (Nat → Int32))} {I : Nat → Nat → Int32} {L : Nat → Nat → Int64} {F : Nat → Nat → UInt32} {Q : AQ} {c s : Nat} {x3 : Int32} {x4 : Int32} {o5 : Nat} {o6 : Nat} {x7 : Int32} {x8 : Int32} {x9 : Int32} {x10 : Int32} {x11 : Int32} {x12 : Int32} {x13 : Int32} {d14 : Option Value} {d15 : Option Value} {d16 : Option Value} {e0 : Int32} (ho5 : isT X o5 1) (ho6 : isT X o6 8) (q : WP mL_texts 54 [some (.ref 0), some (.ref 498), some (.ref 499), some (.int x3), some (.int x4), some (.ref o5), some (.ref o6), some (.int x7), some (.int x8), some (.int 0), some (.int e0), some (.int x11), some (.int x12), some (.int x13), d14, d15, d16] [] (G X I L F) c s Q) : WP mL_texts 543 [some (.ref 0), some (.ref 498), some (.ref 499), some (.int x3), some (.int x4), some (.ref o5), some (.ref o6), some (.int x7), some (.int x8), some (.int x9), some (.int x10), some (.int x11), some (.int x12), some (.int x13), d14, d15, d16] [.int e0] (G X I L F) c s Q := by
  refine w_istore rL_texts_543 rfl trivial ?_
  refine w_iconst rL_texts_545 (x := 0) (by decide) ?_
  refine w_istore rL_texts_546 rfl trivial ?_
  refine w_goto rL_texts_548 ?_
  exact q
theorem k_L_texts_563 {X : Nat × (Nat × (Nat → Int32))} {I : Nat → Nat → Int32} {L : Nat → Nat → Int64} {F : Nat → Nat → UInt32} {Q : AQ} {c s : Nat} {x3 : Int32} {x4 : Int32} {o5 : Nat} {o6 : Nat} {x7 : Int32} {x8 : Int32} {x9 : Int32} {x10 : Int32} {d11 : Option Value} {d12 : Option Value} {d13 : Option Value} {d14 : Option Value} {d15 : Option Value} {d16 : Option Value} {e0 : Int32} (ho5 : isT X o5 1) (ho6 : isT X o6 8) (q : ∀ s563_0 : Int32, s563_0 = (if e0 = 0 then 0 else 1 : Int32) → ((s563_0 = 0 ∨ s563_0 = 1) ∧ (Q (.inl (some (.int s563_0))) (G X I L F)))) : WP mL_texts 563 [some (.ref 0), some (.ref 498), some (.ref 499), some (.int x3), some (.int x4), some (.ref o5), some (.ref o6), some (.int x7), some (.int x8), some (.int x9), some (.int x10), d11, d12, d13, d14, d15, d16] [.int e0] (G X I L F) c s Q := by
  have j563 : ∀ s563_0 : Int32, s563_0 = (if e0 = 0 then 0 else 1 : Int32) → WP mL_texts 571 [some (.ref 0), some (.ref 498), some (.ref 499), some (.int x3), some (.int x4), some (.ref o5), some (.ref o6), some (.int x7), some (.int x8), some (.int x9), some (.int x10), d11, d12, d13, d14, d15, d16] [.int s563_0] (G X I L F) c s Q := by
    intro s563_0 es563_0
    replace q := q s563_0 es563_0
    have z571 := q.1
    replace q := q.2
    refine w_ireturn rL_texts_571 z571 ?_
    exact q
  refine w_ifeq rL_texts_563 (fun h563 => ?_) (fun h563 => ?_)
  · skip
    refine w_iconst rL_texts_570 (x := 0) (by decide) ?_
    exact j563 _ (if_pos h563).symm
  · skip
    refine w_iconst rL_texts_566 (x := 1) (by decide) ?_
    refine w_goto rL_texts_567 ?_
    exact j563 _ (if_neg h563).symm
