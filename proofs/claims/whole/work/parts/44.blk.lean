/-! own: the blocks of the methods that go round or call on, written by a program -/
set_option maxRecDepth 100000
theorem k_X10_rain_0 {X : Nat × (Nat → Int32)} {I : Nat → Nat → Int32} {L : Nat → Nat → Int64} {F : Nat → Nat → UInt32} {Q : AQ} {gauge : Int32} {hour : Int32} {mm : Int32} (q : ∀ s7_1 : Int32, s7_1 = (if (f_X10_isIn gauge 0 2) = 0 then 1 else (if (f_X10_isIn hour 0 200) = 0 then 2 else (if (f_X10_isIn mm 0 500) = 0 then 2 else 0 : Int32) : Int32) : Int32) → (((f_X10_holds s7_1) = 0 → Q (.inl (some (.int 0))) (G X (fI_X10_holds s7_1 I) L F)) ∧ (¬ (f_X10_holds s7_1) = 0 → vp_in ((201 * gauge) + hour) 603 ∧ ((((fI_X10_holds s7_1 I) 507 (Int32.toNatClampNeg ((201 * gauge) + hour))) = mm → Q (.inl (some (.int ((fI_X10_holds s7_1 I) 507 (Int32.toNatClampNeg ((201 * gauge) + hour)))))) (G X (fI_X10_holds s7_1 I) L F)) ∧ (¬ ((fI_X10_holds s7_1 I) 507 (Int32.toNatClampNeg ((201 * gauge) + hour))) = mm → vp_in ((201 * gauge) + hour) 603 ∧ (vp_in ((201 * gauge) + hour) 603 ∧ (WP mX10_rain 111 [some (.ref 498), some (.int gauge), some (.int hour), some (.int mm), some (.int ((fI_X10_holds s7_1 I) 507 (Int32.toNatClampNeg ((201 * gauge) + hour)))), some (.int 0)] [] (G X (am_u (am_u (am_u (fI_X10_holds s7_1 I) 498 14 (((fI_X10_holds s7_1 I) 498 14) + 1)) 507 (Int32.toNatClampNeg ((201 * gauge) + hour)) mm) 508 (Int32.toNatClampNeg ((201 * gauge) + hour)) (((fI_X10_holds s7_1 I) 498 14) + 1)) L F) 0 0 Q))))))) : WP mX10_rain 0 (am_ent 6 [.ref 498, .int gauge, .int hour, .int mm]) [] (G X I L F) 0 0 Q := by
  refine w_aload_n rX10_rain_0 rfl ?_
  refine w_iload_n rX10_rain_1 rfl ?_
  refine w_iconst rX10_rain_2 (x := 0) (by decide) ?_
  refine w_iconst rX10_rain_3 (x := 2) (by decide) ?_
  refine w_invokestatic rX10_rain_4 rfl rfl rfl (Nat.le_of_ble_eq_true rfl) ⟨trivial, trivial, trivial, trivial⟩ trivial (by decide) (by decide) ?_
  refine s_X10_isIn ?_
  show WP mX10_rain 7 _ _ _ 0 0 _
  have j7 : ∀ s7_1 : Int32, s7_1 = (if (f_X10_isIn gauge 0 2) = 0 then 1 else (if (f_X10_isIn hour 0 200) = 0 then 2 else (if (f_X10_isIn mm 0 500) = 0 then 2 else 0 : Int32) : Int32) : Int32) → WP mX10_rain 41 [some (.ref 498), some (.int gauge), some (.int hour), some (.int mm), none, none] [.int s7_1, .ref 498] (G X I L F) 0 0 Q := by
    intro s7_1 es7_1
    replace q := q s7_1 es7_1
    refine w_invokevirtual rX10_rain_41 rfl rfl rfl (Nat.le_of_ble_eq_true rfl) ⟨trivial, trivial, trivial⟩ (G_is (by decide) rfl) (by decide) (by decide) ?_
    refine s_X10_holds ?_
    show WP mX10_rain 44 _ _ _ 0 0 _
    refine w_ifne rX10_rain_44 (fun h44 => ?_) (fun h44 => ?_)
    · replace q := q.2 h44
      refine w_aload_n rX10_rain_49 rfl ?_
      refine w_getR rX10_rain_50 rfl rfl (G_is (by decide) rfl) (x := 507) rfl ?_
      refine w_sipush rX10_rain_53 (x := 201) (by decide) ?_
      refine w_iload_n rX10_rain_56 rfl ?_
      refine w_imul rX10_rain_57 ?_
      refine w_iload_n rX10_rain_58 rfl ?_
      refine w_iadd rX10_rain_59 ?_
      have h60 := q.1
      replace q := q.2
      refine x_iaload rX10_rain_60 (G_at (by decide) rfl rfl h60) ?_
      refine w_istore rX10_rain_61 rfl trivial ?_
      refine w_iload rX10_rain_63 rfl ?_
      refine w_iload_n rX10_rain_65 rfl ?_
      refine w_icmpeq rX10_rain_66 (fun h66 => ?_) (fun h66 => ?_)
      · replace q := q.1 h66
        refine w_iload rX10_rain_155 rfl ?_
        refine w_ireturn rX10_rain_157 trivial ?_
        exact q
      · replace q := q.2 h66
        refine w_aload_n rX10_rain_69 rfl ?_
        refine w_dup rX10_rain_70 trivial ?_
        refine x_getI rX10_rain_71 rfl rfl (G_is (by decide) rfl) ?_
        refine w_iconst rX10_rain_74 (x := 1) (by decide) ?_
        refine w_iadd rX10_rain_75 ?_
        refine x_putI rX10_rain_76 rfl (G_is (by decide) rfl) trivial ?_
        refine w_aload_n rX10_rain_79 rfl ?_
        refine w_getR rX10_rain_80 rfl rfl (G_is (by decide) rfl) (x := 507) rfl ?_
        refine w_sipush rX10_rain_83 (x := 201) (by decide) ?_
        refine w_iload_n rX10_rain_86 rfl ?_
        refine w_imul rX10_rain_87 ?_
        refine w_iload_n rX10_rain_88 rfl ?_
        refine w_iadd rX10_rain_89 ?_
        refine w_iload_n rX10_rain_90 rfl ?_
        have h91 := q.1
        replace q := q.2
        refine x_iastore rX10_rain_91 (G_at (by decide) rfl rfl h91) ?_
        refine w_aload_n rX10_rain_92 rfl ?_
        refine w_getR rX10_rain_93 rfl rfl (G_is (by decide) rfl) (x := 508) rfl ?_
        refine w_sipush rX10_rain_96 (x := 201) (by decide) ?_
        refine w_iload_n rX10_rain_99 rfl ?_
        refine w_imul rX10_rain_100 ?_
        refine w_iload_n rX10_rain_101 rfl ?_
        refine w_iadd rX10_rain_102 ?_
        refine w_aload_n rX10_rain_103 rfl ?_
        refine x_getI rX10_rain_104 rfl rfl (G_is (by decide) rfl) ?_
        rw [au_ne (f := (am_u (fI_X10_holds s7_1 I) 498 14 (((fI_X10_holds s7_1 I) 498 14) + 1))) (o := 507) (k := (Int32.toNatClampNeg ((201 * gauge) + hour))) (a := 498) (b := 14) (fun z => absurd z.1 (by decide))]
        rw [am_u_eq (f := (fI_X10_holds s7_1 I)) (o := 498) (k := 14)]
        have h107 := q.1
        replace q := q.2
        refine x_iastore rX10_rain_107 (G_at (by decide) rfl rfl h107) ?_
        refine w_iconst rX10_rain_108 (x := 0) (by decide) ?_
        refine w_istore rX10_rain_109 rfl trivial ?_
        exact q
    · replace q := q.1 h44
      refine w_iconst rX10_rain_47 (x := 0) (by decide) ?_
      refine w_ireturn rX10_rain_48 trivial ?_
      exact q
  refine w_ifne rX10_rain_7 (fun h7 => ?_) (fun h7 => ?_)
  · skip
    refine w_iload_n rX10_rain_14 rfl ?_
    refine w_iconst rX10_rain_15 (x := 0) (by decide) ?_
    refine w_sipush rX10_rain_16 (x := 200) (by decide) ?_
    refine w_invokestatic rX10_rain_19 rfl rfl rfl (Nat.le_of_ble_eq_true rfl) ⟨trivial, trivial, trivial, trivial⟩ trivial (by decide) (by decide) ?_
    refine s_X10_isIn ?_
    show WP mX10_rain 22 _ _ _ 0 0 _
    refine w_ifeq rX10_rain_22 (fun h22 => ?_) (fun h22 => ?_)
    · skip
      refine w_iconst rX10_rain_40 (x := 2) (by decide) ?_
      exact j7 _ ((if_neg h7).trans (if_pos h22)).symm
    · skip
      refine w_iload_n rX10_rain_25 rfl ?_
      refine w_iconst rX10_rain_26 (x := 0) (by decide) ?_
      refine w_sipush rX10_rain_27 (x := 500) (by decide) ?_
      refine w_invokestatic rX10_rain_30 rfl rfl rfl (Nat.le_of_ble_eq_true rfl) ⟨trivial, trivial, trivial, trivial⟩ trivial (by decide) (by decide) ?_
      refine s_X10_isIn ?_
      show WP mX10_rain 33 _ _ _ 0 0 _
      refine w_ifeq rX10_rain_33 (fun h33 => ?_) (fun h33 => ?_)
      · skip
        refine w_iconst rX10_rain_40 (x := 2) (by decide) ?_
        exact j7 _ (((if_neg h7).trans (if_neg h22)).trans (if_pos h33)).symm
      · skip
        refine w_iconst rX10_rain_36 (x := 0) (by decide) ?_
        refine w_goto rX10_rain_37 ?_
        exact j7 _ (((if_neg h7).trans (if_neg h22)).trans (if_neg h33)).symm
  · skip
    refine w_iconst rX10_rain_10 (x := 1) (by decide) ?_
    refine w_goto rX10_rain_11 ?_
    exact j7 _ (if_pos h7).symm
theorem k_X10_rain_111 {X : Nat × (Nat → Int32)} {I : Nat → Nat → Int32} {L : Nat → Nat → Int64} {F : Nat → Nat → UInt32} {Q : AQ} {x1 : Int32} {x2 : Int32} {x3 : Int32} {x4 : Int32} {x5 : Int32} (q : ((I 498 5) ≤ x5 → Q (.inl (some (.int x4))) (G X I L F)) ∧ (¬ (I 498 5) ≤ x5 → vp_in x5 60 ∧ ((((I 510 (Int32.toNatClampNeg x5)) ≤ x2 → vp_in x5 60 ∧ (True))) ∧ (∀ s134_2 : Int32, s134_2 = (if (I 510 (Int32.toNatClampNeg x5)) ≤ x2 then (I 510 (Int32.toNatClampNeg x5)) else x2 : Int32) → (vp_in x5 60 ∧ (WP mX10_rain 111 [some (.ref 498), some (.int x1), some (.int x2), some (.int x3), some (.int x4), some (.int (x5 + 1))] [] (G X (am_u I 510 (Int32.toNatClampNeg x5) s134_2) L F) 0 0 Q)))))) : WP mX10_rain 111 [some (.ref 498), some (.int x1), some (.int x2), some (.int x3), some (.int x4), some (.int x5)] [] (G X I L F) 0 0 Q := by
  refine w_iload rX10_rain_111 rfl ?_
  refine w_aload_n rX10_rain_113 rfl ?_
  refine x_getI rX10_rain_114 rfl rfl (G_is (by decide) rfl) ?_
  refine w_icmpge rX10_rain_117 (fun h117 => ?_) (fun h117 => ?_)
  · replace q := q.1 h117
    refine w_iload rX10_rain_155 rfl ?_
    refine w_ireturn rX10_rain_157 trivial ?_
    exact q
  · replace q := q.2 h117
    refine w_aload_n rX10_rain_120 rfl ?_
    refine w_getR rX10_rain_121 rfl rfl (G_is (by decide) rfl) (x := 510) rfl ?_
    refine w_iload rX10_rain_124 rfl ?_
    refine w_aload_n rX10_rain_126 rfl ?_
    refine w_getR rX10_rain_127 rfl rfl (G_is (by decide) rfl) (x := 510) rfl ?_
    refine w_iload rX10_rain_130 rfl ?_
    have h132 := q.1
    replace q := q.2
    refine x_iaload rX10_rain_132 (G_at (by decide) rfl rfl h132) ?_
    refine w_iload_n rX10_rain_133 rfl ?_
    have j134 : ∀ s134_2 : Int32, s134_2 = (if (I 510 (Int32.toNatClampNeg x5)) ≤ x2 then (I 510 (Int32.toNatClampNeg x5)) else x2 : Int32) → WP mX10_rain 148 [some (.ref 498), some (.int x1), some (.int x2), some (.int x3), some (.int x4), some (.int x5)] [.int s134_2, .int x5, .ref 510] (G X I L F) 0 0 Q := by
      intro s134_2 es134_2
      replace q := q.2
      replace q := q s134_2 es134_2
      have h148 := q.1
      replace q := q.2
      refine x_iastore rX10_rain_148 (G_at (by decide) rfl rfl h148) ?_
      refine w_iinc rX10_rain_149 rfl rfl trivial ?_
      refine w_goto rX10_rain_152 ?_
      exact q
    replace q := q.1
    refine w_icmple rX10_rain_134 (fun h134 => ?_) (fun h134 => ?_)
    · replace q := q h134
      refine w_aload_n rX10_rain_141 rfl ?_
      refine w_getR rX10_rain_142 rfl rfl (G_is (by decide) rfl) (x := 510) rfl ?_
      refine w_iload rX10_rain_145 rfl ?_
      have h147 := q.1
      replace q := q.2
      refine x_iaload rX10_rain_147 (G_at (by decide) rfl rfl h147) ?_
      exact j134 _ (if_pos h134).symm
    · skip
      refine w_iload_n rX10_rain_137 rfl ?_
      refine w_goto rX10_rain_138 ?_
      exact j134 _ (if_neg h134).symm
theorem k_X10_closure_0 {X : Nat × (Nat → Int32)} {I : Nat → Nat → Int32} {L : Nat → Nat → Int64} {F : Nat → Nat → UInt32} {Q : AQ} {ver : Int32} (q : WP mX10_closure 7 [some (.ref 498), some (.int ver), some (.long ((1 : Int64) <<< ((Int32.toInt64 ver) &&& 63 : Int64))), none, some (.int ver), none, none] [] (G X I L F) 0 0 Q) : WP mX10_closure 0 (am_ent 7 [.ref 498, .int ver]) [] (G X I L F) 0 0 Q := by
  refine w_lconst rX10_closure_0 (x := 1) (by decide) ?_
  refine w_iload_n rX10_closure_1 rfl ?_
  refine w_lshl rX10_closure_2 ?_
  refine w_lstore_n rX10_closure_3 rfl trivial ?_
  refine w_iload_n rX10_closure_4 rfl ?_
  refine w_istore rX10_closure_5 rfl trivial ?_
  exact q
theorem k_X10_closure_7 {X : Nat × (Nat → Int32)} {I : Nat → Nat → Int32} {L : Nat → Nat → Int64} {F : Nat → Nat → UInt32} {Q : AQ} {x1 : Int32} {z2 : Int64} {x4 : Int32} {d5 : Option Value} {d6 : Option Value} (q : (x4 < 0 → Q (.inl (some (.long z2))) (G X I L F)) ∧ (¬ x4 < 0 → WP mX10_closure 15 [some (.ref 498), some (.int x1), some (.long z2), none, some (.int x4), some (.int 0), d6] [] (G X I L F) 0 0 Q)) : WP mX10_closure 7 [some (.ref 498), some (.int x1), some (.long z2), none, some (.int x4), d5, d6] [] (G X I L F) 0 0 Q := by
  refine w_iload rX10_closure_7 rfl ?_
  refine w_iflt rX10_closure_9 (fun h9 => ?_) (fun h9 => ?_)
  · replace q := q.1 h9
    refine w_lload_n rX10_closure_77 rfl ?_
    refine w_lreturn rX10_closure_78 ?_
    exact q
  · replace q := q.2 h9
    refine w_iconst rX10_closure_12 (x := 0) (by decide) ?_
    refine w_istore rX10_closure_13 rfl trivial ?_
    exact q
theorem k_X10_closure_15 {X : Nat × (Nat → Int32)} {I : Nat → Nat → Int32} {L : Nat → Nat → Int64} {F : Nat → Nat → UInt32} {Q : AQ} {x1 : Int32} {z2 : Int64} {x4 : Int32} {x5 : Int32} {d6 : Option Value} (q : (6 ≤ x5 → WP mX10_closure 7 [some (.ref 498), some (.int x1), some (.long z2), none, some (.int (x4 + (-1))), some (.int x5), d6] [] (G X I L F) 0 0 Q) ∧ (¬ 6 ≤ x5 → ((lg_cmp (((z2 : Int64) >>> ((Int32.toInt64 x4) &&& 63 : Int64)) &&& 1) 1) = 0 → vp_in ((6 * x4) + x5) 360 ∧ (∀ s52_1 : Int64, s52_1 = (if (I 504 (Int32.toNatClampNeg ((6 * x4) + x5))) = (-1) then 0 else ((1 : Int64) <<< ((Int32.toInt64 (I 504 (Int32.toNatClampNeg ((6 * x4) + x5)))) &&& 63 : Int64)) : Int64) → (WP mX10_closure 15 [some (.ref 498), some (.int x1), some (.long (z2 ||| s52_1)), none, some (.int x4), some (.int (x5 + 1)), some (.int (I 504 (Int32.toNatClampNeg ((6 * x4) + x5))))] [] (G X I L F) 0 0 Q))) ∧ (¬ (lg_cmp (((z2 : Int64) >>> ((Int32.toInt64 x4) &&& 63 : Int64)) &&& 1) 1) = 0 → WP mX10_closure 7 [some (.ref 498), some (.int x1), some (.long z2), none, some (.int (x4 + (-1))), some (.int x5), d6] [] (G X I L F) 0 0 Q))) : WP mX10_closure 15 [some (.ref 498), some (.int x1), some (.long z2), none, some (.int x4), some (.int x5), d6] [] (G X I L F) 0 0 Q := by
  refine w_iload rX10_closure_15 rfl ?_
  refine w_bipush rX10_closure_17 (x := 6) (by decide) ?_
  refine w_icmpge rX10_closure_19 (fun h19 => ?_) (fun h19 => ?_)
  · replace q := q.1 h19
    refine w_iinc rX10_closure_71 rfl rfl trivial ?_
    refine w_goto rX10_closure_74 ?_
    exact q
  · replace q := q.2 h19
    refine w_lload_n rX10_closure_22 rfl ?_
    refine w_iload rX10_closure_23 rfl ?_
    refine w_lshr rX10_closure_25 ?_
    refine w_lconst rX10_closure_26 (x := 1) (by decide) ?_
    refine w_land rX10_closure_27 ?_
    refine w_lconst rX10_closure_28 (x := 1) (by decide) ?_
    refine w_lcmp rX10_closure_29 ?_
    refine w_ifne rX10_closure_30 (fun h30 => ?_) (fun h30 => ?_)
    · replace q := q.2 h30
      refine w_iinc rX10_closure_71 rfl rfl trivial ?_
      refine w_goto rX10_closure_74 ?_
      exact q
    · replace q := q.1 h30
      refine w_aload_n rX10_closure_33 rfl ?_
      refine w_getR rX10_closure_34 rfl rfl (G_is (by decide) rfl) (x := 504) rfl ?_
      refine w_bipush rX10_closure_37 (x := 6) (by decide) ?_
      refine w_iload rX10_closure_39 rfl ?_
      refine w_imul rX10_closure_41 ?_
      refine w_iload rX10_closure_42 rfl ?_
      refine w_iadd rX10_closure_44 ?_
      have h45 := q.1
      replace q := q.2
      refine x_iaload rX10_closure_45 (G_at (by decide) rfl rfl h45) ?_
      refine w_istore rX10_closure_46 rfl trivial ?_
      refine w_lload_n rX10_closure_48 rfl ?_
      refine w_iload rX10_closure_49 rfl ?_
      refine w_iconst rX10_closure_51 (x := -1) (by decide) ?_
      have j52 : ∀ s52_1 : Int64, s52_1 = (if (I 504 (Int32.toNatClampNeg ((6 * x4) + x5))) = (-1) then 0 else ((1 : Int64) <<< ((Int32.toInt64 (I 504 (Int32.toNatClampNeg ((6 * x4) + x5)))) &&& 63 : Int64)) : Int64) → WP mX10_closure 63 [some (.ref 498), some (.int x1), some (.long z2), none, some (.int x4), some (.int x5), some (.int (I 504 (Int32.toNatClampNeg ((6 * x4) + x5))))] [.long s52_1, .long z2] (G X I L F) 0 0 Q := by
        intro s52_1 es52_1
        replace q := q s52_1 es52_1
        refine w_lor rX10_closure_63 ?_
        refine w_lstore_n rX10_closure_64 rfl trivial ?_
        refine w_iinc rX10_closure_65 rfl rfl trivial ?_
        refine w_goto rX10_closure_68 ?_
        exact q
      refine w_icmpne rX10_closure_52 (fun h52 => ?_) (fun h52 => ?_)
      · skip
        refine w_lconst rX10_closure_59 (x := 1) (by decide) ?_
        refine w_iload rX10_closure_60 rfl ?_
        refine w_lshl rX10_closure_62 ?_
        exact j52 _ (if_neg h52).symm
      · skip
        refine w_lconst rX10_closure_55 (x := 0) (by decide) ?_
        refine w_goto rX10_closure_56 ?_
        exact j52 _ (if_pos h52).symm
theorem k_X10_finds_0 {X : Nat × (Nat → Int32)} {I : Nat → Nat → Int32} {L : Nat → Nat → Int64} {F : Nat → Nat → UInt32} {Q : AQ} {ver : Int32} {hour : Int32} (q : vp_in ver 60 ∧ (WP mX10_finds 12 [some (.ref 498), some (.int ver), some (.int hour), some (.int 0)] [] (G X (am_u I 498 46 (I 502 (Int32.toNatClampNeg ver))) L F) 0 0 Q)) : WP mX10_finds 0 (am_ent 4 [.ref 498, .int ver, .int hour]) [] (G X I L F) 0 0 Q := by
  refine w_aload_n rX10_finds_0 rfl ?_
  refine w_aload_n rX10_finds_1 rfl ?_
  refine w_getR rX10_finds_2 rfl rfl (G_is (by decide) rfl) (x := 502) rfl ?_
  refine w_iload_n rX10_finds_5 rfl ?_
  have h6 := q.1
  replace q := q.2
  refine x_iaload rX10_finds_6 (G_at (by decide) rfl rfl h6) ?_
  refine x_putI rX10_finds_7 rfl (G_is (by decide) rfl) trivial ?_
  refine w_iconst rX10_finds_10 (x := 0) (by decide) ?_
  refine w_istore_n rX10_finds_11 rfl trivial ?_
  exact q
theorem k_X10_finds_12 {X : Nat × (Nat → Int32)} {I : Nat → Nat → Int32} {L : Nat → Nat → Int64} {F : Nat → Nat → UInt32} {Q : AQ} {x1 : Int32} {x2 : Int32} {x3 : Int32} (q : ((I 498 46) ≤ x3 → WP mX10_worth 0 (am_ent 7 [.ref 498, .int x1, .int x2]) [] (G X I L F) 0 0 (am_kq mX10_finds 57 [some (.ref 498), some (.int x1), some (.int x2), some (.int x3)] [.int ((201 * x1) + x2), .ref 509] (0 + am_bc mX10_worth) (0 + am_bs mX10_worth) Q)) ∧ (¬ (I 498 46) ≤ x3 → vp_in ((40 * x1) + x3) 2400 ∧ (vp_in x3 40 ∧ (WP mX10_finds 12 [some (.ref 498), some (.int x1), some (.int x2), some (.int (x3 + 1))] [] (G X (am_u I 537 (Int32.toNatClampNeg x3) (I 503 (Int32.toNatClampNeg ((40 * x1) + x3)))) L F) 0 0 Q)))) : WP mX10_finds 12 [some (.ref 498), some (.int x1), some (.int x2), some (.int x3)] [] (G X I L F) 0 0 Q := by
  refine w_iload_n rX10_finds_12 rfl ?_
  refine w_aload_n rX10_finds_13 rfl ?_
  refine x_getI rX10_finds_14 rfl rfl (G_is (by decide) rfl) ?_
  refine w_icmpge rX10_finds_17 (fun h17 => ?_) (fun h17 => ?_)
  · replace q := q.1 h17
    refine w_aload_n rX10_finds_43 rfl ?_
    refine w_getR rX10_finds_44 rfl rfl (G_is (by decide) rfl) (x := 509) rfl ?_
    refine w_sipush rX10_finds_47 (x := 201) (by decide) ?_
    refine w_iload_n rX10_finds_50 rfl ?_
    refine w_imul rX10_finds_51 ?_
    refine w_iload_n rX10_finds_52 rfl ?_
    refine w_iadd rX10_finds_53 ?_
    refine w_aload_n rX10_finds_54 rfl ?_
    refine w_iload_n rX10_finds_55 rfl ?_
    refine w_iload_n rX10_finds_56 rfl ?_
    refine w_invokevirtual rX10_finds_57 rfl rfl rfl (Nat.le_of_ble_eq_true rfl) ⟨trivial, trivial, trivial, trivial⟩ (G_is (by decide) rfl) (by decide) (by decide) ?_
    exact q
  · replace q := q.2 h17
    refine w_aload_n rX10_finds_20 rfl ?_
    refine w_getR rX10_finds_21 rfl rfl (G_is (by decide) rfl) (x := 537) rfl ?_
    refine w_iload_n rX10_finds_24 rfl ?_
    refine w_aload_n rX10_finds_25 rfl ?_
    refine w_getR rX10_finds_26 rfl rfl (G_is (by decide) rfl) (x := 503) rfl ?_
    refine w_bipush rX10_finds_29 (x := 40) (by decide) ?_
    refine w_iload_n rX10_finds_31 rfl ?_
    refine w_imul rX10_finds_32 ?_
    refine w_iload_n rX10_finds_33 rfl ?_
    refine w_iadd rX10_finds_34 ?_
    have h35 := q.1
    replace q := q.2
    refine x_iaload rX10_finds_35 (G_at (by decide) rfl rfl h35) ?_
    have h36 := q.1
    replace q := q.2
    refine x_iastore rX10_finds_36 (G_at (by decide) rfl rfl h36) ?_
    refine w_iinc rX10_finds_37 rfl rfl trivial ?_
    refine w_goto rX10_finds_40 ?_
    exact q
theorem k_X10_finds_60 {X : Nat × (Nat → Int32)} {I : Nat → Nat → Int32} {L : Nat → Nat → Int64} {F : Nat → Nat → UInt32} {Q : AQ} {x1 : Int32} {x2 : Int32} {x3 : Int32} {e1 : Int32} {e2 : UInt32} (q : vp_in e1 12060 ∧ (vp_in x1 60 ∧ (Q (.inl none) (G X (am_u I 510 (Int32.toNatClampNeg x1) (x2 + 1)) L (am_u F 509 (Int32.toNatClampNeg e1) e2))))) : WP mX10_finds 60 [some (.ref 498), some (.int x1), some (.int x2), some (.int x3)] [.float e2, .int e1, .ref 509] (G X I L F) 0 0 Q := by
  have h60 := q.1
  replace q := q.2
  refine x_fastore rX10_finds_60 (G_at (by decide) rfl rfl h60) ?_
  refine w_aload_n rX10_finds_61 rfl ?_
  refine w_getR rX10_finds_62 rfl rfl (G_is (by decide) rfl) (x := 510) rfl ?_
  refine w_iload_n rX10_finds_65 rfl ?_
  refine w_iload_n rX10_finds_66 rfl ?_
  refine w_iconst rX10_finds_67 (x := 1) (by decide) ?_
  refine w_iadd rX10_finds_68 ?_
  have h69 := q.1
  replace q := q.2
  refine x_iastore rX10_finds_69 (G_at (by decide) rfl rfl h69) ?_
  refine w_return rX10_finds_70 ?_
  exact q
theorem k_X10_outOf_0 {X : Nat × (Nat → Int32)} {I : Nat → Nat → Int32} {L : Nat → Nat → Int64} {F : Nat → Nat → UInt32} {Q : AQ} {ver : Int32} {hour : Int32} (q : vp_in ver 60 ∧ (((I 510 (Int32.toNatClampNeg ver)) ≤ hour → WP mX10_closure 0 (am_ent 7 [.ref 498, .int ver]) [] (G X I L F) 0 0 (am_kq mX10_outOf 16 [some (.ref 498), some (.int ver), some (.int hour), none, none, none, none] [] (0 + am_bc mX10_closure) (0 + am_bs mX10_closure) Q)) ∧ (¬ (I 510 (Int32.toNatClampNeg ver)) ≤ hour → WP mX10_outOf 19 [some (.ref 498), some (.int ver), some (.int hour), none, none, none, none] [.long 0] (G X I L F) 0 0 Q))) : WP mX10_outOf 0 (am_ent 7 [.ref 498, .int ver, .int hour]) [] (G X I L F) 0 0 Q := by
  refine w_aload_n rX10_outOf_0 rfl ?_
  refine w_getR rX10_outOf_1 rfl rfl (G_is (by decide) rfl) (x := 510) rfl ?_
  refine w_iload_n rX10_outOf_4 rfl ?_
  have h5 := q.1
  replace q := q.2
  refine x_iaload rX10_outOf_5 (G_at (by decide) rfl rfl h5) ?_
  refine w_iload_n rX10_outOf_6 rfl ?_
  refine w_icmple rX10_outOf_7 (fun h7 => ?_) (fun h7 => ?_)
  · replace q := q.1 h7
    refine w_aload_n rX10_outOf_14 rfl ?_
    refine w_iload_n rX10_outOf_15 rfl ?_
    refine w_invokevirtual rX10_outOf_16 rfl rfl rfl (Nat.le_of_ble_eq_true rfl) ⟨trivial, trivial, trivial⟩ (G_is (by decide) rfl) (by decide) (by decide) ?_
    exact q
  · replace q := q.2 h7
    refine w_lconst rX10_outOf_10 (x := 0) (by decide) ?_
    refine w_goto rX10_outOf_11 ?_
    exact q
theorem k_X10_outOf_19 {X : Nat × (Nat → Int32)} {I : Nat → Nat → Int32} {L : Nat → Nat → Int64} {F : Nat → Nat → UInt32} {Q : AQ} {x1 : Int32} {x2 : Int32} {e0 : Int64} (q : WP mX10_outOf 23 [some (.ref 498), some (.int x1), some (.int x2), some (.long e0), none, some (.int 0), none] [] (G X I L F) 0 0 Q) : WP mX10_outOf 19 [some (.ref 498), some (.int x1), some (.int x2), none, none, none, none] [.long e0] (G X I L F) 0 0 Q := by
  refine w_lstore_n rX10_outOf_19 rfl trivial ?_
  refine w_iconst rX10_outOf_20 (x := 0) (by decide) ?_
  refine w_istore rX10_outOf_21 rfl trivial ?_
  exact q
theorem k_X10_outOf_23 {X : Nat × (Nat → Int32)} {I : Nat → Nat → Int32} {L : Nat → Nat → Int64} {F : Nat → Nat → UInt32} {Q : AQ} {x1 : Int32} {x2 : Int32} {z3 : Int64} {x5 : Int32} {d6 : Option Value} (q : (x2 < x5 → vp_in ((201 * x1) + x2) 12060 ∧ (Q (.inl (some (.float (F 509 (Int32.toNatClampNeg ((201 * x1) + x2)))))) (G X I L F))) ∧ (¬ x2 < x5 → ((lg_cmp z3 0) = 0 → vp_in ((201 * x1) + x2) 12060 ∧ (Q (.inl (some (.float (F 509 (Int32.toNatClampNeg ((201 * x1) + x2)))))) (G X I L F))) ∧ (¬ (lg_cmp z3 0) = 0 → WP mX10_outOf 38 [some (.ref 498), some (.int x1), some (.int x2), some (.long z3), none, some (.int x5), some (.int 0)] [] (G X I L F) 0 0 Q))) : WP mX10_outOf 23 [some (.ref 498), some (.int x1), some (.int x2), some (.long z3), none, some (.int x5), d6] [] (G X I L F) 0 0 Q := by
  refine w_iload rX10_outOf_23 rfl ?_
  refine w_iload_n rX10_outOf_25 rfl ?_
  refine w_icmpgt rX10_outOf_26 (fun h26 => ?_) (fun h26 => ?_)
  · replace q := q.1 h26
    refine w_aload_n rX10_outOf_87 rfl ?_
    refine w_getR rX10_outOf_88 rfl rfl (G_is (by decide) rfl) (x := 509) rfl ?_
    refine w_sipush rX10_outOf_91 (x := 201) (by decide) ?_
    refine w_iload_n rX10_outOf_94 rfl ?_
    refine w_imul rX10_outOf_95 ?_
    refine w_iload_n rX10_outOf_96 rfl ?_
    refine w_iadd rX10_outOf_97 ?_
    have h98 := q.1
    replace q := q.2
    refine x_faload rX10_outOf_98 (G_at (by decide) rfl rfl h98) ?_
    refine w_freturn rX10_outOf_99 ?_
    exact q
  · replace q := q.2 h26
    refine w_lload_n rX10_outOf_29 rfl ?_
    refine w_lconst rX10_outOf_30 (x := 0) (by decide) ?_
    refine w_lcmp rX10_outOf_31 ?_
    refine w_ifeq rX10_outOf_32 (fun h32 => ?_) (fun h32 => ?_)
    · replace q := q.1 h32
      refine w_aload_n rX10_outOf_87 rfl ?_
      refine w_getR rX10_outOf_88 rfl rfl (G_is (by decide) rfl) (x := 509) rfl ?_
      refine w_sipush rX10_outOf_91 (x := 201) (by decide) ?_
      refine w_iload_n rX10_outOf_94 rfl ?_
      refine w_imul rX10_outOf_95 ?_
      refine w_iload_n rX10_outOf_96 rfl ?_
      refine w_iadd rX10_outOf_97 ?_
      have h98 := q.1
      replace q := q.2
      refine x_faload rX10_outOf_98 (G_at (by decide) rfl rfl h98) ?_
      refine w_freturn rX10_outOf_99 ?_
      exact q
    · replace q := q.2 h32
      refine w_iconst rX10_outOf_35 (x := 0) (by decide) ?_
      refine w_istore rX10_outOf_36 rfl trivial ?_
      exact q
theorem k_X10_outOf_38 {X : Nat × (Nat → Int32)} {I : Nat → Nat → Int32} {L : Nat → Nat → Int64} {F : Nat → Nat → UInt32} {Q : AQ} {x1 : Int32} {x2 : Int32} {z3 : Int64} {x5 : Int32} {x6 : Int32} (q : (x1 < x6 → WP mX10_outOf 23 [some (.ref 498), some (.int x1), some (.int x2), some (.long z3), none, some (.int (x5 + 1)), some (.int x6)] [] (G X I L F) 0 0 Q) ∧ (¬ x1 < x6 → ((lg_cmp (((z3 : Int64) >>> ((Int32.toInt64 x6) &&& 63 : Int64)) &&& 1) 1) = 0 → vp_in x6 60 ∧ (((I 510 (Int32.toNatClampNeg x6)) = x5 → WP mX10_finds 0 (am_ent 4 [.ref 498, .int x6, .int x5]) [] (G X I L F) 0 0 (am_kq mX10_outOf 72 [some (.ref 498), some (.int x1), some (.int x2), some (.long z3), none, some (.int x5), some (.int x6)] [] (0 + am_bc mX10_finds) (0 + am_bs mX10_finds) Q)) ∧ (¬ (I 510 (Int32.toNatClampNeg x6)) = x5 → WP mX10_outOf 75 [some (.ref 498), some (.int x1), some (.int x2), some (.long z3), none, some (.int x5), some (.int x6)] [] (G X I L F) 0 0 Q))) ∧ (¬ (lg_cmp (((z3 : Int64) >>> ((Int32.toInt64 x6) &&& 63 : Int64)) &&& 1) 1) = 0 → WP mX10_outOf 75 [some (.ref 498), some (.int x1), some (.int x2), some (.long z3), none, some (.int x5), some (.int x6)] [] (G X I L F) 0 0 Q))) : WP mX10_outOf 38 [some (.ref 498), some (.int x1), some (.int x2), some (.long z3), none, some (.int x5), some (.int x6)] [] (G X I L F) 0 0 Q := by
  refine w_iload rX10_outOf_38 rfl ?_
  refine w_iload_n rX10_outOf_40 rfl ?_
  refine w_icmpgt rX10_outOf_41 (fun h41 => ?_) (fun h41 => ?_)
  · replace q := q.1 h41
    refine w_iinc rX10_outOf_81 rfl rfl trivial ?_
    refine w_goto rX10_outOf_84 ?_
    exact q
  · replace q := q.2 h41
    refine w_lload_n rX10_outOf_44 rfl ?_
    refine w_iload rX10_outOf_45 rfl ?_
    refine w_lshr rX10_outOf_47 ?_
    refine w_lconst rX10_outOf_48 (x := 1) (by decide) ?_
    refine w_land rX10_outOf_49 ?_
    refine w_lconst rX10_outOf_50 (x := 1) (by decide) ?_
    refine w_lcmp rX10_outOf_51 ?_
    refine w_ifne rX10_outOf_52 (fun h52 => ?_) (fun h52 => ?_)
    · replace q := q.2 h52
      exact q
    · replace q := q.1 h52
      refine w_aload_n rX10_outOf_55 rfl ?_
      refine w_getR rX10_outOf_56 rfl rfl (G_is (by decide) rfl) (x := 510) rfl ?_
      refine w_iload rX10_outOf_59 rfl ?_
      have h61 := q.1
      replace q := q.2
      refine x_iaload rX10_outOf_61 (G_at (by decide) rfl rfl h61) ?_
      refine w_iload rX10_outOf_62 rfl ?_
      refine w_icmpne rX10_outOf_64 (fun h64 => ?_) (fun h64 => ?_)
      · replace q := q.2 h64
        exact q
      · replace q := q.1 h64
        refine w_aload_n rX10_outOf_67 rfl ?_
        refine w_iload rX10_outOf_68 rfl ?_
        refine w_iload rX10_outOf_70 rfl ?_
        refine w_invokevirtual rX10_outOf_72 rfl rfl rfl (Nat.le_of_ble_eq_true rfl) ⟨trivial, trivial, trivial, trivial⟩ (G_is (by decide) rfl) (by decide) (by decide) ?_
        exact q
theorem k_X10_outOf_75 {X : Nat × (Nat → Int32)} {I : Nat → Nat → Int32} {L : Nat → Nat → Int64} {F : Nat → Nat → UInt32} {Q : AQ} {x1 : Int32} {x2 : Int32} {z3 : Int64} {x5 : Int32} {x6 : Int32} (q : WP mX10_outOf 38 [some (.ref 498), some (.int x1), some (.int x2), some (.long z3), none, some (.int x5), some (.int (x6 + 1))] [] (G X I L F) 0 0 Q) : WP mX10_outOf 75 [some (.ref 498), some (.int x1), some (.int x2), some (.long z3), none, some (.int x5), some (.int x6)] [] (G X I L F) 0 0 Q := by
  refine w_iinc rX10_outOf_75 rfl rfl trivial ?_
  refine w_goto rX10_outOf_78 ?_
  exact q
theorem k_X10_out_0 {X : Nat × (Nat → Int32)} {I : Nat → Nat → Int32} {L : Nat → Nat → Int64} {F : Nat → Nat → UInt32} {Q : AQ} {ver : Int32} {hour : Int32} (q : ((f_X10_isAsked ver hour I) = 0 → Q (.inl (some (.int 0))) (G X (fI_X10_isAsked ver hour I) L F)) ∧ (¬ (f_X10_isAsked ver hour I) = 0 → WP mX10_outOf 0 (am_ent 7 [.ref 498, .int ver, .int hour]) [] (G X (fI_X10_isAsked ver hour I) L F) 0 0 (am_kq mX10_out 12 [some (.ref 498), some (.int ver), some (.int hour)] [] (0 + am_bc mX10_outOf) (0 + am_bs mX10_outOf) Q))) : WP mX10_out 0 (am_ent 3 [.ref 498, .int ver, .int hour]) [] (G X I L F) 0 0 Q := by
  refine w_aload_n rX10_out_0 rfl ?_
  refine w_iload_n rX10_out_1 rfl ?_
  refine w_iload_n rX10_out_2 rfl ?_
  refine w_invokevirtual rX10_out_3 rfl rfl rfl (Nat.le_of_ble_eq_true rfl) ⟨trivial, trivial, trivial, trivial⟩ (G_is (by decide) rfl) (by decide) (by decide) ?_
  refine s_X10_isAsked ?_
  show WP mX10_out 6 _ _ _ 0 0 _
  refine w_ifeq rX10_out_6 (fun h6 => ?_) (fun h6 => ?_)
  · replace q := q.1 h6
    refine w_iconst rX10_out_21 (x := 0) (by decide) ?_
    refine w_ireturn rX10_out_22 trivial ?_
    exact q
  · replace q := q.2 h6
    refine w_aload_n rX10_out_9 rfl ?_
    refine w_iload_n rX10_out_10 rfl ?_
    refine w_iload_n rX10_out_11 rfl ?_
    refine w_invokevirtual rX10_out_12 rfl rfl rfl (Nat.le_of_ble_eq_true rfl) ⟨trivial, trivial, trivial, trivial⟩ (G_is (by decide) rfl) (by decide) (by decide) ?_
    exact q
theorem k_X10_out_15 {X : Nat × (Nat → Int32)} {I : Nat → Nat → Int32} {L : Nat → Nat → Int64} {F : Nat → Nat → UInt32} {Q : AQ} {x1 : Int32} {x2 : Int32} {e0 : UInt32} (q : Q (.inl (some (.int (f_Jxf58ca_floatToIntBits_5c35a e0)))) (G X I L F)) : WP mX10_out 15 [some (.ref 498), some (.int x1), some (.int x2)] [.float e0] (G X I L F) 0 0 Q := by
  refine w_invokestatic rX10_out_15 rfl rfl rfl (Nat.le_of_ble_eq_true rfl) ⟨trivial, trivial⟩ trivial (by decide) (by decide) ?_
  refine s_Jxf58ca_floatToIntBits_5c35a ?_
  show WP mX10_out 18 _ _ _ 0 0 _
  refine w_goto rX10_out_18 ?_
  refine w_ireturn rX10_out_22 trivial ?_
  exact q
theorem k_X10_outAnew_0 {X : Nat × (Nat → Int32)} {I : Nat → Nat → Int32} {L : Nat → Nat → Int64} {F : Nat → Nat → UInt32} {Q : AQ} {ver : Int32} {hour : Int32} (q : ((f_X10_isAsked ver hour I) = 0 → Q (.inl (some (.int 0))) (G X (fI_X10_isAsked ver hour I) L F)) ∧ (¬ (f_X10_isAsked ver hour I) = 0 → WP mX10_outOf 0 (am_ent 7 [.ref 498, .int ver, .int hour]) [] (G X (fI_X10_isAsked ver hour I) L F) 0 0 (am_kq mX10_outAnew 12 [some (.ref 498), some (.int ver), some (.int hour)] [] (0 + am_bc mX10_outOf) (0 + am_bs mX10_outOf) Q))) : WP mX10_outAnew 0 (am_ent 3 [.ref 498, .int ver, .int hour]) [] (G X I L F) 0 0 Q := by
  refine w_aload_n rX10_outAnew_0 rfl ?_
  refine w_iload_n rX10_outAnew_1 rfl ?_
  refine w_iload_n rX10_outAnew_2 rfl ?_
  refine w_invokevirtual rX10_outAnew_3 rfl rfl rfl (Nat.le_of_ble_eq_true rfl) ⟨trivial, trivial, trivial, trivial⟩ (G_is (by decide) rfl) (by decide) (by decide) ?_
  refine s_X10_isAsked ?_
  show WP mX10_outAnew 6 _ _ _ 0 0 _
  refine w_ifeq rX10_outAnew_6 (fun h6 => ?_) (fun h6 => ?_)
  · replace q := q.1 h6
    refine w_iconst rX10_outAnew_21 (x := 0) (by decide) ?_
    refine w_ireturn rX10_outAnew_22 trivial ?_
    exact q
  · replace q := q.2 h6
    refine w_aload_n rX10_outAnew_9 rfl ?_
    refine w_iload_n rX10_outAnew_10 rfl ?_
    refine w_iload_n rX10_outAnew_11 rfl ?_
    refine w_invokevirtual rX10_outAnew_12 rfl rfl rfl (Nat.le_of_ble_eq_true rfl) ⟨trivial, trivial, trivial, trivial⟩ (G_is (by decide) rfl) (by decide) (by decide) ?_
    exact q
theorem k_X10_outAnew_15 {X : Nat × (Nat → Int32)} {I : Nat → Nat → Int32} {L : Nat → Nat → Int64} {F : Nat → Nat → UInt32} {Q : AQ} {x1 : Int32} {x2 : Int32} {e0 : UInt32} (q : Q (.inl (some (.int (f_Jxf58ca_floatToIntBits_5c35a e0)))) (G X I L F)) : WP mX10_outAnew 15 [some (.ref 498), some (.int x1), some (.int x2)] [.float e0] (G X I L F) 0 0 Q := by
  refine w_invokestatic rX10_outAnew_15 rfl rfl rfl (Nat.le_of_ble_eq_true rfl) ⟨trivial, trivial⟩ trivial (by decide) (by decide) ?_
  refine s_Jxf58ca_floatToIntBits_5c35a ?_
  show WP mX10_outAnew 18 _ _ _ 0 0 _
  refine w_goto rX10_outAnew_18 ?_
  refine w_ireturn rX10_outAnew_22 trivial ?_
  exact q
theorem k_X10_greatest_0 {X : Nat × (Nat → Int32)} {I : Nat → Nat → Int32} {L : Nat → Nat → Int64} {F : Nat → Nat → UInt32} {Q : AQ} {ver : Int32} {first : Int32} {last : Int32} (q : WP mX10_greatest 8 [some (.ref 498), some (.int ver), some (.int first), some (.int last), some (.int first), some (.int (first + 1))] [] (G X I L F) 0 0 Q) : WP mX10_greatest 0 (am_ent 6 [.ref 498, .int ver, .int first, .int last]) [] (G X I L F) 0 0 Q := by
  refine w_iload_n rX10_greatest_0 rfl ?_
  refine w_istore rX10_greatest_1 rfl trivial ?_
  refine w_iload_n rX10_greatest_3 rfl ?_
  refine w_iconst rX10_greatest_4 (x := 1) (by decide) ?_
  refine w_iadd rX10_greatest_5 ?_
  refine w_istore rX10_greatest_6 rfl trivial ?_
  exact q
theorem k_X10_greatest_8 {X : Nat × (Nat → Int32)} {I : Nat → Nat → Int32} {L : Nat → Nat → Int64} {F : Nat → Nat → UInt32} {Q : AQ} {x1 : Int32} {x2 : Int32} {x3 : Int32} {x4 : Int32} {x5 : Int32} (q : (x3 < x5 → Q (.inl (some (.int x4))) (G X I L F)) ∧ (¬ x3 < x5 → WP mX10_outOf 0 (am_ent 7 [.ref 498, .int x1, .int x5]) [] (G X I L F) 0 0 (am_kq mX10_greatest 18 [some (.ref 498), some (.int x1), some (.int x2), some (.int x3), some (.int x4), some (.int x5)] [] (0 + am_bc mX10_outOf) (0 + am_bs mX10_outOf) Q))) : WP mX10_greatest 8 [some (.ref 498), some (.int x1), some (.int x2), some (.int x3), some (.int x4), some (.int x5)] [] (G X I L F) 0 0 Q := by
  refine w_iload rX10_greatest_8 rfl ?_
  refine w_iload_n rX10_greatest_10 rfl ?_
  refine w_icmpgt rX10_greatest_11 (fun h11 => ?_) (fun h11 => ?_)
  · replace q := q.1 h11
    refine w_iload rX10_greatest_47 rfl ?_
    refine w_ireturn rX10_greatest_49 trivial ?_
    exact q
  · replace q := q.2 h11
    refine w_aload_n rX10_greatest_14 rfl ?_
    refine w_iload_n rX10_greatest_15 rfl ?_
    refine w_iload rX10_greatest_16 rfl ?_
    refine w_invokevirtual rX10_greatest_18 rfl rfl rfl (Nat.le_of_ble_eq_true rfl) ⟨trivial, trivial, trivial, trivial⟩ (G_is (by decide) rfl) (by decide) (by decide) ?_
    exact q
theorem k_X10_greatest_21 {X : Nat × (Nat → Int32)} {I : Nat → Nat → Int32} {L : Nat → Nat → Int64} {F : Nat → Nat → UInt32} {Q : AQ} {x1 : Int32} {x2 : Int32} {x3 : Int32} {x4 : Int32} {x5 : Int32} {e0 : UInt32} (q : WP mX10_outOf 0 (am_ent 7 [.ref 498, .int x1, .int x4]) [] (G X I L F) 0 0 (am_kq mX10_greatest 25 [some (.ref 498), some (.int x1), some (.int x2), some (.int x3), some (.int x4), some (.int x5)] [.float e0] (0 + am_bc mX10_outOf) (0 + am_bs mX10_outOf) Q)) : WP mX10_greatest 21 [some (.ref 498), some (.int x1), some (.int x2), some (.int x3), some (.int x4), some (.int x5)] [.float e0] (G X I L F) 0 0 Q := by
  refine w_aload_n rX10_greatest_21 rfl ?_
  refine w_iload_n rX10_greatest_22 rfl ?_
  refine w_iload rX10_greatest_23 rfl ?_
  refine w_invokevirtual rX10_greatest_25 rfl rfl rfl (Nat.le_of_ble_eq_true rfl) ⟨trivial, trivial, trivial, trivial⟩ (G_is (by decide) rfl) (by decide) (by decide) ?_
  exact q
theorem k_X10_greatest_28 {X : Nat × (Nat → Int32)} {I : Nat → Nat → Int32} {L : Nat → Nat → Int64} {F : Nat → Nat → UInt32} {Q : AQ} {x1 : Int32} {x2 : Int32} {x3 : Int32} {x4 : Int32} {x5 : Int32} {e0 : UInt32} {e1 : UInt32} (q : ∀ s29_0 : Int32, s29_0 = (if (Op.cmpValue (FP.fcmp e0 e1) .l) ≤ 0 then x4 else x5 : Int32) → (WP mX10_greatest 8 [some (.ref 498), some (.int x1), some (.int x2), some (.int x3), some (.int s29_0), some (.int (x5 + 1))] [] (G X I L F) 0 0 Q)) : WP mX10_greatest 28 [some (.ref 498), some (.int x1), some (.int x2), some (.int x3), some (.int x4), some (.int x5)] [.float e1, .float e0] (G X I L F) 0 0 Q := by
  refine w_fcmp rX10_greatest_28 ?_
  have j29 : ∀ s29_0 : Int32, s29_0 = (if (Op.cmpValue (FP.fcmp e0 e1) .l) ≤ 0 then x4 else x5 : Int32) → WP mX10_greatest 39 [some (.ref 498), some (.int x1), some (.int x2), some (.int x3), some (.int x4), some (.int x5)] [.int s29_0] (G X I L F) 0 0 Q := by
    intro s29_0 es29_0
    replace q := q s29_0 es29_0
    refine w_istore rX10_greatest_39 rfl trivial ?_
    refine w_iinc rX10_greatest_41 rfl rfl trivial ?_
    refine w_goto rX10_greatest_44 ?_
    exact q
  refine w_ifle rX10_greatest_29 (fun h29 => ?_) (fun h29 => ?_)
  · skip
    refine w_iload rX10_greatest_37 rfl ?_
    exact j29 _ (if_pos h29).symm
  · skip
    refine w_iload rX10_greatest_32 rfl ?_
    refine w_goto rX10_greatest_34 ?_
    exact j29 _ (if_neg h29).symm
theorem k_X10_run_0 {X : Nat × (Nat → Int32)} {I : Nat → Nat → Int32} {L : Nat → Nat → Int64} {F : Nat → Nat → UInt32} {Q : AQ} {model : Int32} {hours : Int32} (q : ∀ s16_1 : Int32, s16_1 = (if (f_X10_isModel model) = 0 then 1 else (if (f_X10_isIn hours 1 48) = 0 then 2 else (if (I 505 (Int32.toNatClampNeg model)) = (-1) then 3 else (if 200 < ((I 498 1) + hours) then 3 else (if (I 498 17) = 40 then 3 else 0 : Int32) : Int32) : Int32) : Int32) : Int32) → (((f_X10_holds s16_1) = 0 → Q (.inl (some (.int 0))) (G X (fI_X10_holds s16_1 I) L F)) ∧ (¬ (f_X10_holds s16_1) = 0 → vp_in model 6 ∧ (vp_in ((fI_X10_holds s16_1 I) 498 17) 40 ∧ (vp_in ((fI_X10_holds s16_1 I) 498 17) 40 ∧ (vp_in ((fI_X10_holds s16_1 I) 498 17) 40 ∧ (vp_in model 6 ∧ (WP mX10_greatest 0 (am_ent 6 [.ref 498, .int ((fI_X10_holds s16_1 I) 505 (Int32.toNatClampNeg model)), .int ((fI_X10_holds s16_1 I) 498 1), .int (((fI_X10_holds s16_1 I) 498 1) + hours)]) [] (G X (am_u (am_u (am_u (fI_X10_holds s16_1 I) 511 (Int32.toNatClampNeg ((fI_X10_holds s16_1 I) 498 17)) ((fI_X10_holds s16_1 I) 505 (Int32.toNatClampNeg model))) 512 (Int32.toNatClampNeg ((fI_X10_holds s16_1 I) 498 17)) ((fI_X10_holds s16_1 I) 498 1)) 513 (Int32.toNatClampNeg ((fI_X10_holds s16_1 I) 498 17)) (((fI_X10_holds s16_1 I) 498 1) + hours)) L F) 0 0 (am_kq mX10_run 144 [some (.ref 498), some (.int model), some (.int hours), some (.int (f_X10_isModel model)), some (.int (f_X10_isIn hours 1 48))] [.int ((fI_X10_holds s16_1 I) 498 17), .ref 515] (0 + am_bc mX10_greatest) (0 + am_bs mX10_greatest) Q))))))))) : WP mX10_run 0 (am_ent 5 [.ref 498, .int model, .int hours]) [] (G X I L F) 0 0 Q := by
  refine w_iload_n rX10_run_0 rfl ?_
  refine w_invokestatic rX10_run_1 rfl rfl rfl (Nat.le_of_ble_eq_true rfl) ⟨trivial, trivial⟩ trivial (by decide) (by decide) ?_
  refine s_X10_isModel ?_
  show WP mX10_run 4 _ _ _ 0 0 _
  refine w_istore_n rX10_run_4 rfl trivial ?_
  refine w_iload_n rX10_run_5 rfl ?_
  refine w_iconst rX10_run_6 (x := 1) (by decide) ?_
  refine w_bipush rX10_run_7 (x := 48) (by decide) ?_
  refine w_invokestatic rX10_run_9 rfl rfl rfl (Nat.le_of_ble_eq_true rfl) ⟨trivial, trivial, trivial, trivial⟩ trivial (by decide) (by decide) ?_
  refine s_X10_isIn ?_
  show WP mX10_run 12 _ _ _ 0 0 _
  refine w_istore rX10_run_12 rfl trivial ?_
  refine w_aload_n rX10_run_14 rfl ?_
  refine w_iload_n rX10_run_15 rfl ?_
  have j16 : ∀ s16_1 : Int32, s16_1 = (if (f_X10_isModel model) = 0 then 1 else (if (f_X10_isIn hours 1 48) = 0 then 2 else (if (I 505 (Int32.toNatClampNeg model)) = (-1) then 3 else (if 200 < ((I 498 1) + hours) then 3 else (if (I 498 17) = 40 then 3 else 0 : Int32) : Int32) : Int32) : Int32) : Int32) → WP mX10_run 68 [some (.ref 498), some (.int model), some (.int hours), some (.int (f_X10_isModel model)), some (.int (f_X10_isIn hours 1 48))] [.int s16_1, .ref 498] (G X I L F) 0 0 Q := by
    intro s16_1 es16_1
    replace q := q s16_1 es16_1
    refine w_invokevirtual rX10_run_68 rfl rfl rfl (Nat.le_of_ble_eq_true rfl) ⟨trivial, trivial, trivial⟩ (G_is (by decide) rfl) (by decide) (by decide) ?_
    refine s_X10_holds ?_
    show WP mX10_run 71 _ _ _ 0 0 _
    refine w_ifne rX10_run_71 (fun h71 => ?_) (fun h71 => ?_)
    · replace q := q.2 h71
      refine w_aload_n rX10_run_76 rfl ?_
      refine w_getR rX10_run_77 rfl rfl (G_is (by decide) rfl) (x := 511) rfl ?_
      refine w_aload_n rX10_run_80 rfl ?_
      refine x_getI rX10_run_81 rfl rfl (G_is (by decide) rfl) ?_
      refine w_aload_n rX10_run_84 rfl ?_
      refine w_getR rX10_run_85 rfl rfl (G_is (by decide) rfl) (x := 505) rfl ?_
      refine w_iload_n rX10_run_88 rfl ?_
      have h89 := q.1
      replace q := q.2
      refine x_iaload rX10_run_89 (G_at (by decide) rfl rfl h89) ?_
      have h90 := q.1
      replace q := q.2
      refine x_iastore rX10_run_90 (G_at (by decide) rfl rfl h90) ?_
      refine w_aload_n rX10_run_91 rfl ?_
      refine w_getR rX10_run_92 rfl rfl (G_is (by decide) rfl) (x := 512) rfl ?_
      refine w_aload_n rX10_run_95 rfl ?_
      refine x_getI rX10_run_96 rfl rfl (G_is (by decide) rfl) ?_
      rw [au_ne (f := (fI_X10_holds s16_1 I)) (o := 511) (k := (Int32.toNatClampNeg ((fI_X10_holds s16_1 I) 498 17))) (a := 498) (b := 17) (fun z => absurd z.1 (by decide))]
      refine w_aload_n rX10_run_99 rfl ?_
      refine x_getI rX10_run_100 rfl rfl (G_is (by decide) rfl) ?_
      rw [au_ne (f := (fI_X10_holds s16_1 I)) (o := 511) (k := (Int32.toNatClampNeg ((fI_X10_holds s16_1 I) 498 17))) (a := 498) (b := 1) (fun z => absurd z.1 (by decide))]
      have h103 := q.1
      replace q := q.2
      refine x_iastore rX10_run_103 (G_at (by decide) rfl rfl h103) ?_
      refine w_aload_n rX10_run_104 rfl ?_
      refine w_getR rX10_run_105 rfl rfl (G_is (by decide) rfl) (x := 513) rfl ?_
      refine w_aload_n rX10_run_108 rfl ?_
      refine x_getI rX10_run_109 rfl rfl (G_is (by decide) rfl) ?_
      rw [au_ne (f := (am_u (fI_X10_holds s16_1 I) 511 (Int32.toNatClampNeg ((fI_X10_holds s16_1 I) 498 17)) ((fI_X10_holds s16_1 I) 505 (Int32.toNatClampNeg model)))) (o := 512) (k := (Int32.toNatClampNeg ((fI_X10_holds s16_1 I) 498 17))) (a := 498) (b := 17) (fun z => absurd z.1 (by decide))]
      rw [au_ne (f := (fI_X10_holds s16_1 I)) (o := 511) (k := (Int32.toNatClampNeg ((fI_X10_holds s16_1 I) 498 17))) (a := 498) (b := 17) (fun z => absurd z.1 (by decide))]
      refine w_aload_n rX10_run_112 rfl ?_
      refine x_getI rX10_run_113 rfl rfl (G_is (by decide) rfl) ?_
      rw [au_ne (f := (am_u (fI_X10_holds s16_1 I) 511 (Int32.toNatClampNeg ((fI_X10_holds s16_1 I) 498 17)) ((fI_X10_holds s16_1 I) 505 (Int32.toNatClampNeg model)))) (o := 512) (k := (Int32.toNatClampNeg ((fI_X10_holds s16_1 I) 498 17))) (a := 498) (b := 1) (fun z => absurd z.1 (by decide))]
      rw [au_ne (f := (fI_X10_holds s16_1 I)) (o := 511) (k := (Int32.toNatClampNeg ((fI_X10_holds s16_1 I) 498 17))) (a := 498) (b := 1) (fun z => absurd z.1 (by decide))]
      refine w_iload_n rX10_run_116 rfl ?_
      refine w_iadd rX10_run_117 ?_
      have h118 := q.1
      replace q := q.2
      refine x_iastore rX10_run_118 (G_at (by decide) rfl rfl h118) ?_
      refine w_aload_n rX10_run_119 rfl ?_
      refine w_getR rX10_run_120 rfl rfl (G_is (by decide) rfl) (x := 515) rfl ?_
      refine w_aload_n rX10_run_123 rfl ?_
      refine x_getI rX10_run_124 rfl rfl (G_is (by decide) rfl) ?_
      rw [au_ne (f := (am_u (am_u (fI_X10_holds s16_1 I) 511 (Int32.toNatClampNeg ((fI_X10_holds s16_1 I) 498 17)) ((fI_X10_holds s16_1 I) 505 (Int32.toNatClampNeg model))) 512 (Int32.toNatClampNeg ((fI_X10_holds s16_1 I) 498 17)) ((fI_X10_holds s16_1 I) 498 1))) (o := 513) (k := (Int32.toNatClampNeg ((fI_X10_holds s16_1 I) 498 17))) (a := 498) (b := 17) (fun z => absurd z.1 (by decide))]
      rw [au_ne (f := (am_u (fI_X10_holds s16_1 I) 511 (Int32.toNatClampNeg ((fI_X10_holds s16_1 I) 498 17)) ((fI_X10_holds s16_1 I) 505 (Int32.toNatClampNeg model)))) (o := 512) (k := (Int32.toNatClampNeg ((fI_X10_holds s16_1 I) 498 17))) (a := 498) (b := 17) (fun z => absurd z.1 (by decide))]
      rw [au_ne (f := (fI_X10_holds s16_1 I)) (o := 511) (k := (Int32.toNatClampNeg ((fI_X10_holds s16_1 I) 498 17))) (a := 498) (b := 17) (fun z => absurd z.1 (by decide))]
      refine w_aload_n rX10_run_127 rfl ?_
      refine w_aload_n rX10_run_128 rfl ?_
      refine w_getR rX10_run_129 rfl rfl (G_is (by decide) rfl) (x := 505) rfl ?_
      refine w_iload_n rX10_run_132 rfl ?_
      have h133 := q.1
      replace q := q.2
      refine x_iaload rX10_run_133 (G_at (by decide) rfl rfl h133) ?_
      rw [au_ne (f := (am_u (am_u (fI_X10_holds s16_1 I) 511 (Int32.toNatClampNeg ((fI_X10_holds s16_1 I) 498 17)) ((fI_X10_holds s16_1 I) 505 (Int32.toNatClampNeg model))) 512 (Int32.toNatClampNeg ((fI_X10_holds s16_1 I) 498 17)) ((fI_X10_holds s16_1 I) 498 1))) (o := 513) (k := (Int32.toNatClampNeg ((fI_X10_holds s16_1 I) 498 17))) (a := 505) (b := (Int32.toNatClampNeg model)) (fun z => absurd z.1 (by decide))]
      rw [au_ne (f := (am_u (fI_X10_holds s16_1 I) 511 (Int32.toNatClampNeg ((fI_X10_holds s16_1 I) 498 17)) ((fI_X10_holds s16_1 I) 505 (Int32.toNatClampNeg model)))) (o := 512) (k := (Int32.toNatClampNeg ((fI_X10_holds s16_1 I) 498 17))) (a := 505) (b := (Int32.toNatClampNeg model)) (fun z => absurd z.1 (by decide))]
      rw [au_ne (f := (fI_X10_holds s16_1 I)) (o := 511) (k := (Int32.toNatClampNeg ((fI_X10_holds s16_1 I) 498 17))) (a := 505) (b := (Int32.toNatClampNeg model)) (fun z => absurd z.1 (by decide))]
      refine w_aload_n rX10_run_134 rfl ?_
      refine x_getI rX10_run_135 rfl rfl (G_is (by decide) rfl) ?_
      rw [au_ne (f := (am_u (am_u (fI_X10_holds s16_1 I) 511 (Int32.toNatClampNeg ((fI_X10_holds s16_1 I) 498 17)) ((fI_X10_holds s16_1 I) 505 (Int32.toNatClampNeg model))) 512 (Int32.toNatClampNeg ((fI_X10_holds s16_1 I) 498 17)) ((fI_X10_holds s16_1 I) 498 1))) (o := 513) (k := (Int32.toNatClampNeg ((fI_X10_holds s16_1 I) 498 17))) (a := 498) (b := 1) (fun z => absurd z.1 (by decide))]
      rw [au_ne (f := (am_u (fI_X10_holds s16_1 I) 511 (Int32.toNatClampNeg ((fI_X10_holds s16_1 I) 498 17)) ((fI_X10_holds s16_1 I) 505 (Int32.toNatClampNeg model)))) (o := 512) (k := (Int32.toNatClampNeg ((fI_X10_holds s16_1 I) 498 17))) (a := 498) (b := 1) (fun z => absurd z.1 (by decide))]
      rw [au_ne (f := (fI_X10_holds s16_1 I)) (o := 511) (k := (Int32.toNatClampNeg ((fI_X10_holds s16_1 I) 498 17))) (a := 498) (b := 1) (fun z => absurd z.1 (by decide))]
      refine w_aload_n rX10_run_138 rfl ?_
      refine x_getI rX10_run_139 rfl rfl (G_is (by decide) rfl) ?_
      rw [au_ne (f := (am_u (am_u (fI_X10_holds s16_1 I) 511 (Int32.toNatClampNeg ((fI_X10_holds s16_1 I) 498 17)) ((fI_X10_holds s16_1 I) 505 (Int32.toNatClampNeg model))) 512 (Int32.toNatClampNeg ((fI_X10_holds s16_1 I) 498 17)) ((fI_X10_holds s16_1 I) 498 1))) (o := 513) (k := (Int32.toNatClampNeg ((fI_X10_holds s16_1 I) 498 17))) (a := 498) (b := 1) (fun z => absurd z.1 (by decide))]
      rw [au_ne (f := (am_u (fI_X10_holds s16_1 I) 511 (Int32.toNatClampNeg ((fI_X10_holds s16_1 I) 498 17)) ((fI_X10_holds s16_1 I) 505 (Int32.toNatClampNeg model)))) (o := 512) (k := (Int32.toNatClampNeg ((fI_X10_holds s16_1 I) 498 17))) (a := 498) (b := 1) (fun z => absurd z.1 (by decide))]
      rw [au_ne (f := (fI_X10_holds s16_1 I)) (o := 511) (k := (Int32.toNatClampNeg ((fI_X10_holds s16_1 I) 498 17))) (a := 498) (b := 1) (fun z => absurd z.1 (by decide))]
      refine w_iload_n rX10_run_142 rfl ?_
      refine w_iadd rX10_run_143 ?_
      refine w_invokevirtual rX10_run_144 rfl rfl rfl (Nat.le_of_ble_eq_true rfl) ⟨trivial, trivial, trivial, trivial, trivial⟩ (G_is (by decide) rfl) (by decide) (by decide) ?_
      exact q
    · replace q := q.1 h71
      refine w_iconst rX10_run_74 (x := 0) (by decide) ?_
      refine w_ireturn rX10_run_75 trivial ?_
      exact q
  refine w_ifne rX10_run_16 (fun h16 => ?_) (fun h16 => ?_)
  · skip
    refine w_iload rX10_run_23 rfl ?_
    refine w_ifne rX10_run_25 (fun h25 => ?_) (fun h25 => ?_)
    · skip
      refine w_aload_n rX10_run_32 rfl ?_
      refine w_getR rX10_run_33 rfl rfl (G_is (by decide) rfl) (x := 505) rfl ?_
      refine w_iload_n rX10_run_36 rfl ?_
      refine x_iaload rX10_run_37 (G_at (by decide) rfl rfl (gd_X10_isModel h16)) ?_
      refine w_iconst rX10_run_38 (x := -1) (by decide) ?_
      refine w_icmpeq rX10_run_39 (fun h39 => ?_) (fun h39 => ?_)
      · skip
        refine w_iconst rX10_run_63 (x := 3) (by decide) ?_
        refine w_goto rX10_run_64 ?_
        exact j16 _ (((if_neg h16).trans (if_neg h25)).trans (if_pos h39)).symm
      · skip
        refine w_aload_n rX10_run_42 rfl ?_
        refine x_getI rX10_run_43 rfl rfl (G_is (by decide) rfl) ?_
        refine w_iload_n rX10_run_46 rfl ?_
        refine w_iadd rX10_run_47 ?_
        refine w_sipush rX10_run_48 (x := 200) (by decide) ?_
        refine w_icmpgt rX10_run_51 (fun h51 => ?_) (fun h51 => ?_)
        · skip
          refine w_iconst rX10_run_63 (x := 3) (by decide) ?_
          refine w_goto rX10_run_64 ?_
          exact j16 _ ((((if_neg h16).trans (if_neg h25)).trans (if_neg h39)).trans (if_pos h51)).symm
        · skip
          refine w_aload_n rX10_run_54 rfl ?_
          refine x_getI rX10_run_55 rfl rfl (G_is (by decide) rfl) ?_
          refine w_bipush rX10_run_58 (x := 40) (by decide) ?_
          refine w_icmpne rX10_run_60 (fun h60 => ?_) (fun h60 => ?_)
          · skip
            refine w_iconst rX10_run_67 (x := 0) (by decide) ?_
            exact j16 _ (((((if_neg h16).trans (if_neg h25)).trans (if_neg h39)).trans (if_neg h51)).trans (if_neg h60)).symm
          · skip
            refine w_iconst rX10_run_63 (x := 3) (by decide) ?_
            refine w_goto rX10_run_64 ?_
            exact j16 _ (((((if_neg h16).trans (if_neg h25)).trans (if_neg h39)).trans (if_neg h51)).trans (if_pos h60)).symm
    · skip
      refine w_iconst rX10_run_28 (x := 2) (by decide) ?_
      refine w_goto rX10_run_29 ?_
      exact j16 _ ((if_neg h16).trans (if_pos h25)).symm
  · skip
    refine w_iconst rX10_run_19 (x := 1) (by decide) ?_
    refine w_goto rX10_run_20 ?_
    exact j16 _ (if_pos h16).symm
theorem k_X10_run_147 {X : Nat × (Nat → Int32)} {I : Nat → Nat → Int32} {L : Nat → Nat → Int64} {F : Nat → Nat → UInt32} {Q : AQ} {x1 : Int32} {x2 : Int32} {x3 : Int32} {x4 : Int32} {e1 : Int32} {e2 : Int32} (q : vp_in e1 40 ∧ (vp_in x1 6 ∧ (vp_in (I 498 17) 40 ∧ (WP mX10_outOf 0 (am_ent 7 [.ref 498, .int (I 505 (Int32.toNatClampNeg x1)), .int ((am_u I 515 (Int32.toNatClampNeg e1) e2) 515 (Int32.toNatClampNeg (I 498 17)))]) [] (G X (am_u I 515 (Int32.toNatClampNeg e1) e2) L F) 0 0 (am_kq mX10_run 172 [some (.ref 498), some (.int x1), some (.int x2), some (.int x3), some (.int x4)] [.int (I 498 17), .ref 514] (0 + am_bc mX10_outOf) (0 + am_bs mX10_outOf) Q))))) : WP mX10_run 147 [some (.ref 498), some (.int x1), some (.int x2), some (.int x3), some (.int x4)] [.int e2, .int e1, .ref 515] (G X I L F) 0 0 Q := by
  have h147 := q.1
  replace q := q.2
  refine x_iastore rX10_run_147 (G_at (by decide) rfl rfl h147) ?_
  refine w_aload_n rX10_run_148 rfl ?_
  refine w_getR rX10_run_149 rfl rfl (G_is (by decide) rfl) (x := 514) rfl ?_
  refine w_aload_n rX10_run_152 rfl ?_
  refine x_getI rX10_run_153 rfl rfl (G_is (by decide) rfl) ?_
  rw [au_ne (f := I) (o := 515) (k := (Int32.toNatClampNeg e1)) (a := 498) (b := 17) (fun z => absurd z.1 (by decide))]
  refine w_aload_n rX10_run_156 rfl ?_
  refine w_aload_n rX10_run_157 rfl ?_
  refine w_getR rX10_run_158 rfl rfl (G_is (by decide) rfl) (x := 505) rfl ?_
  refine w_iload_n rX10_run_161 rfl ?_
  have h162 := q.1
  replace q := q.2
  refine x_iaload rX10_run_162 (G_at (by decide) rfl rfl h162) ?_
  rw [au_ne (f := I) (o := 515) (k := (Int32.toNatClampNeg e1)) (a := 505) (b := (Int32.toNatClampNeg x1)) (fun z => absurd z.1 (by decide))]
  refine w_aload_n rX10_run_163 rfl ?_
  refine w_getR rX10_run_164 rfl rfl (G_is (by decide) rfl) (x := 515) rfl ?_
  refine w_aload_n rX10_run_167 rfl ?_
  refine x_getI rX10_run_168 rfl rfl (G_is (by decide) rfl) ?_
  rw [au_ne (f := I) (o := 515) (k := (Int32.toNatClampNeg e1)) (a := 498) (b := 17) (fun z => absurd z.1 (by decide))]
  have h171 := q.1
  replace q := q.2
  refine x_iaload rX10_run_171 (G_at (by decide) rfl rfl h171) ?_
  refine w_invokevirtual rX10_run_172 rfl rfl rfl (Nat.le_of_ble_eq_true rfl) ⟨trivial, trivial, trivial, trivial⟩ (G_is (by decide) rfl) (by decide) (by decide) ?_
  exact q
theorem k_X10_run_175 {X : Nat × (Nat → Int32)} {I : Nat → Nat → Int32} {L : Nat → Nat → Int64} {F : Nat → Nat → UInt32} {Q : AQ} {x1 : Int32} {x2 : Int32} {x3 : Int32} {x4 : Int32} {e1 : Int32} {e2 : UInt32} (q : vp_in e1 40 ∧ (vp_in (I 498 17) 40 ∧ (Q (.inl (some (.int (((I 498 17) + 1) - 1)))) (G X (am_u (am_u I 516 (Int32.toNatClampNeg (I 498 17)) (I 498 14)) 498 17 ((I 498 17) + 1)) L (am_u F 514 (Int32.toNatClampNeg e1) e2))))) : WP mX10_run 175 [some (.ref 498), some (.int x1), some (.int x2), some (.int x3), some (.int x4)] [.float e2, .int e1, .ref 514] (G X I L F) 0 0 Q := by
  have h175 := q.1
  replace q := q.2
  refine x_fastore rX10_run_175 (G_at (by decide) rfl rfl h175) ?_
  refine w_aload_n rX10_run_176 rfl ?_
  refine w_getR rX10_run_177 rfl rfl (G_is (by decide) rfl) (x := 516) rfl ?_
  refine w_aload_n rX10_run_180 rfl ?_
  refine x_getI rX10_run_181 rfl rfl (G_is (by decide) rfl) ?_
  refine w_aload_n rX10_run_184 rfl ?_
  refine x_getI rX10_run_185 rfl rfl (G_is (by decide) rfl) ?_
  have h188 := q.1
  replace q := q.2
  refine x_iastore rX10_run_188 (G_at (by decide) rfl rfl h188) ?_
  refine w_aload_n rX10_run_189 rfl ?_
  refine w_dup rX10_run_190 trivial ?_
  refine x_getI rX10_run_191 rfl rfl (G_is (by decide) rfl) ?_
  rw [au_ne (f := I) (o := 516) (k := (Int32.toNatClampNeg (I 498 17))) (a := 498) (b := 17) (fun z => absurd z.1 (by decide))]
  refine w_iconst rX10_run_194 (x := 1) (by decide) ?_
  refine w_iadd rX10_run_195 ?_
  refine x_putI rX10_run_196 rfl (G_is (by decide) rfl) trivial ?_
  refine w_aload_n rX10_run_199 rfl ?_
  refine x_getI rX10_run_200 rfl rfl (G_is (by decide) rfl) ?_
  rw [am_u_eq (f := (am_u I 516 (Int32.toNatClampNeg (I 498 17)) (I 498 14))) (o := 498) (k := 17)]
  refine w_iconst rX10_run_203 (x := 1) (by decide) ?_
  refine w_isub rX10_run_204 ?_
  refine w_ireturn rX10_run_205 trivial ?_
  exact q
theorem k_X10_gaugesOf_0 {X : Nat × (Nat → Int32)} {I : Nat → Nat → Int32} {L : Nat → Nat → Int64} {F : Nat → Nat → UInt32} {Q : AQ} {ver : Int32} (q : WP mX10_closure 0 (am_ent 7 [.ref 498, .int ver]) [] (G X I L F) 0 0 (am_kq mX10_gaugesOf 2 [some (.ref 498), some (.int ver), none, none, none, none] [] (0 + am_bc mX10_closure) (0 + am_bs mX10_closure) Q)) : WP mX10_gaugesOf 0 (am_ent 6 [.ref 498, .int ver]) [] (G X I L F) 0 0 Q := by
  refine w_aload_n rX10_gaugesOf_0 rfl ?_
  refine w_iload_n rX10_gaugesOf_1 rfl ?_
  refine w_invokevirtual rX10_gaugesOf_2 rfl rfl rfl (Nat.le_of_ble_eq_true rfl) ⟨trivial, trivial, trivial⟩ (G_is (by decide) rfl) (by decide) (by decide) ?_
  exact q
theorem k_X10_gaugesOf_5 {X : Nat × (Nat → Int32)} {I : Nat → Nat → Int32} {L : Nat → Nat → Int64} {F : Nat → Nat → UInt32} {Q : AQ} {x1 : Int32} {e0 : Int64} (q : WP mX10_gaugesOf 12 [some (.ref 498), some (.int x1), some (.long e0), none, some (.int 0), some (.int 0)] [] (G X I L F) 0 0 Q) : WP mX10_gaugesOf 5 [some (.ref 498), some (.int x1), none, none, none, none] [.long e0] (G X I L F) 0 0 Q := by
  refine w_lstore_n rX10_gaugesOf_5 rfl trivial ?_
  refine w_iconst rX10_gaugesOf_6 (x := 0) (by decide) ?_
  refine w_istore rX10_gaugesOf_7 rfl trivial ?_
  refine w_iconst rX10_gaugesOf_9 (x := 0) (by decide) ?_
  refine w_istore rX10_gaugesOf_10 rfl trivial ?_
  exact q
theorem k_X10_gaugesOf_12 {X : Nat × (Nat → Int32)} {I : Nat → Nat → Int32} {L : Nat → Nat → Int64} {F : Nat → Nat → UInt32} {Q : AQ} {x1 : Int32} {z2 : Int64} {x4 : Int32} {x5 : Int32} (q : (x1 < x5 → Q (.inl (some (.int x4))) (G X I L F)) ∧ (¬ x1 < x5 → ((lg_cmp (((z2 : Int64) >>> ((Int32.toInt64 x5) &&& 63 : Int64)) &&& 1) 1) = 0 → WP mX10_names 0 (am_ent 6 [.ref 498, .int x5, .int 1]) [] (G X I L F) 0 0 (am_kq mX10_gaugesOf 35 [some (.ref 498), some (.int x1), some (.long z2), none, some (.int x4), some (.int x5)] [.int x4] (0 + am_bc mX10_names) (0 + am_bs mX10_names) Q)) ∧ (¬ (lg_cmp (((z2 : Int64) >>> ((Int32.toInt64 x5) &&& 63 : Int64)) &&& 1) 1) = 0 → WP mX10_gaugesOf 12 [some (.ref 498), some (.int x1), some (.long z2), none, some (.int (x4 ||| 0)), some (.int (x5 + 1))] [] (G X I L F) 0 0 Q))) : WP mX10_gaugesOf 12 [some (.ref 498), some (.int x1), some (.long z2), none, some (.int x4), some (.int x5)] [] (G X I L F) 0 0 Q := by
  refine w_iload rX10_gaugesOf_12 rfl ?_
  refine w_iload_n rX10_gaugesOf_14 rfl ?_
  refine w_icmpgt rX10_gaugesOf_15 (fun h15 => ?_) (fun h15 => ?_)
  · replace q := q.1 h15
    refine w_iload rX10_gaugesOf_51 rfl ?_
    refine w_ireturn rX10_gaugesOf_53 trivial ?_
    exact q
  · replace q := q.2 h15
    refine w_iload rX10_gaugesOf_18 rfl ?_
    refine w_lload_n rX10_gaugesOf_20 rfl ?_
    refine w_iload rX10_gaugesOf_21 rfl ?_
    refine w_lshr rX10_gaugesOf_23 ?_
    refine w_lconst rX10_gaugesOf_24 (x := 1) (by decide) ?_
    refine w_land rX10_gaugesOf_25 ?_
    refine w_lconst rX10_gaugesOf_26 (x := 1) (by decide) ?_
    refine w_lcmp rX10_gaugesOf_27 ?_
    refine w_ifne rX10_gaugesOf_28 (fun h28 => ?_) (fun h28 => ?_)
    · replace q := q.2 h28
      refine w_iconst rX10_gaugesOf_41 (x := 0) (by decide) ?_
      refine w_ior rX10_gaugesOf_42 ?_
      refine w_istore rX10_gaugesOf_43 rfl trivial ?_
      refine w_iinc rX10_gaugesOf_45 rfl rfl trivial ?_
      refine w_goto rX10_gaugesOf_48 ?_
      exact q
    · replace q := q.1 h28
      refine w_aload_n rX10_gaugesOf_31 rfl ?_
      refine w_iload rX10_gaugesOf_32 rfl ?_
      refine w_iconst rX10_gaugesOf_34 (x := 1) (by decide) ?_
      refine w_invokevirtual rX10_gaugesOf_35 rfl rfl rfl (Nat.le_of_ble_eq_true rfl) ⟨trivial, trivial, trivial, trivial⟩ (G_is (by decide) rfl) (by decide) (by decide) ?_
      exact q
theorem k_X10_gaugesOf_38 {X : Nat × (Nat → Int32)} {I : Nat → Nat → Int32} {L : Nat → Nat → Int64} {F : Nat → Nat → UInt32} {Q : AQ} {x1 : Int32} {z2 : Int64} {x4 : Int32} {x5 : Int32} {e0 : Int32} {e1 : Int32} (q : WP mX10_gaugesOf 12 [some (.ref 498), some (.int x1), some (.long z2), none, some (.int (e0 ||| e1)), some (.int (x5 + 1))] [] (G X I L F) 0 0 Q) : WP mX10_gaugesOf 38 [some (.ref 498), some (.int x1), some (.long z2), none, some (.int x4), some (.int x5)] [.int e1, .int e0] (G X I L F) 0 0 Q := by
  refine w_goto rX10_gaugesOf_38 ?_
  refine w_ior rX10_gaugesOf_42 ?_
  refine w_istore rX10_gaugesOf_43 rfl trivial ?_
  refine w_iinc rX10_gaugesOf_45 rfl rfl trivial ?_
  refine w_goto rX10_gaugesOf_48 ?_
  exact q
theorem k_X10_whyOf_0 {X : Nat × (Nat → Int32)} {I : Nat → Nat → Int32} {L : Nat → Nat → Int64} {F : Nat → Nat → UInt32} {Q : AQ} {run : Int32} (q : vp_in run 40 ∧ (WP mX10_gaugesOf 0 (am_ent 6 [.ref 498, .int (I 511 (Int32.toNatClampNeg run))]) [] (G X I L F) 0 0 (am_kq mX10_whyOf 9 [some (.ref 498), some (.int run), some (.int (I 511 (Int32.toNatClampNeg run))), none, none, none, none] [] (0 + am_bc mX10_gaugesOf) (0 + am_bs mX10_gaugesOf) Q))) : WP mX10_whyOf 0 (am_ent 7 [.ref 498, .int run]) [] (G X I L F) 0 0 Q := by
  refine w_aload_n rX10_whyOf_0 rfl ?_
  refine w_getR rX10_whyOf_1 rfl rfl (G_is (by decide) rfl) (x := 511) rfl ?_
  refine w_iload_n rX10_whyOf_4 rfl ?_
  have h5 := q.1
  replace q := q.2
  refine x_iaload rX10_whyOf_5 (G_at (by decide) rfl rfl h5) ?_
  refine w_istore_n rX10_whyOf_6 rfl trivial ?_
  refine w_aload_n rX10_whyOf_7 rfl ?_
  refine w_iload_n rX10_whyOf_8 rfl ?_
  refine w_invokevirtual rX10_whyOf_9 rfl rfl rfl (Nat.le_of_ble_eq_true rfl) ⟨trivial, trivial, trivial⟩ (G_is (by decide) rfl) (by decide) (by decide) ?_
  exact q
theorem k_X10_whyOf_12 {X : Nat × (Nat → Int32)} {I : Nat → Nat → Int32} {L : Nat → Nat → Int64} {F : Nat → Nat → UInt32} {Q : AQ} {x1 : Int32} {x2 : Int32} {e0 : Int32} (q : WP mX10_whyOf 19 [some (.ref 498), some (.int x1), some (.int x2), some (.int e0), some (.int 0), some (.int 0), none] [] (G X I L F) 0 0 Q) : WP mX10_whyOf 12 [some (.ref 498), some (.int x1), some (.int x2), none, none, none, none] [.int e0] (G X I L F) 0 0 Q := by
  refine w_istore_n rX10_whyOf_12 rfl trivial ?_
  refine w_iconst rX10_whyOf_13 (x := 0) (by decide) ?_
  refine w_istore rX10_whyOf_14 rfl trivial ?_
  refine w_iconst rX10_whyOf_16 (x := 0) (by decide) ?_
  refine w_istore rX10_whyOf_17 rfl trivial ?_
  exact q
theorem k_X10_whyOf_19 {X : Nat × (Nat → Int32)} {I : Nat → Nat → Int32} {L : Nat → Nat → Int64} {F : Nat → Nat → UInt32} {Q : AQ} {x1 : Int32} {x2 : Int32} {x3 : Int32} {x4 : Int32} {x5 : Int32} {d6 : Option Value} (q : (603 ≤ x5 → vp_in x2 60 ∧ (vp_in (I 501 (Int32.toNatClampNeg x2)) 6 ∧ (∀ s114_0 : Int32, s114_0 = (if (I 505 (Int32.toNatClampNeg (I 501 (Int32.toNatClampNeg x2)))) = x2 then (if x4 = 0 then 0 else 2 : Int32) else 1 : Int32) → (Q (.inl (some (.int s114_0))) (G X I L F))))) ∧ (¬ 603 ≤ x5 → (((((x3 : Int32) >>> ((x5 / 201) &&& 31 : Int32)) &&& 1) = 1 → vp_in x1 40 ∧ (True))) ∧ (∀ s38_0 : Int32, s38_0 = (if (((x3 : Int32) >>> ((x5 / 201) &&& 31 : Int32)) &&& 1) = 1 then (if (I 513 (Int32.toNatClampNeg x1)) < (x5 - x5 / 201 * 201) then 0 else 1 : Int32) else 0 : Int32) → (((x4 = 0 → (¬ s38_0 = 0 → vp_in x5 603 ∧ (vp_in x1 40 ∧ (True))))) ∧ (∀ s65_0 : Int32, s65_0 = (if x4 = 0 then (if s38_0 = 0 then 0 else (if (I 508 (Int32.toNatClampNeg x5)) ≤ (I 516 (Int32.toNatClampNeg x1)) then 0 else 1 : Int32) : Int32) else 1 : Int32) → (WP mX10_whyOf 19 [some (.ref 498), some (.int x1), some (.int x2), some (.int x3), some (.int s65_0), some (.int (x5 + 1)), some (.int s38_0)] [] (G X I L F) 0 0 Q)))))) : WP mX10_whyOf 19 [some (.ref 498), some (.int x1), some (.int x2), some (.int x3), some (.int x4), some (.int x5), d6] [] (G X I L F) 0 0 Q := by
  refine w_iload rX10_whyOf_19 rfl ?_
  refine w_sipush rX10_whyOf_21 (x := 603) (by decide) ?_
  refine w_icmpge rX10_whyOf_24 (fun h24 => ?_) (fun h24 => ?_)
  · replace q := q.1 h24
    refine w_aload_n rX10_whyOf_102 rfl ?_
    refine w_getR rX10_whyOf_103 rfl rfl (G_is (by decide) rfl) (x := 505) rfl ?_
    refine w_aload_n rX10_whyOf_106 rfl ?_
    refine w_getR rX10_whyOf_107 rfl rfl (G_is (by decide) rfl) (x := 501) rfl ?_
    refine w_iload_n rX10_whyOf_110 rfl ?_
    have h111 := q.1
    replace q := q.2
    refine x_iaload rX10_whyOf_111 (G_at (by decide) rfl rfl h111) ?_
    have h112 := q.1
    replace q := q.2
    refine x_iaload rX10_whyOf_112 (G_at (by decide) rfl rfl h112) ?_
    refine w_iload_n rX10_whyOf_113 rfl ?_
    have j114 : ∀ s114_0 : Int32, s114_0 = (if (I 505 (Int32.toNatClampNeg (I 501 (Int32.toNatClampNeg x2)))) = x2 then (if x4 = 0 then 0 else 2 : Int32) else 1 : Int32) → WP mX10_whyOf 131 [some (.ref 498), some (.int x1), some (.int x2), some (.int x3), some (.int x4), some (.int x5), d6] [.int s114_0] (G X I L F) 0 0 Q := by
      intro s114_0 es114_0
      replace q := q s114_0 es114_0
      refine w_ireturn rX10_whyOf_131 trivial ?_
      exact q
    refine w_icmpeq rX10_whyOf_114 (fun h114 => ?_) (fun h114 => ?_)
    · skip
      refine w_iload rX10_whyOf_121 rfl ?_
      refine w_ifeq rX10_whyOf_123 (fun h123 => ?_) (fun h123 => ?_)
      · skip
        refine w_iconst rX10_whyOf_130 (x := 0) (by decide) ?_
        exact j114 _ ((if_pos h114).trans (if_pos h123)).symm
      · skip
        refine w_iconst rX10_whyOf_126 (x := 2) (by decide) ?_
        refine w_goto rX10_whyOf_127 ?_
        exact j114 _ ((if_pos h114).trans (if_neg h123)).symm
    · skip
      refine w_iconst rX10_whyOf_117 (x := 1) (by decide) ?_
      refine w_goto rX10_whyOf_118 ?_
      exact j114 _ (if_neg h114).symm
  · replace q := q.2 h24
    refine w_iload_n rX10_whyOf_27 rfl ?_
    refine w_iload rX10_whyOf_28 rfl ?_
    refine w_sipush rX10_whyOf_30 (x := 201) (by decide) ?_
    refine w_idiv rX10_whyOf_33 (by decide) ?_
    refine w_ishr rX10_whyOf_34 ?_
    refine w_iconst rX10_whyOf_35 (x := 1) (by decide) ?_
    refine w_iand rX10_whyOf_36 ?_
    refine w_iconst rX10_whyOf_37 (x := 1) (by decide) ?_
    have j38 : ∀ s38_0 : Int32, s38_0 = (if (((x3 : Int32) >>> ((x5 / 201) &&& 31 : Int32)) &&& 1) = 1 then (if (I 513 (Int32.toNatClampNeg x1)) < (x5 - x5 / 201 * 201) then 0 else 1 : Int32) else 0 : Int32) → WP mX10_whyOf 61 [some (.ref 498), some (.int x1), some (.int x2), some (.int x3), some (.int x4), some (.int x5), d6] [.int s38_0] (G X I L F) 0 0 Q := by
      intro s38_0 es38_0
      replace q := q.2
      replace q := q s38_0 es38_0
      refine w_istore rX10_whyOf_61 rfl trivial ?_
      refine w_iload rX10_whyOf_63 rfl ?_
      have j65 : ∀ s65_0 : Int32, s65_0 = (if x4 = 0 then (if s38_0 = 0 then 0 else (if (I 508 (Int32.toNatClampNeg x5)) ≤ (I 516 (Int32.toNatClampNeg x1)) then 0 else 1 : Int32) : Int32) else 1 : Int32) → WP mX10_whyOf 94 [some (.ref 498), some (.int x1), some (.int x2), some (.int x3), some (.int x4), some (.int x5), some (.int s38_0)] [.int s65_0] (G X I L F) 0 0 Q := by
        intro s65_0 es65_0
        replace q := q.2
        replace q := q s65_0 es65_0
        refine w_istore rX10_whyOf_94 rfl trivial ?_
        refine w_iinc rX10_whyOf_96 rfl rfl trivial ?_
        refine w_goto rX10_whyOf_99 ?_
        exact q
      replace q := q.1
      refine w_ifne rX10_whyOf_65 (fun h65 => ?_) (fun h65 => ?_)
      · skip
        refine w_iconst rX10_whyOf_89 (x := 1) (by decide) ?_
        refine w_goto rX10_whyOf_90 ?_
        exact j65 _ (if_neg h65).symm
      · replace q := q h65
        refine w_iload rX10_whyOf_68 rfl ?_
        refine w_ifeq rX10_whyOf_70 (fun h70 => ?_) (fun h70 => ?_)
        · skip
          refine w_iconst rX10_whyOf_93 (x := 0) (by decide) ?_
          exact j65 _ ((if_pos h65).trans (if_pos h70)).symm
        · replace q := q h70
          refine w_aload_n rX10_whyOf_73 rfl ?_
          refine w_getR rX10_whyOf_74 rfl rfl (G_is (by decide) rfl) (x := 508) rfl ?_
          refine w_iload rX10_whyOf_77 rfl ?_
          have h79 := q.1
          replace q := q.2
          refine x_iaload rX10_whyOf_79 (G_at (by decide) rfl rfl h79) ?_
          refine w_aload_n rX10_whyOf_80 rfl ?_
          refine w_getR rX10_whyOf_81 rfl rfl (G_is (by decide) rfl) (x := 516) rfl ?_
          refine w_iload_n rX10_whyOf_84 rfl ?_
          have h85 := q.1
          replace q := q.2
          refine x_iaload rX10_whyOf_85 (G_at (by decide) rfl rfl h85) ?_
          refine w_icmple rX10_whyOf_86 (fun h86 => ?_) (fun h86 => ?_)
          · skip
            refine w_iconst rX10_whyOf_93 (x := 0) (by decide) ?_
            exact j65 _ (((if_pos h65).trans (if_neg h70)).trans (if_pos h86)).symm
          · skip
            refine w_iconst rX10_whyOf_89 (x := 1) (by decide) ?_
            refine w_goto rX10_whyOf_90 ?_
            exact j65 _ (((if_pos h65).trans (if_neg h70)).trans (if_neg h86)).symm
    replace q := q.1
    refine w_icmpne rX10_whyOf_38 (fun h38 => ?_) (fun h38 => ?_)
    · skip
      refine w_iconst rX10_whyOf_60 (x := 0) (by decide) ?_
      exact j38 _ (if_neg h38).symm
    · replace q := q h38
      refine w_iload rX10_whyOf_41 rfl ?_
      refine w_sipush rX10_whyOf_43 (x := 201) (by decide) ?_
      refine w_irem rX10_whyOf_46 (by decide) ?_
      refine w_aload_n rX10_whyOf_47 rfl ?_
      refine w_getR rX10_whyOf_48 rfl rfl (G_is (by decide) rfl) (x := 513) rfl ?_
      refine w_iload_n rX10_whyOf_51 rfl ?_
      have h52 := q.1
      replace q := q.2
      refine x_iaload rX10_whyOf_52 (G_at (by decide) rfl rfl h52) ?_
      refine w_icmpgt rX10_whyOf_53 (fun h53 => ?_) (fun h53 => ?_)
      · skip
        refine w_iconst rX10_whyOf_60 (x := 0) (by decide) ?_
        exact j38 _ ((if_pos h38).trans (if_pos h53)).symm
      · skip
        refine w_iconst rX10_whyOf_56 (x := 1) (by decide) ?_
        refine w_goto rX10_whyOf_57 ?_
        exact j38 _ ((if_pos h38).trans (if_neg h53)).symm
theorem k_X10_why_0 {X : Nat × (Nat → Int32)} {I : Nat → Nat → Int32} {L : Nat → Nat → Int64} {F : Nat → Nat → UInt32} {Q : AQ} {run : Int32} (q : ∀ s6_1 : Int32, s6_1 = (if (f_X10_isRun run I) = 0 then 1 else 0 : Int32) → (((f_X10_holds s6_1) = 0 → Q (.inl (some (.int 0))) (G X (fI_X10_holds s6_1 I) L F)) ∧ (¬ (f_X10_holds s6_1) = 0 → WP mX10_whyOf 0 (am_ent 7 [.ref 498, .int run]) [] (G X (fI_X10_holds s6_1 I) L F) 0 0 (am_kq mX10_why 22 [some (.ref 498), some (.int run)] [] (0 + am_bc mX10_whyOf) (0 + am_bs mX10_whyOf) Q)))) : WP mX10_why 0 (am_ent 2 [.ref 498, .int run]) [] (G X I L F) 0 0 Q := by
  refine w_aload_n rX10_why_0 rfl ?_
  refine w_aload_n rX10_why_1 rfl ?_
  refine w_iload_n rX10_why_2 rfl ?_
  refine w_invokevirtual rX10_why_3 rfl rfl rfl (Nat.le_of_ble_eq_true rfl) ⟨trivial, trivial, trivial⟩ (G_is (by decide) rfl) (by decide) (by decide) ?_
  refine s_X10_isRun ?_
  show WP mX10_why 6 _ _ _ 0 0 _
  have j6 : ∀ s6_1 : Int32, s6_1 = (if (f_X10_isRun run I) = 0 then 1 else 0 : Int32) → WP mX10_why 14 [some (.ref 498), some (.int run)] [.int s6_1, .ref 498] (G X I L F) 0 0 Q := by
    intro s6_1 es6_1
    replace q := q s6_1 es6_1
    refine w_invokevirtual rX10_why_14 rfl rfl rfl (Nat.le_of_ble_eq_true rfl) ⟨trivial, trivial, trivial⟩ (G_is (by decide) rfl) (by decide) (by decide) ?_
    refine s_X10_holds ?_
    show WP mX10_why 17 _ _ _ 0 0 _
    refine w_ifeq rX10_why_17 (fun h17 => ?_) (fun h17 => ?_)
    · replace q := q.1 h17
      refine w_iconst rX10_why_28 (x := 0) (by decide) ?_
      refine w_ireturn rX10_why_29 trivial ?_
      exact q
    · replace q := q.2 h17
      refine w_aload_n rX10_why_20 rfl ?_
      refine w_iload_n rX10_why_21 rfl ?_
      refine w_invokevirtual rX10_why_22 rfl rfl rfl (Nat.le_of_ble_eq_true rfl) ⟨trivial, trivial, trivial⟩ (G_is (by decide) rfl) (by decide) (by decide) ?_
      exact q
  refine w_ifeq rX10_why_6 (fun h6 => ?_) (fun h6 => ?_)
  · skip
    refine w_iconst rX10_why_13 (x := 1) (by decide) ?_
    exact j6 _ (if_pos h6).symm
  · skip
    refine w_iconst rX10_why_9 (x := 0) (by decide) ?_
    refine w_goto rX10_why_10 ?_
    exact j6 _ (if_neg h6).symm
theorem k_X10_why_25 {X : Nat × (Nat → Int32)} {I : Nat → Nat → Int32} {L : Nat → Nat → Int64} {F : Nat → Nat → UInt32} {Q : AQ} {x1 : Int32} {e0 : Int32} (q : Q (.inl (some (.int e0))) (G X I L F)) : WP mX10_why 25 [some (.ref 498), some (.int x1)] [.int e0] (G X I L F) 0 0 Q := by
  refine w_goto rX10_why_25 ?_
  refine w_ireturn rX10_why_29 trivial ?_
  exact q
theorem k_X10_peakAnew_0 {X : Nat × (Nat → Int32)} {I : Nat → Nat → Int32} {L : Nat → Nat → Int64} {F : Nat → Nat → UInt32} {Q : AQ} {run : Int32} (q : ∀ s6_1 : Int32, s6_1 = (if (f_X10_isRun run I) = 0 then 1 else 0 : Int32) → (((f_X10_holds s6_1) = 0 → Q (.inl (some (.int 0))) (G X (fI_X10_holds s6_1 I) L F)) ∧ (¬ (f_X10_holds s6_1) = 0 → vp_in run 40 ∧ (vp_in run 40 ∧ (vp_in run 40 ∧ (vp_in run 40 ∧ (WP mX10_greatest 0 (am_ent 6 [.ref 498, .int ((fI_X10_holds s6_1 I) 511 (Int32.toNatClampNeg run)), .int ((fI_X10_holds s6_1 I) 512 (Int32.toNatClampNeg run)), .int ((fI_X10_holds s6_1 I) 513 (Int32.toNatClampNeg run))]) [] (G X (fI_X10_holds s6_1 I) L F) 0 0 (am_kq mX10_peakAnew 48 [some (.ref 498), some (.int run)] [.int ((fI_X10_holds s6_1 I) 511 (Int32.toNatClampNeg run)), .ref 498] (0 + am_bc mX10_greatest) (0 + am_bs mX10_greatest) Q)))))))) : WP mX10_peakAnew 0 (am_ent 2 [.ref 498, .int run]) [] (G X I L F) 0 0 Q := by
  refine w_aload_n rX10_peakAnew_0 rfl ?_
  refine w_aload_n rX10_peakAnew_1 rfl ?_
  refine w_iload_n rX10_peakAnew_2 rfl ?_
  refine w_invokevirtual rX10_peakAnew_3 rfl rfl rfl (Nat.le_of_ble_eq_true rfl) ⟨trivial, trivial, trivial⟩ (G_is (by decide) rfl) (by decide) (by decide) ?_
  refine s_X10_isRun ?_
  show WP mX10_peakAnew 6 _ _ _ 0 0 _
  have j6 : ∀ s6_1 : Int32, s6_1 = (if (f_X10_isRun run I) = 0 then 1 else 0 : Int32) → WP mX10_peakAnew 14 [some (.ref 498), some (.int run)] [.int s6_1, .ref 498] (G X I L F) 0 0 Q := by
    intro s6_1 es6_1
    replace q := q s6_1 es6_1
    refine w_invokevirtual rX10_peakAnew_14 rfl rfl rfl (Nat.le_of_ble_eq_true rfl) ⟨trivial, trivial, trivial⟩ (G_is (by decide) rfl) (by decide) (by decide) ?_
    refine s_X10_holds ?_
    show WP mX10_peakAnew 17 _ _ _ 0 0 _
    refine w_ifne rX10_peakAnew_17 (fun h17 => ?_) (fun h17 => ?_)
    · replace q := q.2 h17
      refine w_aload_n rX10_peakAnew_22 rfl ?_
      refine w_aload_n rX10_peakAnew_23 rfl ?_
      refine w_getR rX10_peakAnew_24 rfl rfl (G_is (by decide) rfl) (x := 511) rfl ?_
      refine w_iload_n rX10_peakAnew_27 rfl ?_
      have h28 := q.1
      replace q := q.2
      refine x_iaload rX10_peakAnew_28 (G_at (by decide) rfl rfl h28) ?_
      refine w_aload_n rX10_peakAnew_29 rfl ?_
      refine w_aload_n rX10_peakAnew_30 rfl ?_
      refine w_getR rX10_peakAnew_31 rfl rfl (G_is (by decide) rfl) (x := 511) rfl ?_
      refine w_iload_n rX10_peakAnew_34 rfl ?_
      have h35 := q.1
      replace q := q.2
      refine x_iaload rX10_peakAnew_35 (G_at (by decide) rfl rfl h35) ?_
      refine w_aload_n rX10_peakAnew_36 rfl ?_
      refine w_getR rX10_peakAnew_37 rfl rfl (G_is (by decide) rfl) (x := 512) rfl ?_
      refine w_iload_n rX10_peakAnew_40 rfl ?_
      have h41 := q.1
      replace q := q.2
      refine x_iaload rX10_peakAnew_41 (G_at (by decide) rfl rfl h41) ?_
      refine w_aload_n rX10_peakAnew_42 rfl ?_
      refine w_getR rX10_peakAnew_43 rfl rfl (G_is (by decide) rfl) (x := 513) rfl ?_
      refine w_iload_n rX10_peakAnew_46 rfl ?_
      have h47 := q.1
      replace q := q.2
      refine x_iaload rX10_peakAnew_47 (G_at (by decide) rfl rfl h47) ?_
      refine w_invokevirtual rX10_peakAnew_48 rfl rfl rfl (Nat.le_of_ble_eq_true rfl) ⟨trivial, trivial, trivial, trivial, trivial⟩ (G_is (by decide) rfl) (by decide) (by decide) ?_
      exact q
    · replace q := q.1 h17
      refine w_iconst rX10_peakAnew_20 (x := 0) (by decide) ?_
      refine w_ireturn rX10_peakAnew_21 trivial ?_
      exact q
  refine w_ifeq rX10_peakAnew_6 (fun h6 => ?_) (fun h6 => ?_)
  · skip
    refine w_iconst rX10_peakAnew_13 (x := 1) (by decide) ?_
    exact j6 _ (if_pos h6).symm
  · skip
    refine w_iconst rX10_peakAnew_9 (x := 0) (by decide) ?_
    refine w_goto rX10_peakAnew_10 ?_
    exact j6 _ (if_neg h6).symm
theorem k_X10_peakAnew_51 {X : Nat × (Nat → Int32)} {I : Nat → Nat → Int32} {L : Nat → Nat → Int64} {F : Nat → Nat → UInt32} {Q : AQ} {x1 : Int32} {e1 : Int32} {e2 : Int32} (q : WP mX10_outOf 0 (am_ent 7 [.ref 498, .int e1, .int e2]) [] (G X I L F) 0 0 (am_kq mX10_peakAnew 51 [some (.ref 498), some (.int x1)] [] (0 + am_bc mX10_outOf) (0 + am_bs mX10_outOf) Q)) : WP mX10_peakAnew 51 [some (.ref 498), some (.int x1)] [.int e2, .int e1, .ref 498] (G X I L F) 0 0 Q := by
  refine w_invokevirtual rX10_peakAnew_51 rfl rfl rfl (Nat.le_of_ble_eq_true rfl) ⟨trivial, trivial, trivial, trivial⟩ (G_is (by decide) rfl) (by decide) (by decide) ?_
  exact q
theorem k_X10_peakAnew_54 {X : Nat × (Nat → Int32)} {I : Nat → Nat → Int32} {L : Nat → Nat → Int64} {F : Nat → Nat → UInt32} {Q : AQ} {x1 : Int32} {e0 : UInt32} (q : Q (.inl (some (.int (f_Jxf58ca_floatToIntBits_5c35a e0)))) (G X I L F)) : WP mX10_peakAnew 54 [some (.ref 498), some (.int x1)] [.float e0] (G X I L F) 0 0 Q := by
  refine w_invokestatic rX10_peakAnew_54 rfl rfl rfl (Nat.le_of_ble_eq_true rfl) ⟨trivial, trivial⟩ trivial (by decide) (by decide) ?_
  refine s_Jxf58ca_floatToIntBits_5c35a ?_
  show WP mX10_peakAnew 57 _ _ _ 0 0 _
  refine w_ireturn rX10_peakAnew_57 trivial ?_
  exact q
theorem k_X10_rule_0 {X : Nat × (Nat → Int32)} {I : Nat → Nat → Int32} {L : Nat → Nat → Int64} {F : Nat → Nat → UInt32} {Q : AQ} {dam : Int32} (q : ((f_X10_isDam dam) = 0 → ((f_X10_holds 1) = 0 → Q (.inl none) (G X (fI_X10_holds 1 I) L F)) ∧ (¬ (f_X10_holds 1) = 0 → vp_in dam 3 ∧ (vp_in dam 3 ∧ (WP mX10_rule 66 [some (.ref 498), some (.int dam), some (.int (f_X10_isDam dam)), some (.int 0)] [] (G X (am_u (am_u (fI_X10_holds 1 I) 521 (Int32.toNatClampNeg dam) (vp_nar .boolean 1)) 522 (Int32.toNatClampNeg dam) ((fI_X10_holds 1 I) 498 2)) L F) 0 0 Q)))) ∧ (¬ (f_X10_isDam dam) = 0 → WP mX10_faultOf 0 (am_ent 11 [.ref 498, .int 1]) [] (G X I L F) 0 0 (am_kq mX10_rule 16 [some (.ref 498), some (.int dam), some (.int (f_X10_isDam dam)), none] [.ref 498] (0 + am_bc mX10_faultOf) (0 + am_bs mX10_faultOf) Q))) : WP mX10_rule 0 (am_ent 4 [.ref 498, .int dam]) [] (G X I L F) 0 0 Q := by
  refine w_iload_n rX10_rule_0 rfl ?_
  refine w_invokestatic rX10_rule_1 rfl rfl rfl (Nat.le_of_ble_eq_true rfl) ⟨trivial, trivial⟩ trivial (by decide) (by decide) ?_
  refine s_X10_isDam ?_
  show WP mX10_rule 4 _ _ _ 0 0 _
  refine w_istore_n rX10_rule_4 rfl trivial ?_
  refine w_aload_n rX10_rule_5 rfl ?_
  refine w_iload_n rX10_rule_6 rfl ?_
  refine w_ifne rX10_rule_7 (fun h7 => ?_) (fun h7 => ?_)
  · replace q := q.2 h7
    refine w_aload_n rX10_rule_14 rfl ?_
    refine w_iconst rX10_rule_15 (x := 1) (by decide) ?_
    refine w_invokevirtual rX10_rule_16 rfl rfl rfl (Nat.le_of_ble_eq_true rfl) ⟨trivial, trivial, trivial⟩ (G_is (by decide) rfl) (by decide) (by decide) ?_
    exact q
  · replace q := q.1 h7
    refine w_iconst rX10_rule_10 (x := 1) (by decide) ?_
    refine w_goto rX10_rule_11 ?_
    refine w_invokevirtual rX10_rule_41 rfl rfl rfl (Nat.le_of_ble_eq_true rfl) ⟨trivial, trivial, trivial⟩ (G_is (by decide) rfl) (by decide) (by decide) ?_
    refine s_X10_holds ?_
    show WP mX10_rule 44 _ _ _ 0 0 _
    refine w_ifeq rX10_rule_44 (fun h44 => ?_) (fun h44 => ?_)
    · replace q := q.1 h44
      refine w_return rX10_rule_97 ?_
      exact q
    · replace q := q.2 h44
      refine w_aload_n rX10_rule_47 rfl ?_
      refine w_getR rX10_rule_48 rfl rfl (G_is (by decide) rfl) (x := 521) rfl ?_
      refine w_iload_n rX10_rule_51 rfl ?_
      refine w_iconst rX10_rule_52 (x := 1) (by decide) ?_
      have h53 := q.1
      replace q := q.2
      refine x_bastore rX10_rule_53 (G_at (by decide) rfl rfl h53) ?_
      refine w_aload_n rX10_rule_54 rfl ?_
      refine w_getR rX10_rule_55 rfl rfl (G_is (by decide) rfl) (x := 522) rfl ?_
      refine w_iload_n rX10_rule_58 rfl ?_
      refine w_aload_n rX10_rule_59 rfl ?_
      refine x_getI rX10_rule_60 rfl rfl (G_is (by decide) rfl) ?_
      rw [au_ne (f := (fI_X10_holds 1 I)) (o := 521) (k := (Int32.toNatClampNeg dam)) (a := 498) (b := 2) (fun z => absurd z.1 (by decide))]
      have h63 := q.1
      replace q := q.2
      refine x_iastore rX10_rule_63 (G_at (by decide) rfl rfl h63) ?_
      refine w_iconst rX10_rule_64 (x := 0) (by decide) ?_
      refine w_istore_n rX10_rule_65 rfl trivial ?_
      exact q
theorem k_X10_rule_19 {X : Nat × (Nat → Int32)} {I : Nat → Nat → Int32} {L : Nat → Nat → Int64} {F : Nat → Nat → UInt32} {Q : AQ} {x1 : Int32} {x2 : Int32} {e1 : Int32} (q : ((e1 = (-1) → vp_in x1 3 ∧ (True))) ∧ (∀ s20_1 : Int32, s20_1 = (if e1 = (-1) then (if (I 517 (Int32.toNatClampNeg x1)) = 0 then 3 else 0 : Int32) else 2 : Int32) → (((f_X10_holds s20_1) = 0 → Q (.inl none) (G X (fI_X10_holds s20_1 I) L F)) ∧ (¬ (f_X10_holds s20_1) = 0 → vp_in x1 3 ∧ (vp_in x1 3 ∧ (WP mX10_rule 66 [some (.ref 498), some (.int x1), some (.int x2), some (.int 0)] [] (G X (am_u (am_u (fI_X10_holds s20_1 I) 521 (Int32.toNatClampNeg x1) (vp_nar .boolean 1)) 522 (Int32.toNatClampNeg x1) ((fI_X10_holds s20_1 I) 498 2)) L F) 0 0 Q)))))) : WP mX10_rule 19 [some (.ref 498), some (.int x1), some (.int x2), none] [.int e1, .ref 498] (G X I L F) 0 0 Q := by
  refine w_iconst rX10_rule_19 (x := -1) (by decide) ?_
  have j20 : ∀ s20_1 : Int32, s20_1 = (if e1 = (-1) then (if (I 517 (Int32.toNatClampNeg x1)) = 0 then 3 else 0 : Int32) else 2 : Int32) → WP mX10_rule 41 [some (.ref 498), some (.int x1), some (.int x2), none] [.int s20_1, .ref 498] (G X I L F) 0 0 Q := by
    intro s20_1 es20_1
    replace q := q.2
    replace q := q s20_1 es20_1
    refine w_invokevirtual rX10_rule_41 rfl rfl rfl (Nat.le_of_ble_eq_true rfl) ⟨trivial, trivial, trivial⟩ (G_is (by decide) rfl) (by decide) (by decide) ?_
    refine s_X10_holds ?_
    show WP mX10_rule 44 _ _ _ 0 0 _
    refine w_ifeq rX10_rule_44 (fun h44 => ?_) (fun h44 => ?_)
    · replace q := q.1 h44
      refine w_return rX10_rule_97 ?_
      exact q
    · replace q := q.2 h44
      refine w_aload_n rX10_rule_47 rfl ?_
      refine w_getR rX10_rule_48 rfl rfl (G_is (by decide) rfl) (x := 521) rfl ?_
      refine w_iload_n rX10_rule_51 rfl ?_
      refine w_iconst rX10_rule_52 (x := 1) (by decide) ?_
      have h53 := q.1
      replace q := q.2
      refine x_bastore rX10_rule_53 (G_at (by decide) rfl rfl h53) ?_
      refine w_aload_n rX10_rule_54 rfl ?_
      refine w_getR rX10_rule_55 rfl rfl (G_is (by decide) rfl) (x := 522) rfl ?_
      refine w_iload_n rX10_rule_58 rfl ?_
      refine w_aload_n rX10_rule_59 rfl ?_
      refine x_getI rX10_rule_60 rfl rfl (G_is (by decide) rfl) ?_
      rw [au_ne (f := (fI_X10_holds s20_1 I)) (o := 521) (k := (Int32.toNatClampNeg x1)) (a := 498) (b := 2) (fun z => absurd z.1 (by decide))]
      have h63 := q.1
      replace q := q.2
      refine x_iastore rX10_rule_63 (G_at (by decide) rfl rfl h63) ?_
      refine w_iconst rX10_rule_64 (x := 0) (by decide) ?_
      refine w_istore_n rX10_rule_65 rfl trivial ?_
      exact q
  replace q := q.1
  refine w_icmpeq rX10_rule_20 (fun h20 => ?_) (fun h20 => ?_)
  · replace q := q h20
    refine w_aload_n rX10_rule_27 rfl ?_
    refine w_getR rX10_rule_28 rfl rfl (G_is (by decide) rfl) (x := 517) rfl ?_
    refine w_iload_n rX10_rule_31 rfl ?_
    have h32 := q.1
    replace q := q.2
    refine x_baload rX10_rule_32 (G_at (by decide) rfl rfl h32) ?_
    refine w_ifeq rX10_rule_33 (fun h33 => ?_) (fun h33 => ?_)
    · skip
      refine w_iconst rX10_rule_40 (x := 3) (by decide) ?_
      exact j20 _ ((if_pos h20).trans (if_pos h33)).symm
    · skip
      refine w_iconst rX10_rule_36 (x := 0) (by decide) ?_
      refine w_goto rX10_rule_37 ?_
      exact j20 _ ((if_pos h20).trans (if_neg h33)).symm
  · skip
    refine w_iconst rX10_rule_23 (x := 2) (by decide) ?_
    refine w_goto rX10_rule_24 ?_
    exact j20 _ (if_neg h20).symm
theorem k_X10_rule_66 {X : Nat × (Nat → Int32)} {I : Nat → Nat → Int32} {L : Nat → Nat → Int64} {F : Nat → Nat → UInt32} {Q : AQ} {x1 : Int32} {x2 : Int32} {x3 : Int32} (q : ((I 498 2) ≤ x3 → Q (.inl none) (G X I L F)) ∧ (¬ (I 498 2) ≤ x3 → vp_in x3 40 ∧ (vp_in ((40 * x1) + x3) 120 ∧ (WP mX10_rule 66 [some (.ref 498), some (.int x1), some (.int x2), some (.int (x3 + 1))] [] (G X (am_u I 523 (Int32.toNatClampNeg ((40 * x1) + x3)) (I 499 (Int32.toNatClampNeg x3))) L F) 0 0 Q)))) : WP mX10_rule 66 [some (.ref 498), some (.int x1), some (.int x2), some (.int x3)] [] (G X I L F) 0 0 Q := by
  refine w_iload_n rX10_rule_66 rfl ?_
  refine w_aload_n rX10_rule_67 rfl ?_
  refine x_getI rX10_rule_68 rfl rfl (G_is (by decide) rfl) ?_
  refine w_icmpge rX10_rule_71 (fun h71 => ?_) (fun h71 => ?_)
  · replace q := q.1 h71
    refine w_return rX10_rule_97 ?_
    exact q
  · replace q := q.2 h71
    refine w_aload_n rX10_rule_74 rfl ?_
    refine w_getR rX10_rule_75 rfl rfl (G_is (by decide) rfl) (x := 523) rfl ?_
    refine w_bipush rX10_rule_78 (x := 40) (by decide) ?_
    refine w_iload_n rX10_rule_80 rfl ?_
    refine w_imul rX10_rule_81 ?_
    refine w_iload_n rX10_rule_82 rfl ?_
    refine w_iadd rX10_rule_83 ?_
    refine w_aload_n rX10_rule_84 rfl ?_
    refine w_getR rX10_rule_85 rfl rfl (G_is (by decide) rfl) (x := 499) rfl ?_
    refine w_iload_n rX10_rule_88 rfl ?_
    have h89 := q.1
    replace q := q.2
    refine x_iaload rX10_rule_89 (G_at (by decide) rfl rfl h89) ?_
    have h90 := q.1
    replace q := q.2
    refine x_iastore rX10_rule_90 (G_at (by decide) rfl rfl h90) ?_
    refine w_iinc rX10_rule_91 rfl rfl trivial ?_
    refine w_goto rX10_rule_94 ?_
    exact q
theorem k_X10_isFor_0 {X : Nat × (Nat → Int32)} {I : Nat → Nat → Int32} {L : Nat → Nat → Int64} {F : Nat → Nat → UInt32} {Q : AQ} {dam : Int32} {run : Int32} (q : WP mX10_whyOf 0 (am_ent 7 [.ref 498, .int run]) [] (G X I L F) 0 0 (am_kq mX10_isFor 2 [some (.ref 498), some (.int dam), some (.int run)] [] (0 + am_bc mX10_whyOf) (0 + am_bs mX10_whyOf) Q)) : WP mX10_isFor 0 (am_ent 3 [.ref 498, .int dam, .int run]) [] (G X I L F) 0 0 Q := by
  refine w_aload_n rX10_isFor_0 rfl ?_
  refine w_iload_n rX10_isFor_1 rfl ?_
  refine w_invokevirtual rX10_isFor_2 rfl rfl rfl (Nat.le_of_ble_eq_true rfl) ⟨trivial, trivial, trivial⟩ (G_is (by decide) rfl) (by decide) (by decide) ?_
  exact q
theorem k_X10_isFor_5 {X : Nat × (Nat → Int32)} {I : Nat → Nat → Int32} {L : Nat → Nat → Int64} {F : Nat → Nat → UInt32} {Q : AQ} {x1 : Int32} {x2 : Int32} {e0 : Int32} (q : ((e0 = 0 → vp_in x2 40 ∧ (vp_in (I 511 (Int32.toNatClampNeg x2)) 60 ∧ (vp_in x1 3 ∧ (True))))) ∧ (∀ s5_0 : Int32, s5_0 = (if e0 = 0 then (if (I 501 (Int32.toNatClampNeg (I 511 (Int32.toNatClampNeg x2)))) = (I 518 (Int32.toNatClampNeg x1)) then 1 else 0 : Int32) else 0 : Int32) → ((s5_0 = 0 ∨ s5_0 = 1) ∧ (Q (.inl (some (.int s5_0))) (G X I L F))))) : WP mX10_isFor 5 [some (.ref 498), some (.int x1), some (.int x2)] [.int e0] (G X I L F) 0 0 Q := by
  have j5 : ∀ s5_0 : Int32, s5_0 = (if e0 = 0 then (if (I 501 (Int32.toNatClampNeg (I 511 (Int32.toNatClampNeg x2)))) = (I 518 (Int32.toNatClampNeg x1)) then 1 else 0 : Int32) else 0 : Int32) → WP mX10_isFor 33 [some (.ref 498), some (.int x1), some (.int x2)] [.int s5_0] (G X I L F) 0 0 Q := by
    intro s5_0 es5_0
    replace q := q.2
    replace q := q s5_0 es5_0
    have z33 := q.1
    replace q := q.2
    refine w_ireturn rX10_isFor_33 z33 ?_
    exact q
  replace q := q.1
  refine w_ifne rX10_isFor_5 (fun h5 => ?_) (fun h5 => ?_)
  · skip
    refine w_iconst rX10_isFor_32 (x := 0) (by decide) ?_
    exact j5 _ (if_neg h5).symm
  · replace q := q h5
    refine w_aload_n rX10_isFor_8 rfl ?_
    refine w_getR rX10_isFor_9 rfl rfl (G_is (by decide) rfl) (x := 501) rfl ?_
    refine w_aload_n rX10_isFor_12 rfl ?_
    refine w_getR rX10_isFor_13 rfl rfl (G_is (by decide) rfl) (x := 511) rfl ?_
    refine w_iload_n rX10_isFor_16 rfl ?_
    have h17 := q.1
    replace q := q.2
    refine x_iaload rX10_isFor_17 (G_at (by decide) rfl rfl h17) ?_
    have h18 := q.1
    replace q := q.2
    refine x_iaload rX10_isFor_18 (G_at (by decide) rfl rfl h18) ?_
    refine w_aload_n rX10_isFor_19 rfl ?_
    refine w_getR rX10_isFor_20 rfl rfl (G_is (by decide) rfl) (x := 518) rfl ?_
    refine w_iload_n rX10_isFor_23 rfl ?_
    have h24 := q.1
    replace q := q.2
    refine x_iaload rX10_isFor_24 (G_at (by decide) rfl rfl h24) ?_
    refine w_icmpne rX10_isFor_25 (fun h25 => ?_) (fun h25 => ?_)
    · skip
      refine w_iconst rX10_isFor_32 (x := 0) (by decide) ?_
      exact j5 _ ((if_pos h5).trans (if_neg h25)).symm
    · skip
      refine w_iconst rX10_isFor_28 (x := 1) (by decide) ?_
      refine w_goto rX10_isFor_29 ?_
      exact j5 _ ((if_pos h5).trans (if_pos h25)).symm
theorem k_X10_goBy_0 {X : Nat × (Nat → Int32)} {I : Nat → Nat → Int32} {L : Nat → Nat → Int64} {F : Nat → Nat → UInt32} {Q : AQ} {dam : Int32} {run : Int32} (q : ∀ s4_0 : Int32, s4_0 = (if (f_X10_isDam dam) = 0 then 0 else (if (f_X10_isRun run I) = 0 then 0 else 1 : Int32) : Int32) → ((s4_0 = 0 → ((¬ (f_X10_holds 1) = 0 → vp_in dam 3 ∧ (True))) ∧ (∀ I56 : Nat → Nat → Int32, I56 = (if (f_X10_holds 1) = 0 then (fI_X10_holds 1 I) else (am_u (fI_X10_holds 1 I) 524 (Int32.toNatClampNeg dam) run) : Nat → Nat → Int32) → (Q (.inl none) (G X I56 L F)))) ∧ (¬ s4_0 = 0 → vp_in dam 3 ∧ (((I 517 (Int32.toNatClampNeg dam)) = 0 → ((¬ (f_X10_holds 2) = 0 → vp_in dam 3 ∧ (True))) ∧ (∀ I56 : Nat → Nat → Int32, I56 = (if (f_X10_holds 2) = 0 then (fI_X10_holds 2 I) else (am_u (fI_X10_holds 2 I) 524 (Int32.toNatClampNeg dam) run) : Nat → Nat → Int32) → (Q (.inl none) (G X I56 L F)))) ∧ (¬ (I 517 (Int32.toNatClampNeg dam)) = 0 → WP mX10_isFor 0 (am_ent 3 [.ref 498, .int dam, .int run]) [] (G X I L F) 0 0 (am_kq mX10_goBy 42 [some (.ref 498), some (.int dam), some (.int run), some (.int s4_0)] [.ref 498] (0 + am_bc mX10_isFor) (0 + am_bs mX10_isFor) Q)))))) : WP mX10_goBy 0 (am_ent 4 [.ref 498, .int dam, .int run]) [] (G X I L F) 0 0 Q := by
  refine w_iload_n rX10_goBy_0 rfl ?_
  refine w_invokestatic rX10_goBy_1 rfl rfl rfl (Nat.le_of_ble_eq_true rfl) ⟨trivial, trivial⟩ trivial (by decide) (by decide) ?_
  refine s_X10_isDam ?_
  show WP mX10_goBy 4 _ _ _ 0 0 _
  have j4 : ∀ s4_0 : Int32, s4_0 = (if (f_X10_isDam dam) = 0 then 0 else (if (f_X10_isRun run I) = 0 then 0 else 1 : Int32) : Int32) → WP mX10_goBy 20 [some (.ref 498), some (.int dam), some (.int run), none] [.int s4_0] (G X I L F) 0 0 Q := by
    intro s4_0 es4_0
    replace q := q s4_0 es4_0
    refine w_istore_n rX10_goBy_20 rfl trivial ?_
    refine w_aload_n rX10_goBy_21 rfl ?_
    refine w_iload_n rX10_goBy_22 rfl ?_
    refine w_ifne rX10_goBy_23 (fun h23 => ?_) (fun h23 => ?_)
    · replace q := q.2 h23
      refine w_aload_n rX10_goBy_30 rfl ?_
      refine w_getR rX10_goBy_31 rfl rfl (G_is (by decide) rfl) (x := 517) rfl ?_
      refine w_iload_n rX10_goBy_34 rfl ?_
      have h35 := q.1
      replace q := q.2
      refine x_baload rX10_goBy_35 (G_at (by decide) rfl rfl h35) ?_
      refine w_ifeq rX10_goBy_36 (fun h36 => ?_) (fun h36 => ?_)
      · replace q := q.1 h36
        refine w_iconst rX10_goBy_52 (x := 2) (by decide) ?_
        refine w_invokevirtual rX10_goBy_53 rfl rfl rfl (Nat.le_of_ble_eq_true rfl) ⟨trivial, trivial, trivial⟩ (G_is (by decide) rfl) (by decide) (by decide) ?_
        refine s_X10_holds ?_
        show WP mX10_goBy 56 _ _ _ 0 0 _
        have j56 : ∀ I56 : Nat → Nat → Int32, I56 = (if (f_X10_holds 2) = 0 then (fI_X10_holds 2 I) else (am_u (fI_X10_holds 2 I) 524 (Int32.toNatClampNeg dam) run) : Nat → Nat → Int32) → WP mX10_goBy 66 [some (.ref 498), some (.int dam), some (.int run), some (.int s4_0)] [] (G X I56 L F) 0 0 Q := by
          intro I56 eI56
          replace q := q.2
          replace q := q I56 eI56
          refine w_return rX10_goBy_66 ?_
          exact q
        replace q := q.1
        refine w_ifeq rX10_goBy_56 (fun h56 => ?_) (fun h56 => ?_)
        · skip
          exact j56 _ (if_pos h56).symm
        · replace q := q h56
          refine w_aload_n rX10_goBy_59 rfl ?_
          refine w_getR rX10_goBy_60 rfl rfl (G_is (by decide) rfl) (x := 524) rfl ?_
          refine w_iload_n rX10_goBy_63 rfl ?_
          refine w_iload_n rX10_goBy_64 rfl ?_
          have h65 := q.1
          replace q := q.2
          refine x_iastore rX10_goBy_65 (G_at (by decide) rfl rfl h65) ?_
          exact j56 _ (if_neg h56).symm
      · replace q := q.2 h36
        refine w_aload_n rX10_goBy_39 rfl ?_
        refine w_iload_n rX10_goBy_40 rfl ?_
        refine w_iload_n rX10_goBy_41 rfl ?_
        refine w_invokevirtual rX10_goBy_42 rfl rfl rfl (Nat.le_of_ble_eq_true rfl) ⟨trivial, trivial, trivial, trivial⟩ (G_is (by decide) rfl) (by decide) (by decide) ?_
        exact q
    · replace q := q.1 h23
      refine w_iconst rX10_goBy_26 (x := 1) (by decide) ?_
      refine w_goto rX10_goBy_27 ?_
      refine w_invokevirtual rX10_goBy_53 rfl rfl rfl (Nat.le_of_ble_eq_true rfl) ⟨trivial, trivial, trivial⟩ (G_is (by decide) rfl) (by decide) (by decide) ?_
      refine s_X10_holds ?_
      show WP mX10_goBy 56 _ _ _ 0 0 _
      have j56 : ∀ I56 : Nat → Nat → Int32, I56 = (if (f_X10_holds 1) = 0 then (fI_X10_holds 1 I) else (am_u (fI_X10_holds 1 I) 524 (Int32.toNatClampNeg dam) run) : Nat → Nat → Int32) → WP mX10_goBy 66 [some (.ref 498), some (.int dam), some (.int run), some (.int s4_0)] [] (G X I56 L F) 0 0 Q := by
        intro I56 eI56
        replace q := q.2
        replace q := q I56 eI56
        refine w_return rX10_goBy_66 ?_
        exact q
      replace q := q.1
      refine w_ifeq rX10_goBy_56 (fun h56 => ?_) (fun h56 => ?_)
      · skip
        exact j56 _ (if_pos h56).symm
      · replace q := q h56
        refine w_aload_n rX10_goBy_59 rfl ?_
        refine w_getR rX10_goBy_60 rfl rfl (G_is (by decide) rfl) (x := 524) rfl ?_
        refine w_iload_n rX10_goBy_63 rfl ?_
        refine w_iload_n rX10_goBy_64 rfl ?_
        have h65 := q.1
        replace q := q.2
        refine x_iastore rX10_goBy_65 (G_at (by decide) rfl rfl h65) ?_
        exact j56 _ (if_neg h56).symm
  refine w_ifeq rX10_goBy_4 (fun h4 => ?_) (fun h4 => ?_)
  · skip
    refine w_iconst rX10_goBy_19 (x := 0) (by decide) ?_
    exact j4 _ (if_pos h4).symm
  · skip
    refine w_aload_n rX10_goBy_7 rfl ?_
    refine w_iload_n rX10_goBy_8 rfl ?_
    refine w_invokevirtual rX10_goBy_9 rfl rfl rfl (Nat.le_of_ble_eq_true rfl) ⟨trivial, trivial, trivial⟩ (G_is (by decide) rfl) (by decide) (by decide) ?_
    refine s_X10_isRun ?_
    show WP mX10_goBy 12 _ _ _ 0 0 _
    refine w_ifeq rX10_goBy_12 (fun h12 => ?_) (fun h12 => ?_)
    · skip
      refine w_iconst rX10_goBy_19 (x := 0) (by decide) ?_
      exact j4 _ ((if_neg h4).trans (if_pos h12)).symm
    · skip
      refine w_iconst rX10_goBy_15 (x := 1) (by decide) ?_
      refine w_goto rX10_goBy_16 ?_
      exact j4 _ ((if_neg h4).trans (if_neg h12)).symm
theorem k_X10_goBy_45 {X : Nat × (Nat → Int32)} {I : Nat → Nat → Int32} {L : Nat → Nat → Int64} {F : Nat → Nat → UInt32} {Q : AQ} {x1 : Int32} {x2 : Int32} {x3 : Int32} {e1 : Int32} (q : ∀ s45_1 : Int32, s45_1 = (if e1 = 0 then 2 else 0 : Int32) → (((¬ (f_X10_holds s45_1) = 0 → vp_in x1 3 ∧ (True))) ∧ (∀ I56 : Nat → Nat → Int32, I56 = (if (f_X10_holds s45_1) = 0 then (fI_X10_holds s45_1 I) else (am_u (fI_X10_holds s45_1 I) 524 (Int32.toNatClampNeg x1) x2) : Nat → Nat → Int32) → (Q (.inl none) (G X I56 L F))))) : WP mX10_goBy 45 [some (.ref 498), some (.int x1), some (.int x2), some (.int x3)] [.int e1, .ref 498] (G X I L F) 0 0 Q := by
  have j45 : ∀ s45_1 : Int32, s45_1 = (if e1 = 0 then 2 else 0 : Int32) → WP mX10_goBy 53 [some (.ref 498), some (.int x1), some (.int x2), some (.int x3)] [.int s45_1, .ref 498] (G X I L F) 0 0 Q := by
    intro s45_1 es45_1
    replace q := q s45_1 es45_1
    refine w_invokevirtual rX10_goBy_53 rfl rfl rfl (Nat.le_of_ble_eq_true rfl) ⟨trivial, trivial, trivial⟩ (G_is (by decide) rfl) (by decide) (by decide) ?_
    refine s_X10_holds ?_
    show WP mX10_goBy 56 _ _ _ 0 0 _
    have j56 : ∀ I56 : Nat → Nat → Int32, I56 = (if (f_X10_holds s45_1) = 0 then (fI_X10_holds s45_1 I) else (am_u (fI_X10_holds s45_1 I) 524 (Int32.toNatClampNeg x1) x2) : Nat → Nat → Int32) → WP mX10_goBy 66 [some (.ref 498), some (.int x1), some (.int x2), some (.int x3)] [] (G X I56 L F) 0 0 Q := by
      intro I56 eI56
      replace q := q.2
      replace q := q I56 eI56
      refine w_return rX10_goBy_66 ?_
      exact q
    replace q := q.1
    refine w_ifeq rX10_goBy_56 (fun h56 => ?_) (fun h56 => ?_)
    · skip
      exact j56 _ (if_pos h56).symm
    · replace q := q h56
      refine w_aload_n rX10_goBy_59 rfl ?_
      refine w_getR rX10_goBy_60 rfl rfl (G_is (by decide) rfl) (x := 524) rfl ?_
      refine w_iload_n rX10_goBy_63 rfl ?_
      refine w_iload_n rX10_goBy_64 rfl ?_
      have h65 := q.1
      replace q := q.2
      refine x_iastore rX10_goBy_65 (G_at (by decide) rfl rfl h65) ?_
      exact j56 _ (if_neg h56).symm
  refine w_ifeq rX10_goBy_45 (fun h45 => ?_) (fun h45 => ?_)
  · skip
    refine w_iconst rX10_goBy_52 (x := 2) (by decide) ?_
    exact j45 _ (if_pos h45).symm
  · skip
    refine w_iconst rX10_goBy_48 (x := 0) (by decide) ?_
    refine w_goto rX10_goBy_49 ?_
    exact j45 _ (if_neg h45).symm
theorem k_X10_rings_0 {X : Nat × (Nat → Int32)} {I : Nat → Nat → Int32} {L : Nat → Nat → Int64} {F : Nat → Nat → UInt32} {Q : AQ} {dam : Int32} (q : WP mX10_rings 4 [some (.ref 498), some (.int dam), some (.int 0), some (.int 0)] [] (G X I L F) 0 0 Q) : WP mX10_rings 0 (am_ent 4 [.ref 498, .int dam]) [] (G X I L F) 0 0 Q := by
  refine w_iconst rX10_rings_0 (x := 0) (by decide) ?_
  refine w_istore_n rX10_rings_1 rfl trivial ?_
  refine w_iconst rX10_rings_2 (x := 0) (by decide) ?_
  refine w_istore_n rX10_rings_3 rfl trivial ?_
  exact q
theorem k_X10_rings_4 {X : Nat × (Nat → Int32)} {I : Nat → Nat → Int32} {L : Nat → Nat → Int64} {F : Nat → Nat → UInt32} {Q : AQ} {x1 : Int32} {x2 : Int32} {x3 : Int32} (q : ((I 498 39) ≤ x3 → (x2 = 0 ∨ x2 = 1) ∧ (Q (.inl (some (.int x2))) (G X I L F))) ∧ (¬ (I 498 39) ≤ x3 → ((x2 = 0 → vp_in x3 60 ∧ (((I 532 (Int32.toNatClampNeg x3)) = x1 → vp_in x3 60 ∧ (True))))) ∧ (∀ s13_0 : Int32, s13_0 = (if x2 = 0 then (if (I 532 (Int32.toNatClampNeg x3)) = x1 then (if (I 535 (Int32.toNatClampNeg x3)) = 0 then 1 else 0 : Int32) else 0 : Int32) else 1 : Int32) → (WP mX10_rings 4 [some (.ref 498), some (.int x1), some (.int s13_0), some (.int (x3 + 1))] [] (G X I L F) 0 0 Q)))) : WP mX10_rings 4 [some (.ref 498), some (.int x1), some (.int x2), some (.int x3)] [] (G X I L F) 0 0 Q := by
  refine w_iload_n rX10_rings_4 rfl ?_
  refine w_aload_n rX10_rings_5 rfl ?_
  refine x_getI rX10_rings_6 rfl rfl (G_is (by decide) rfl) ?_
  refine w_icmpge rX10_rings_9 (fun h9 => ?_) (fun h9 => ?_)
  · replace q := q.1 h9
    refine w_iload_n rX10_rings_47 rfl ?_
    have z48 := q.1
    replace q := q.2
    refine w_ireturn rX10_rings_48 z48 ?_
    exact q
  · replace q := q.2 h9
    refine w_iload_n rX10_rings_12 rfl ?_
    have j13 : ∀ s13_0 : Int32, s13_0 = (if x2 = 0 then (if (I 532 (Int32.toNatClampNeg x3)) = x1 then (if (I 535 (Int32.toNatClampNeg x3)) = 0 then 1 else 0 : Int32) else 0 : Int32) else 1 : Int32) → WP mX10_rings 40 [some (.ref 498), some (.int x1), some (.int x2), some (.int x3)] [.int s13_0] (G X I L F) 0 0 Q := by
      intro s13_0 es13_0
      replace q := q.2
      replace q := q s13_0 es13_0
      refine w_istore_n rX10_rings_40 rfl trivial ?_
      refine w_iinc rX10_rings_41 rfl rfl trivial ?_
      refine w_goto rX10_rings_44 ?_
      exact q
    replace q := q.1
    refine w_ifne rX10_rings_13 (fun h13 => ?_) (fun h13 => ?_)
    · skip
      refine w_iconst rX10_rings_35 (x := 1) (by decide) ?_
      refine w_goto rX10_rings_36 ?_
      exact j13 _ (if_neg h13).symm
    · replace q := q h13
      refine w_aload_n rX10_rings_16 rfl ?_
      refine w_getR rX10_rings_17 rfl rfl (G_is (by decide) rfl) (x := 532) rfl ?_
      refine w_iload_n rX10_rings_20 rfl ?_
      have h21 := q.1
      replace q := q.2
      refine x_iaload rX10_rings_21 (G_at (by decide) rfl rfl h21) ?_
      refine w_iload_n rX10_rings_22 rfl ?_
      refine w_icmpne rX10_rings_23 (fun h23 => ?_) (fun h23 => ?_)
      · skip
        refine w_iconst rX10_rings_39 (x := 0) (by decide) ?_
        exact j13 _ ((if_pos h13).trans (if_neg h23)).symm
      · replace q := q h23
        refine w_aload_n rX10_rings_26 rfl ?_
        refine w_getR rX10_rings_27 rfl rfl (G_is (by decide) rfl) (x := 535) rfl ?_
        refine w_iload_n rX10_rings_30 rfl ?_
        have h31 := q.1
        replace q := q.2
        refine x_iaload rX10_rings_31 (G_at (by decide) rfl rfl h31) ?_
        refine w_ifne rX10_rings_32 (fun h32 => ?_) (fun h32 => ?_)
        · skip
          refine w_iconst rX10_rings_39 (x := 0) (by decide) ?_
          exact j13 _ (((if_pos h13).trans (if_pos h23)).trans (if_neg h32)).symm
        · skip
          refine w_iconst rX10_rings_35 (x := 1) (by decide) ?_
          refine w_goto rX10_rings_36 ?_
          exact j13 _ (((if_pos h13).trans (if_pos h23)).trans (if_pos h32)).symm
theorem k_X10_sound_0 {X : Nat × (Nat → Int32)} {I : Nat → Nat → Int32} {L : Nat → Nat → Int64} {F : Nat → Nat → UInt32} {Q : AQ} {dam : Int32} {run : Int32} (q : ∀ s4_0 : Int32, s4_0 = (if (f_X10_isDam dam) = 0 then 0 else (if (f_X10_isRun run I) = 0 then 0 else 1 : Int32) : Int32) → ((s4_0 = 0 → ((f_X10_holds 1) = 0 → Q (.inl (some (.int 0))) (G X (fI_X10_holds 1 I) L F)) ∧ (¬ (f_X10_holds 1) = 0 → vp_in ((fI_X10_holds 1 I) 498 39) 60 ∧ (vp_in ((fI_X10_holds 1 I) 498 39) 60 ∧ (vp_in ((fI_X10_holds 1 I) 498 39) 60 ∧ (vp_in ((fI_X10_holds 1 I) 498 39) 60 ∧ (vp_in dam 3 ∧ (vp_in dam 3 ∧ (vf_n32 (FP.fmul (FP.i2f ((fI_X10_holds 1 I) 527 (Int32.toNatClampNeg dam))) (F 530 (Int32.toNatClampNeg dam))) ∧ (vp_in ((fI_X10_holds 1 I) 498 39) 60 ∧ (Q (.inl (some (.int ((((fI_X10_holds 1 I) 498 39) + 1) - 1)))) (G X (am_u (am_u (am_u (am_u (am_u (am_u (fI_X10_holds 1 I) 532 (Int32.toNatClampNeg ((fI_X10_holds 1 I) 498 39)) dam) 533 (Int32.toNatClampNeg ((fI_X10_holds 1 I) 498 39)) run) 534 (Int32.toNatClampNeg ((fI_X10_holds 1 I) 498 39)) ((fI_X10_holds 1 I) 498 1)) 535 (Int32.toNatClampNeg ((fI_X10_holds 1 I) 498 39)) 0) 536 (Int32.toNatClampNeg ((fI_X10_holds 1 I) 498 39)) (FP.f2i (FP.fmul (FP.i2f ((fI_X10_holds 1 I) 527 (Int32.toNatClampNeg dam))) (F 530 (Int32.toNatClampNeg dam))))) 498 39 (((fI_X10_holds 1 I) 498 39) + 1)) L F))))))))))) ∧ (¬ s4_0 = 0 → vp_in dam 3 ∧ (((I 526 (Int32.toNatClampNeg dam)) = 0 → ((f_X10_holds 2) = 0 → Q (.inl (some (.int 0))) (G X (fI_X10_holds 2 I) L F)) ∧ (¬ (f_X10_holds 2) = 0 → vp_in ((fI_X10_holds 2 I) 498 39) 60 ∧ (vp_in ((fI_X10_holds 2 I) 498 39) 60 ∧ (vp_in ((fI_X10_holds 2 I) 498 39) 60 ∧ (vp_in ((fI_X10_holds 2 I) 498 39) 60 ∧ (vp_in dam 3 ∧ (vp_in dam 3 ∧ (vf_n32 (FP.fmul (FP.i2f ((fI_X10_holds 2 I) 527 (Int32.toNatClampNeg dam))) (F 530 (Int32.toNatClampNeg dam))) ∧ (vp_in ((fI_X10_holds 2 I) 498 39) 60 ∧ (Q (.inl (some (.int ((((fI_X10_holds 2 I) 498 39) + 1) - 1)))) (G X (am_u (am_u (am_u (am_u (am_u (am_u (fI_X10_holds 2 I) 532 (Int32.toNatClampNeg ((fI_X10_holds 2 I) 498 39)) dam) 533 (Int32.toNatClampNeg ((fI_X10_holds 2 I) 498 39)) run) 534 (Int32.toNatClampNeg ((fI_X10_holds 2 I) 498 39)) ((fI_X10_holds 2 I) 498 1)) 535 (Int32.toNatClampNeg ((fI_X10_holds 2 I) 498 39)) 0) 536 (Int32.toNatClampNeg ((fI_X10_holds 2 I) 498 39)) (FP.f2i (FP.fmul (FP.i2f ((fI_X10_holds 2 I) 527 (Int32.toNatClampNeg dam))) (F 530 (Int32.toNatClampNeg dam))))) 498 39 (((fI_X10_holds 2 I) 498 39) + 1)) L F))))))))))) ∧ (¬ (I 526 (Int32.toNatClampNeg dam)) = 0 → WP mX10_isFor 0 (am_ent 3 [.ref 498, .int dam, .int run]) [] (G X I L F) 0 0 (am_kq mX10_sound 37 [some (.ref 498), some (.int dam), some (.int run), some (.int s4_0), none] [] (0 + am_bc mX10_isFor) (0 + am_bs mX10_isFor) Q)))))) : WP mX10_sound 0 (am_ent 5 [.ref 498, .int dam, .int run]) [] (G X I L F) 0 0 Q := by
  refine w_iload_n rX10_sound_0 rfl ?_
  refine w_invokestatic rX10_sound_1 rfl rfl rfl (Nat.le_of_ble_eq_true rfl) ⟨trivial, trivial⟩ trivial (by decide) (by decide) ?_
  refine s_X10_isDam ?_
  show WP mX10_sound 4 _ _ _ 0 0 _
  have j4 : ∀ s4_0 : Int32, s4_0 = (if (f_X10_isDam dam) = 0 then 0 else (if (f_X10_isRun run I) = 0 then 0 else 1 : Int32) : Int32) → WP mX10_sound 20 [some (.ref 498), some (.int dam), some (.int run), none, none] [.int s4_0] (G X I L F) 0 0 Q := by
    intro s4_0 es4_0
    replace q := q s4_0 es4_0
    refine w_istore_n rX10_sound_20 rfl trivial ?_
    refine w_iload_n rX10_sound_21 rfl ?_
    refine w_ifeq rX10_sound_22 (fun h22 => ?_) (fun h22 => ?_)
    · replace q := q.1 h22
      refine w_iconst rX10_sound_81 (x := 0) (by decide) ?_
      refine w_istore rX10_sound_82 rfl trivial ?_
      refine w_aload_n rX10_sound_84 rfl ?_
      refine w_iload_n rX10_sound_85 rfl ?_
      refine w_ifne rX10_sound_86 (fun h => absurd h22 h) (fun _ => ?_)
      refine w_iconst rX10_sound_89 (x := 1) (by decide) ?_
      refine w_goto rX10_sound_90 ?_
      refine w_invokevirtual rX10_sound_103 rfl rfl rfl (Nat.le_of_ble_eq_true rfl) ⟨trivial, trivial, trivial⟩ (G_is (by decide) rfl) (by decide) (by decide) ?_
      refine s_X10_holds ?_
      show WP mX10_sound 106 _ _ _ 0 0 _
      refine w_ifne rX10_sound_106 (fun h106 => ?_) (fun h106 => ?_)
      · replace q := q.2 h106
        refine w_aload_n rX10_sound_111 rfl ?_
        refine w_getR rX10_sound_112 rfl rfl (G_is (by decide) rfl) (x := 532) rfl ?_
        refine w_aload_n rX10_sound_115 rfl ?_
        refine x_getI rX10_sound_116 rfl rfl (G_is (by decide) rfl) ?_
        refine w_iload_n rX10_sound_119 rfl ?_
        have h120 := q.1
        replace q := q.2
        refine x_iastore rX10_sound_120 (G_at (by decide) rfl rfl h120) ?_
        refine w_aload_n rX10_sound_121 rfl ?_
        refine w_getR rX10_sound_122 rfl rfl (G_is (by decide) rfl) (x := 533) rfl ?_
        refine w_aload_n rX10_sound_125 rfl ?_
        refine x_getI rX10_sound_126 rfl rfl (G_is (by decide) rfl) ?_
        rw [au_ne (f := (fI_X10_holds 1 I)) (o := 532) (k := (Int32.toNatClampNeg ((fI_X10_holds 1 I) 498 39))) (a := 498) (b := 39) (fun z => absurd z.1 (by decide))]
        refine w_iload_n rX10_sound_129 rfl ?_
        have h130 := q.1
        replace q := q.2
        refine x_iastore rX10_sound_130 (G_at (by decide) rfl rfl h130) ?_
        refine w_aload_n rX10_sound_131 rfl ?_
        refine w_getR rX10_sound_132 rfl rfl (G_is (by decide) rfl) (x := 534) rfl ?_
        refine w_aload_n rX10_sound_135 rfl ?_
        refine x_getI rX10_sound_136 rfl rfl (G_is (by decide) rfl) ?_
        rw [au_ne (f := (am_u (fI_X10_holds 1 I) 532 (Int32.toNatClampNeg ((fI_X10_holds 1 I) 498 39)) dam)) (o := 533) (k := (Int32.toNatClampNeg ((fI_X10_holds 1 I) 498 39))) (a := 498) (b := 39) (fun z => absurd z.1 (by decide))]
        rw [au_ne (f := (fI_X10_holds 1 I)) (o := 532) (k := (Int32.toNatClampNeg ((fI_X10_holds 1 I) 498 39))) (a := 498) (b := 39) (fun z => absurd z.1 (by decide))]
        refine w_aload_n rX10_sound_139 rfl ?_
        refine x_getI rX10_sound_140 rfl rfl (G_is (by decide) rfl) ?_
        rw [au_ne (f := (am_u (fI_X10_holds 1 I) 532 (Int32.toNatClampNeg ((fI_X10_holds 1 I) 498 39)) dam)) (o := 533) (k := (Int32.toNatClampNeg ((fI_X10_holds 1 I) 498 39))) (a := 498) (b := 1) (fun z => absurd z.1 (by decide))]
        rw [au_ne (f := (fI_X10_holds 1 I)) (o := 532) (k := (Int32.toNatClampNeg ((fI_X10_holds 1 I) 498 39))) (a := 498) (b := 1) (fun z => absurd z.1 (by decide))]
        have h143 := q.1
        replace q := q.2
        refine x_iastore rX10_sound_143 (G_at (by decide) rfl rfl h143) ?_
        refine w_aload_n rX10_sound_144 rfl ?_
        refine w_getR rX10_sound_145 rfl rfl (G_is (by decide) rfl) (x := 535) rfl ?_
        refine w_aload_n rX10_sound_148 rfl ?_
        refine x_getI rX10_sound_149 rfl rfl (G_is (by decide) rfl) ?_
        rw [au_ne (f := (am_u (am_u (fI_X10_holds 1 I) 532 (Int32.toNatClampNeg ((fI_X10_holds 1 I) 498 39)) dam) 533 (Int32.toNatClampNeg ((fI_X10_holds 1 I) 498 39)) run)) (o := 534) (k := (Int32.toNatClampNeg ((fI_X10_holds 1 I) 498 39))) (a := 498) (b := 39) (fun z => absurd z.1 (by decide))]
        rw [au_ne (f := (am_u (fI_X10_holds 1 I) 532 (Int32.toNatClampNeg ((fI_X10_holds 1 I) 498 39)) dam)) (o := 533) (k := (Int32.toNatClampNeg ((fI_X10_holds 1 I) 498 39))) (a := 498) (b := 39) (fun z => absurd z.1 (by decide))]
        rw [au_ne (f := (fI_X10_holds 1 I)) (o := 532) (k := (Int32.toNatClampNeg ((fI_X10_holds 1 I) 498 39))) (a := 498) (b := 39) (fun z => absurd z.1 (by decide))]
        refine w_iconst rX10_sound_152 (x := 0) (by decide) ?_
        have h153 := q.1
        replace q := q.2
        refine x_iastore rX10_sound_153 (G_at (by decide) rfl rfl h153) ?_
        refine w_aload_n rX10_sound_154 rfl ?_
        refine w_getR rX10_sound_155 rfl rfl (G_is (by decide) rfl) (x := 536) rfl ?_
        refine w_aload_n rX10_sound_158 rfl ?_
        refine x_getI rX10_sound_159 rfl rfl (G_is (by decide) rfl) ?_
        rw [au_ne (f := (am_u (am_u (am_u (fI_X10_holds 1 I) 532 (Int32.toNatClampNeg ((fI_X10_holds 1 I) 498 39)) dam) 533 (Int32.toNatClampNeg ((fI_X10_holds 1 I) 498 39)) run) 534 (Int32.toNatClampNeg ((fI_X10_holds 1 I) 498 39)) ((fI_X10_holds 1 I) 498 1))) (o := 535) (k := (Int32.toNatClampNeg ((fI_X10_holds 1 I) 498 39))) (a := 498) (b := 39) (fun z => absurd z.1 (by decide))]
        rw [au_ne (f := (am_u (am_u (fI_X10_holds 1 I) 532 (Int32.toNatClampNeg ((fI_X10_holds 1 I) 498 39)) dam) 533 (Int32.toNatClampNeg ((fI_X10_holds 1 I) 498 39)) run)) (o := 534) (k := (Int32.toNatClampNeg ((fI_X10_holds 1 I) 498 39))) (a := 498) (b := 39) (fun z => absurd z.1 (by decide))]
        rw [au_ne (f := (am_u (fI_X10_holds 1 I) 532 (Int32.toNatClampNeg ((fI_X10_holds 1 I) 498 39)) dam)) (o := 533) (k := (Int32.toNatClampNeg ((fI_X10_holds 1 I) 498 39))) (a := 498) (b := 39) (fun z => absurd z.1 (by decide))]
        rw [au_ne (f := (fI_X10_holds 1 I)) (o := 532) (k := (Int32.toNatClampNeg ((fI_X10_holds 1 I) 498 39))) (a := 498) (b := 39) (fun z => absurd z.1 (by decide))]
        refine w_aload_n rX10_sound_162 rfl ?_
        refine w_getR rX10_sound_163 rfl rfl (G_is (by decide) rfl) (x := 527) rfl ?_
        refine w_iload_n rX10_sound_166 rfl ?_
        have h167 := q.1
        replace q := q.2
        refine x_iaload rX10_sound_167 (G_at (by decide) rfl rfl h167) ?_
        rw [au_ne (f := (am_u (am_u (am_u (fI_X10_holds 1 I) 532 (Int32.toNatClampNeg ((fI_X10_holds 1 I) 498 39)) dam) 533 (Int32.toNatClampNeg ((fI_X10_holds 1 I) 498 39)) run) 534 (Int32.toNatClampNeg ((fI_X10_holds 1 I) 498 39)) ((fI_X10_holds 1 I) 498 1))) (o := 535) (k := (Int32.toNatClampNeg ((fI_X10_holds 1 I) 498 39))) (a := 527) (b := (Int32.toNatClampNeg dam)) (fun z => absurd z.1 (by decide))]
        rw [au_ne (f := (am_u (am_u (fI_X10_holds 1 I) 532 (Int32.toNatClampNeg ((fI_X10_holds 1 I) 498 39)) dam) 533 (Int32.toNatClampNeg ((fI_X10_holds 1 I) 498 39)) run)) (o := 534) (k := (Int32.toNatClampNeg ((fI_X10_holds 1 I) 498 39))) (a := 527) (b := (Int32.toNatClampNeg dam)) (fun z => absurd z.1 (by decide))]
        rw [au_ne (f := (am_u (fI_X10_holds 1 I) 532 (Int32.toNatClampNeg ((fI_X10_holds 1 I) 498 39)) dam)) (o := 533) (k := (Int32.toNatClampNeg ((fI_X10_holds 1 I) 498 39))) (a := 527) (b := (Int32.toNatClampNeg dam)) (fun z => absurd z.1 (by decide))]
        rw [au_ne (f := (fI_X10_holds 1 I)) (o := 532) (k := (Int32.toNatClampNeg ((fI_X10_holds 1 I) 498 39))) (a := 527) (b := (Int32.toNatClampNeg dam)) (fun z => absurd z.1 (by decide))]
        refine w_i2f rX10_sound_168 ?_
        refine w_aload_n rX10_sound_169 rfl ?_
        refine w_getR rX10_sound_170 rfl rfl (G_is (by decide) rfl) (x := 530) rfl ?_
        refine w_iload_n rX10_sound_173 rfl ?_
        have h174 := q.1
        replace q := q.2
        refine x_faload rX10_sound_174 (G_at (by decide) rfl rfl h174) ?_
        refine w_fmul rX10_sound_175 q.1 ?_
        replace q := q.2
        refine w_f2i rX10_sound_176 ?_
        have h177 := q.1
        replace q := q.2
        refine x_iastore rX10_sound_177 (G_at (by decide) rfl rfl h177) ?_
        refine w_aload_n rX10_sound_178 rfl ?_
        refine w_dup rX10_sound_179 trivial ?_
        refine x_getI rX10_sound_180 rfl rfl (G_is (by decide) rfl) ?_
        rw [au_ne (f := (am_u (am_u (am_u (am_u (fI_X10_holds 1 I) 532 (Int32.toNatClampNeg ((fI_X10_holds 1 I) 498 39)) dam) 533 (Int32.toNatClampNeg ((fI_X10_holds 1 I) 498 39)) run) 534 (Int32.toNatClampNeg ((fI_X10_holds 1 I) 498 39)) ((fI_X10_holds 1 I) 498 1)) 535 (Int32.toNatClampNeg ((fI_X10_holds 1 I) 498 39)) 0)) (o := 536) (k := (Int32.toNatClampNeg ((fI_X10_holds 1 I) 498 39))) (a := 498) (b := 39) (fun z => absurd z.1 (by decide))]
        rw [au_ne (f := (am_u (am_u (am_u (fI_X10_holds 1 I) 532 (Int32.toNatClampNeg ((fI_X10_holds 1 I) 498 39)) dam) 533 (Int32.toNatClampNeg ((fI_X10_holds 1 I) 498 39)) run) 534 (Int32.toNatClampNeg ((fI_X10_holds 1 I) 498 39)) ((fI_X10_holds 1 I) 498 1))) (o := 535) (k := (Int32.toNatClampNeg ((fI_X10_holds 1 I) 498 39))) (a := 498) (b := 39) (fun z => absurd z.1 (by decide))]
        rw [au_ne (f := (am_u (am_u (fI_X10_holds 1 I) 532 (Int32.toNatClampNeg ((fI_X10_holds 1 I) 498 39)) dam) 533 (Int32.toNatClampNeg ((fI_X10_holds 1 I) 498 39)) run)) (o := 534) (k := (Int32.toNatClampNeg ((fI_X10_holds 1 I) 498 39))) (a := 498) (b := 39) (fun z => absurd z.1 (by decide))]
        rw [au_ne (f := (am_u (fI_X10_holds 1 I) 532 (Int32.toNatClampNeg ((fI_X10_holds 1 I) 498 39)) dam)) (o := 533) (k := (Int32.toNatClampNeg ((fI_X10_holds 1 I) 498 39))) (a := 498) (b := 39) (fun z => absurd z.1 (by decide))]
        rw [au_ne (f := (fI_X10_holds 1 I)) (o := 532) (k := (Int32.toNatClampNeg ((fI_X10_holds 1 I) 498 39))) (a := 498) (b := 39) (fun z => absurd z.1 (by decide))]
        refine w_iconst rX10_sound_183 (x := 1) (by decide) ?_
        refine w_iadd rX10_sound_184 ?_
        refine x_putI rX10_sound_185 rfl (G_is (by decide) rfl) trivial ?_
        refine w_aload_n rX10_sound_188 rfl ?_
        refine x_getI rX10_sound_189 rfl rfl (G_is (by decide) rfl) ?_
        rw [am_u_eq (f := (am_u (am_u (am_u (am_u (am_u (fI_X10_holds 1 I) 532 (Int32.toNatClampNeg ((fI_X10_holds 1 I) 498 39)) dam) 533 (Int32.toNatClampNeg ((fI_X10_holds 1 I) 498 39)) run) 534 (Int32.toNatClampNeg ((fI_X10_holds 1 I) 498 39)) ((fI_X10_holds 1 I) 498 1)) 535 (Int32.toNatClampNeg ((fI_X10_holds 1 I) 498 39)) 0) 536 (Int32.toNatClampNeg ((fI_X10_holds 1 I) 498 39)) (FP.f2i (FP.fmul (FP.i2f ((fI_X10_holds 1 I) 527 (Int32.toNatClampNeg dam))) (F 530 (Int32.toNatClampNeg dam)))))) (o := 498) (k := 39)]
        refine w_iconst rX10_sound_192 (x := 1) (by decide) ?_
        refine w_isub rX10_sound_193 ?_
        refine w_ireturn rX10_sound_194 trivial ?_
        exact q
      · replace q := q.1 h106
        refine w_iconst rX10_sound_109 (x := 0) (by decide) ?_
        refine w_ireturn rX10_sound_110 trivial ?_
        exact q
    · replace q := q.2 h22
      refine w_aload_n rX10_sound_25 rfl ?_
      refine w_getR rX10_sound_26 rfl rfl (G_is (by decide) rfl) (x := 526) rfl ?_
      refine w_iload_n rX10_sound_29 rfl ?_
      have h30 := q.1
      replace q := q.2
      refine x_baload rX10_sound_30 (G_at (by decide) rfl rfl h30) ?_
      refine w_ifeq rX10_sound_31 (fun h31 => ?_) (fun h31 => ?_)
      · replace q := q.1 h31
        refine w_iconst rX10_sound_81 (x := 0) (by decide) ?_
        refine w_istore rX10_sound_82 rfl trivial ?_
        refine w_aload_n rX10_sound_84 rfl ?_
        refine w_iload_n rX10_sound_85 rfl ?_
        refine w_ifne rX10_sound_86 (fun _ => ?_) (fun h => absurd h h22)
        refine w_iload rX10_sound_93 rfl ?_
        refine w_ifeq rX10_sound_95 (fun _ => ?_) (fun h => absurd (show (0 : Int32) = 0 from by decide) h)
        refine w_iconst rX10_sound_102 (x := 2) (by decide) ?_
        refine w_invokevirtual rX10_sound_103 rfl rfl rfl (Nat.le_of_ble_eq_true rfl) ⟨trivial, trivial, trivial⟩ (G_is (by decide) rfl) (by decide) (by decide) ?_
        refine s_X10_holds ?_
        show WP mX10_sound 106 _ _ _ 0 0 _
        refine w_ifne rX10_sound_106 (fun h106 => ?_) (fun h106 => ?_)
        · replace q := q.2 h106
          refine w_aload_n rX10_sound_111 rfl ?_
          refine w_getR rX10_sound_112 rfl rfl (G_is (by decide) rfl) (x := 532) rfl ?_
          refine w_aload_n rX10_sound_115 rfl ?_
          refine x_getI rX10_sound_116 rfl rfl (G_is (by decide) rfl) ?_
          refine w_iload_n rX10_sound_119 rfl ?_
          have h120 := q.1
          replace q := q.2
          refine x_iastore rX10_sound_120 (G_at (by decide) rfl rfl h120) ?_
          refine w_aload_n rX10_sound_121 rfl ?_
          refine w_getR rX10_sound_122 rfl rfl (G_is (by decide) rfl) (x := 533) rfl ?_
          refine w_aload_n rX10_sound_125 rfl ?_
          refine x_getI rX10_sound_126 rfl rfl (G_is (by decide) rfl) ?_
          rw [au_ne (f := (fI_X10_holds 2 I)) (o := 532) (k := (Int32.toNatClampNeg ((fI_X10_holds 2 I) 498 39))) (a := 498) (b := 39) (fun z => absurd z.1 (by decide))]
          refine w_iload_n rX10_sound_129 rfl ?_
          have h130 := q.1
          replace q := q.2
          refine x_iastore rX10_sound_130 (G_at (by decide) rfl rfl h130) ?_
          refine w_aload_n rX10_sound_131 rfl ?_
          refine w_getR rX10_sound_132 rfl rfl (G_is (by decide) rfl) (x := 534) rfl ?_
          refine w_aload_n rX10_sound_135 rfl ?_
          refine x_getI rX10_sound_136 rfl rfl (G_is (by decide) rfl) ?_
          rw [au_ne (f := (am_u (fI_X10_holds 2 I) 532 (Int32.toNatClampNeg ((fI_X10_holds 2 I) 498 39)) dam)) (o := 533) (k := (Int32.toNatClampNeg ((fI_X10_holds 2 I) 498 39))) (a := 498) (b := 39) (fun z => absurd z.1 (by decide))]
          rw [au_ne (f := (fI_X10_holds 2 I)) (o := 532) (k := (Int32.toNatClampNeg ((fI_X10_holds 2 I) 498 39))) (a := 498) (b := 39) (fun z => absurd z.1 (by decide))]
          refine w_aload_n rX10_sound_139 rfl ?_
          refine x_getI rX10_sound_140 rfl rfl (G_is (by decide) rfl) ?_
          rw [au_ne (f := (am_u (fI_X10_holds 2 I) 532 (Int32.toNatClampNeg ((fI_X10_holds 2 I) 498 39)) dam)) (o := 533) (k := (Int32.toNatClampNeg ((fI_X10_holds 2 I) 498 39))) (a := 498) (b := 1) (fun z => absurd z.1 (by decide))]
          rw [au_ne (f := (fI_X10_holds 2 I)) (o := 532) (k := (Int32.toNatClampNeg ((fI_X10_holds 2 I) 498 39))) (a := 498) (b := 1) (fun z => absurd z.1 (by decide))]
          have h143 := q.1
          replace q := q.2
          refine x_iastore rX10_sound_143 (G_at (by decide) rfl rfl h143) ?_
          refine w_aload_n rX10_sound_144 rfl ?_
          refine w_getR rX10_sound_145 rfl rfl (G_is (by decide) rfl) (x := 535) rfl ?_
          refine w_aload_n rX10_sound_148 rfl ?_
          refine x_getI rX10_sound_149 rfl rfl (G_is (by decide) rfl) ?_
          rw [au_ne (f := (am_u (am_u (fI_X10_holds 2 I) 532 (Int32.toNatClampNeg ((fI_X10_holds 2 I) 498 39)) dam) 533 (Int32.toNatClampNeg ((fI_X10_holds 2 I) 498 39)) run)) (o := 534) (k := (Int32.toNatClampNeg ((fI_X10_holds 2 I) 498 39))) (a := 498) (b := 39) (fun z => absurd z.1 (by decide))]
          rw [au_ne (f := (am_u (fI_X10_holds 2 I) 532 (Int32.toNatClampNeg ((fI_X10_holds 2 I) 498 39)) dam)) (o := 533) (k := (Int32.toNatClampNeg ((fI_X10_holds 2 I) 498 39))) (a := 498) (b := 39) (fun z => absurd z.1 (by decide))]
          rw [au_ne (f := (fI_X10_holds 2 I)) (o := 532) (k := (Int32.toNatClampNeg ((fI_X10_holds 2 I) 498 39))) (a := 498) (b := 39) (fun z => absurd z.1 (by decide))]
          refine w_iconst rX10_sound_152 (x := 0) (by decide) ?_
          have h153 := q.1
          replace q := q.2
          refine x_iastore rX10_sound_153 (G_at (by decide) rfl rfl h153) ?_
          refine w_aload_n rX10_sound_154 rfl ?_
          refine w_getR rX10_sound_155 rfl rfl (G_is (by decide) rfl) (x := 536) rfl ?_
          refine w_aload_n rX10_sound_158 rfl ?_
          refine x_getI rX10_sound_159 rfl rfl (G_is (by decide) rfl) ?_
          rw [au_ne (f := (am_u (am_u (am_u (fI_X10_holds 2 I) 532 (Int32.toNatClampNeg ((fI_X10_holds 2 I) 498 39)) dam) 533 (Int32.toNatClampNeg ((fI_X10_holds 2 I) 498 39)) run) 534 (Int32.toNatClampNeg ((fI_X10_holds 2 I) 498 39)) ((fI_X10_holds 2 I) 498 1))) (o := 535) (k := (Int32.toNatClampNeg ((fI_X10_holds 2 I) 498 39))) (a := 498) (b := 39) (fun z => absurd z.1 (by decide))]
          rw [au_ne (f := (am_u (am_u (fI_X10_holds 2 I) 532 (Int32.toNatClampNeg ((fI_X10_holds 2 I) 498 39)) dam) 533 (Int32.toNatClampNeg ((fI_X10_holds 2 I) 498 39)) run)) (o := 534) (k := (Int32.toNatClampNeg ((fI_X10_holds 2 I) 498 39))) (a := 498) (b := 39) (fun z => absurd z.1 (by decide))]
          rw [au_ne (f := (am_u (fI_X10_holds 2 I) 532 (Int32.toNatClampNeg ((fI_X10_holds 2 I) 498 39)) dam)) (o := 533) (k := (Int32.toNatClampNeg ((fI_X10_holds 2 I) 498 39))) (a := 498) (b := 39) (fun z => absurd z.1 (by decide))]
          rw [au_ne (f := (fI_X10_holds 2 I)) (o := 532) (k := (Int32.toNatClampNeg ((fI_X10_holds 2 I) 498 39))) (a := 498) (b := 39) (fun z => absurd z.1 (by decide))]
          refine w_aload_n rX10_sound_162 rfl ?_
          refine w_getR rX10_sound_163 rfl rfl (G_is (by decide) rfl) (x := 527) rfl ?_
          refine w_iload_n rX10_sound_166 rfl ?_
          have h167 := q.1
          replace q := q.2
          refine x_iaload rX10_sound_167 (G_at (by decide) rfl rfl h167) ?_
          rw [au_ne (f := (am_u (am_u (am_u (fI_X10_holds 2 I) 532 (Int32.toNatClampNeg ((fI_X10_holds 2 I) 498 39)) dam) 533 (Int32.toNatClampNeg ((fI_X10_holds 2 I) 498 39)) run) 534 (Int32.toNatClampNeg ((fI_X10_holds 2 I) 498 39)) ((fI_X10_holds 2 I) 498 1))) (o := 535) (k := (Int32.toNatClampNeg ((fI_X10_holds 2 I) 498 39))) (a := 527) (b := (Int32.toNatClampNeg dam)) (fun z => absurd z.1 (by decide))]
          rw [au_ne (f := (am_u (am_u (fI_X10_holds 2 I) 532 (Int32.toNatClampNeg ((fI_X10_holds 2 I) 498 39)) dam) 533 (Int32.toNatClampNeg ((fI_X10_holds 2 I) 498 39)) run)) (o := 534) (k := (Int32.toNatClampNeg ((fI_X10_holds 2 I) 498 39))) (a := 527) (b := (Int32.toNatClampNeg dam)) (fun z => absurd z.1 (by decide))]
          rw [au_ne (f := (am_u (fI_X10_holds 2 I) 532 (Int32.toNatClampNeg ((fI_X10_holds 2 I) 498 39)) dam)) (o := 533) (k := (Int32.toNatClampNeg ((fI_X10_holds 2 I) 498 39))) (a := 527) (b := (Int32.toNatClampNeg dam)) (fun z => absurd z.1 (by decide))]
          rw [au_ne (f := (fI_X10_holds 2 I)) (o := 532) (k := (Int32.toNatClampNeg ((fI_X10_holds 2 I) 498 39))) (a := 527) (b := (Int32.toNatClampNeg dam)) (fun z => absurd z.1 (by decide))]
          refine w_i2f rX10_sound_168 ?_
          refine w_aload_n rX10_sound_169 rfl ?_
          refine w_getR rX10_sound_170 rfl rfl (G_is (by decide) rfl) (x := 530) rfl ?_
          refine w_iload_n rX10_sound_173 rfl ?_
          have h174 := q.1
          replace q := q.2
          refine x_faload rX10_sound_174 (G_at (by decide) rfl rfl h174) ?_
          refine w_fmul rX10_sound_175 q.1 ?_
          replace q := q.2
          refine w_f2i rX10_sound_176 ?_
          have h177 := q.1
          replace q := q.2
          refine x_iastore rX10_sound_177 (G_at (by decide) rfl rfl h177) ?_
          refine w_aload_n rX10_sound_178 rfl ?_
          refine w_dup rX10_sound_179 trivial ?_
          refine x_getI rX10_sound_180 rfl rfl (G_is (by decide) rfl) ?_
          rw [au_ne (f := (am_u (am_u (am_u (am_u (fI_X10_holds 2 I) 532 (Int32.toNatClampNeg ((fI_X10_holds 2 I) 498 39)) dam) 533 (Int32.toNatClampNeg ((fI_X10_holds 2 I) 498 39)) run) 534 (Int32.toNatClampNeg ((fI_X10_holds 2 I) 498 39)) ((fI_X10_holds 2 I) 498 1)) 535 (Int32.toNatClampNeg ((fI_X10_holds 2 I) 498 39)) 0)) (o := 536) (k := (Int32.toNatClampNeg ((fI_X10_holds 2 I) 498 39))) (a := 498) (b := 39) (fun z => absurd z.1 (by decide))]
          rw [au_ne (f := (am_u (am_u (am_u (fI_X10_holds 2 I) 532 (Int32.toNatClampNeg ((fI_X10_holds 2 I) 498 39)) dam) 533 (Int32.toNatClampNeg ((fI_X10_holds 2 I) 498 39)) run) 534 (Int32.toNatClampNeg ((fI_X10_holds 2 I) 498 39)) ((fI_X10_holds 2 I) 498 1))) (o := 535) (k := (Int32.toNatClampNeg ((fI_X10_holds 2 I) 498 39))) (a := 498) (b := 39) (fun z => absurd z.1 (by decide))]
          rw [au_ne (f := (am_u (am_u (fI_X10_holds 2 I) 532 (Int32.toNatClampNeg ((fI_X10_holds 2 I) 498 39)) dam) 533 (Int32.toNatClampNeg ((fI_X10_holds 2 I) 498 39)) run)) (o := 534) (k := (Int32.toNatClampNeg ((fI_X10_holds 2 I) 498 39))) (a := 498) (b := 39) (fun z => absurd z.1 (by decide))]
          rw [au_ne (f := (am_u (fI_X10_holds 2 I) 532 (Int32.toNatClampNeg ((fI_X10_holds 2 I) 498 39)) dam)) (o := 533) (k := (Int32.toNatClampNeg ((fI_X10_holds 2 I) 498 39))) (a := 498) (b := 39) (fun z => absurd z.1 (by decide))]
          rw [au_ne (f := (fI_X10_holds 2 I)) (o := 532) (k := (Int32.toNatClampNeg ((fI_X10_holds 2 I) 498 39))) (a := 498) (b := 39) (fun z => absurd z.1 (by decide))]
          refine w_iconst rX10_sound_183 (x := 1) (by decide) ?_
          refine w_iadd rX10_sound_184 ?_
          refine x_putI rX10_sound_185 rfl (G_is (by decide) rfl) trivial ?_
          refine w_aload_n rX10_sound_188 rfl ?_
          refine x_getI rX10_sound_189 rfl rfl (G_is (by decide) rfl) ?_
          rw [am_u_eq (f := (am_u (am_u (am_u (am_u (am_u (fI_X10_holds 2 I) 532 (Int32.toNatClampNeg ((fI_X10_holds 2 I) 498 39)) dam) 533 (Int32.toNatClampNeg ((fI_X10_holds 2 I) 498 39)) run) 534 (Int32.toNatClampNeg ((fI_X10_holds 2 I) 498 39)) ((fI_X10_holds 2 I) 498 1)) 535 (Int32.toNatClampNeg ((fI_X10_holds 2 I) 498 39)) 0) 536 (Int32.toNatClampNeg ((fI_X10_holds 2 I) 498 39)) (FP.f2i (FP.fmul (FP.i2f ((fI_X10_holds 2 I) 527 (Int32.toNatClampNeg dam))) (F 530 (Int32.toNatClampNeg dam)))))) (o := 498) (k := 39)]
          refine w_iconst rX10_sound_192 (x := 1) (by decide) ?_
          refine w_isub rX10_sound_193 ?_
          refine w_ireturn rX10_sound_194 trivial ?_
          exact q
        · replace q := q.1 h106
          refine w_iconst rX10_sound_109 (x := 0) (by decide) ?_
          refine w_ireturn rX10_sound_110 trivial ?_
          exact q
      · replace q := q.2 h31
        refine w_aload_n rX10_sound_34 rfl ?_
        refine w_iload_n rX10_sound_35 rfl ?_
        refine w_iload_n rX10_sound_36 rfl ?_
        refine w_invokevirtual rX10_sound_37 rfl rfl rfl (Nat.le_of_ble_eq_true rfl) ⟨trivial, trivial, trivial, trivial⟩ (G_is (by decide) rfl) (by decide) (by decide) ?_
        exact q
  refine w_ifeq rX10_sound_4 (fun h4 => ?_) (fun h4 => ?_)
  · skip
    refine w_iconst rX10_sound_19 (x := 0) (by decide) ?_
    exact j4 _ (if_pos h4).symm
  · skip
    refine w_aload_n rX10_sound_7 rfl ?_
    refine w_iload_n rX10_sound_8 rfl ?_
    refine w_invokevirtual rX10_sound_9 rfl rfl rfl (Nat.le_of_ble_eq_true rfl) ⟨trivial, trivial, trivial⟩ (G_is (by decide) rfl) (by decide) (by decide) ?_
    refine s_X10_isRun ?_
    show WP mX10_sound 12 _ _ _ 0 0 _
    refine w_ifeq rX10_sound_12 (fun h12 => ?_) (fun h12 => ?_)
    · skip
      refine w_iconst rX10_sound_19 (x := 0) (by decide) ?_
      exact j4 _ ((if_neg h4).trans (if_pos h12)).symm
    · skip
      refine w_iconst rX10_sound_15 (x := 1) (by decide) ?_
      refine w_goto rX10_sound_16 ?_
      exact j4 _ ((if_neg h4).trans (if_neg h12)).symm
theorem k_X10_sound_40 {X : Nat × (Nat → Int32)} {I : Nat → Nat → Int32} {L : Nat → Nat → Int64} {F : Nat → Nat → UInt32} {Q : AQ} {x1 : Int32} {x2 : Int32} {x3 : Int32} {e0 : Int32} (q : (e0 = 0 → ∀ s86_1 : Int32, s86_1 = (if x3 = 0 then 1 else 2 : Int32) → (((f_X10_holds s86_1) = 0 → Q (.inl (some (.int 0))) (G X (fI_X10_holds s86_1 I) L F)) ∧ (¬ (f_X10_holds s86_1) = 0 → vp_in ((fI_X10_holds s86_1 I) 498 39) 60 ∧ (vp_in ((fI_X10_holds s86_1 I) 498 39) 60 ∧ (vp_in ((fI_X10_holds s86_1 I) 498 39) 60 ∧ (vp_in ((fI_X10_holds s86_1 I) 498 39) 60 ∧ (vp_in x1 3 ∧ (vp_in x1 3 ∧ (vf_n32 (FP.fmul (FP.i2f ((fI_X10_holds s86_1 I) 527 (Int32.toNatClampNeg x1))) (F 530 (Int32.toNatClampNeg x1))) ∧ (vp_in ((fI_X10_holds s86_1 I) 498 39) 60 ∧ (Q (.inl (some (.int ((((fI_X10_holds s86_1 I) 498 39) + 1) - 1)))) (G X (am_u (am_u (am_u (am_u (am_u (am_u (fI_X10_holds s86_1 I) 532 (Int32.toNatClampNeg ((fI_X10_holds s86_1 I) 498 39)) x1) 533 (Int32.toNatClampNeg ((fI_X10_holds s86_1 I) 498 39)) x2) 534 (Int32.toNatClampNeg ((fI_X10_holds s86_1 I) 498 39)) ((fI_X10_holds s86_1 I) 498 1)) 535 (Int32.toNatClampNeg ((fI_X10_holds s86_1 I) 498 39)) 0) 536 (Int32.toNatClampNeg ((fI_X10_holds s86_1 I) 498 39)) (FP.f2i (FP.fmul (FP.i2f ((fI_X10_holds s86_1 I) 527 (Int32.toNatClampNeg x1))) (F 530 (Int32.toNatClampNeg x1))))) 498 39 (((fI_X10_holds s86_1 I) 498 39) + 1)) L F)))))))))))) ∧ (¬ e0 = 0 → vp_in x2 40 ∧ (vp_in x1 3 ∧ (((Op.cmpValue (FP.fcmp (F 514 (Int32.toNatClampNeg x2)) (FP.i2f (I 528 (Int32.toNatClampNeg x1)))) .l) < 0 → ∀ s86_1 : Int32, s86_1 = (if x3 = 0 then 1 else 2 : Int32) → (((f_X10_holds s86_1) = 0 → Q (.inl (some (.int 0))) (G X (fI_X10_holds s86_1 I) L F)) ∧ (¬ (f_X10_holds s86_1) = 0 → vp_in ((fI_X10_holds s86_1 I) 498 39) 60 ∧ (vp_in ((fI_X10_holds s86_1 I) 498 39) 60 ∧ (vp_in ((fI_X10_holds s86_1 I) 498 39) 60 ∧ (vp_in ((fI_X10_holds s86_1 I) 498 39) 60 ∧ (vp_in x1 3 ∧ (vp_in x1 3 ∧ (vf_n32 (FP.fmul (FP.i2f ((fI_X10_holds s86_1 I) 527 (Int32.toNatClampNeg x1))) (F 530 (Int32.toNatClampNeg x1))) ∧ (vp_in ((fI_X10_holds s86_1 I) 498 39) 60 ∧ (Q (.inl (some (.int ((((fI_X10_holds s86_1 I) 498 39) + 1) - 1)))) (G X (am_u (am_u (am_u (am_u (am_u (am_u (fI_X10_holds s86_1 I) 532 (Int32.toNatClampNeg ((fI_X10_holds s86_1 I) 498 39)) x1) 533 (Int32.toNatClampNeg ((fI_X10_holds s86_1 I) 498 39)) x2) 534 (Int32.toNatClampNeg ((fI_X10_holds s86_1 I) 498 39)) ((fI_X10_holds s86_1 I) 498 1)) 535 (Int32.toNatClampNeg ((fI_X10_holds s86_1 I) 498 39)) 0) 536 (Int32.toNatClampNeg ((fI_X10_holds s86_1 I) 498 39)) (FP.f2i (FP.fmul (FP.i2f ((fI_X10_holds s86_1 I) 527 (Int32.toNatClampNeg x1))) (F 530 (Int32.toNatClampNeg x1))))) 498 39 (((fI_X10_holds s86_1 I) 498 39) + 1)) L F)))))))))))) ∧ (¬ (Op.cmpValue (FP.fcmp (F 514 (Int32.toNatClampNeg x2)) (FP.i2f (I 528 (Int32.toNatClampNeg x1)))) .l) < 0 → WP mX10_rings 0 (am_ent 4 [.ref 498, .int x1]) [] (G X I L F) 0 0 (am_kq mX10_sound 62 [some (.ref 498), some (.int x1), some (.int x2), some (.int x3), none] [] (0 + am_bc mX10_rings) (0 + am_bs mX10_rings) Q)))))) : WP mX10_sound 40 [some (.ref 498), some (.int x1), some (.int x2), some (.int x3), none] [.int e0] (G X I L F) 0 0 Q := by
  refine w_ifeq rX10_sound_40 (fun h40 => ?_) (fun h40 => ?_)
  · replace q := q.1 h40
    refine w_iconst rX10_sound_81 (x := 0) (by decide) ?_
    refine w_istore rX10_sound_82 rfl trivial ?_
    refine w_aload_n rX10_sound_84 rfl ?_
    refine w_iload_n rX10_sound_85 rfl ?_
    have j86 : ∀ s86_1 : Int32, s86_1 = (if x3 = 0 then 1 else 2 : Int32) → WP mX10_sound 103 [some (.ref 498), some (.int x1), some (.int x2), some (.int x3), some (.int 0)] [.int s86_1, .ref 498] (G X I L F) 0 0 Q := by
      intro s86_1 es86_1
      replace q := q s86_1 es86_1
      refine w_invokevirtual rX10_sound_103 rfl rfl rfl (Nat.le_of_ble_eq_true rfl) ⟨trivial, trivial, trivial⟩ (G_is (by decide) rfl) (by decide) (by decide) ?_
      refine s_X10_holds ?_
      show WP mX10_sound 106 _ _ _ 0 0 _
      refine w_ifne rX10_sound_106 (fun h106 => ?_) (fun h106 => ?_)
      · replace q := q.2 h106
        refine w_aload_n rX10_sound_111 rfl ?_
        refine w_getR rX10_sound_112 rfl rfl (G_is (by decide) rfl) (x := 532) rfl ?_
        refine w_aload_n rX10_sound_115 rfl ?_
        refine x_getI rX10_sound_116 rfl rfl (G_is (by decide) rfl) ?_
        refine w_iload_n rX10_sound_119 rfl ?_
        have h120 := q.1
        replace q := q.2
        refine x_iastore rX10_sound_120 (G_at (by decide) rfl rfl h120) ?_
        refine w_aload_n rX10_sound_121 rfl ?_
        refine w_getR rX10_sound_122 rfl rfl (G_is (by decide) rfl) (x := 533) rfl ?_
        refine w_aload_n rX10_sound_125 rfl ?_
        refine x_getI rX10_sound_126 rfl rfl (G_is (by decide) rfl) ?_
        rw [au_ne (f := (fI_X10_holds s86_1 I)) (o := 532) (k := (Int32.toNatClampNeg ((fI_X10_holds s86_1 I) 498 39))) (a := 498) (b := 39) (fun z => absurd z.1 (by decide))]
        refine w_iload_n rX10_sound_129 rfl ?_
        have h130 := q.1
        replace q := q.2
        refine x_iastore rX10_sound_130 (G_at (by decide) rfl rfl h130) ?_
        refine w_aload_n rX10_sound_131 rfl ?_
        refine w_getR rX10_sound_132 rfl rfl (G_is (by decide) rfl) (x := 534) rfl ?_
        refine w_aload_n rX10_sound_135 rfl ?_
        refine x_getI rX10_sound_136 rfl rfl (G_is (by decide) rfl) ?_
        rw [au_ne (f := (am_u (fI_X10_holds s86_1 I) 532 (Int32.toNatClampNeg ((fI_X10_holds s86_1 I) 498 39)) x1)) (o := 533) (k := (Int32.toNatClampNeg ((fI_X10_holds s86_1 I) 498 39))) (a := 498) (b := 39) (fun z => absurd z.1 (by decide))]
        rw [au_ne (f := (fI_X10_holds s86_1 I)) (o := 532) (k := (Int32.toNatClampNeg ((fI_X10_holds s86_1 I) 498 39))) (a := 498) (b := 39) (fun z => absurd z.1 (by decide))]
        refine w_aload_n rX10_sound_139 rfl ?_
        refine x_getI rX10_sound_140 rfl rfl (G_is (by decide) rfl) ?_
        rw [au_ne (f := (am_u (fI_X10_holds s86_1 I) 532 (Int32.toNatClampNeg ((fI_X10_holds s86_1 I) 498 39)) x1)) (o := 533) (k := (Int32.toNatClampNeg ((fI_X10_holds s86_1 I) 498 39))) (a := 498) (b := 1) (fun z => absurd z.1 (by decide))]
        rw [au_ne (f := (fI_X10_holds s86_1 I)) (o := 532) (k := (Int32.toNatClampNeg ((fI_X10_holds s86_1 I) 498 39))) (a := 498) (b := 1) (fun z => absurd z.1 (by decide))]
        have h143 := q.1
        replace q := q.2
        refine x_iastore rX10_sound_143 (G_at (by decide) rfl rfl h143) ?_
        refine w_aload_n rX10_sound_144 rfl ?_
        refine w_getR rX10_sound_145 rfl rfl (G_is (by decide) rfl) (x := 535) rfl ?_
        refine w_aload_n rX10_sound_148 rfl ?_
        refine x_getI rX10_sound_149 rfl rfl (G_is (by decide) rfl) ?_
        rw [au_ne (f := (am_u (am_u (fI_X10_holds s86_1 I) 532 (Int32.toNatClampNeg ((fI_X10_holds s86_1 I) 498 39)) x1) 533 (Int32.toNatClampNeg ((fI_X10_holds s86_1 I) 498 39)) x2)) (o := 534) (k := (Int32.toNatClampNeg ((fI_X10_holds s86_1 I) 498 39))) (a := 498) (b := 39) (fun z => absurd z.1 (by decide))]
        rw [au_ne (f := (am_u (fI_X10_holds s86_1 I) 532 (Int32.toNatClampNeg ((fI_X10_holds s86_1 I) 498 39)) x1)) (o := 533) (k := (Int32.toNatClampNeg ((fI_X10_holds s86_1 I) 498 39))) (a := 498) (b := 39) (fun z => absurd z.1 (by decide))]
        rw [au_ne (f := (fI_X10_holds s86_1 I)) (o := 532) (k := (Int32.toNatClampNeg ((fI_X10_holds s86_1 I) 498 39))) (a := 498) (b := 39) (fun z => absurd z.1 (by decide))]
        refine w_iconst rX10_sound_152 (x := 0) (by decide) ?_
        have h153 := q.1
        replace q := q.2
        refine x_iastore rX10_sound_153 (G_at (by decide) rfl rfl h153) ?_
        refine w_aload_n rX10_sound_154 rfl ?_
        refine w_getR rX10_sound_155 rfl rfl (G_is (by decide) rfl) (x := 536) rfl ?_
        refine w_aload_n rX10_sound_158 rfl ?_
        refine x_getI rX10_sound_159 rfl rfl (G_is (by decide) rfl) ?_
        rw [au_ne (f := (am_u (am_u (am_u (fI_X10_holds s86_1 I) 532 (Int32.toNatClampNeg ((fI_X10_holds s86_1 I) 498 39)) x1) 533 (Int32.toNatClampNeg ((fI_X10_holds s86_1 I) 498 39)) x2) 534 (Int32.toNatClampNeg ((fI_X10_holds s86_1 I) 498 39)) ((fI_X10_holds s86_1 I) 498 1))) (o := 535) (k := (Int32.toNatClampNeg ((fI_X10_holds s86_1 I) 498 39))) (a := 498) (b := 39) (fun z => absurd z.1 (by decide))]
        rw [au_ne (f := (am_u (am_u (fI_X10_holds s86_1 I) 532 (Int32.toNatClampNeg ((fI_X10_holds s86_1 I) 498 39)) x1) 533 (Int32.toNatClampNeg ((fI_X10_holds s86_1 I) 498 39)) x2)) (o := 534) (k := (Int32.toNatClampNeg ((fI_X10_holds s86_1 I) 498 39))) (a := 498) (b := 39) (fun z => absurd z.1 (by decide))]
        rw [au_ne (f := (am_u (fI_X10_holds s86_1 I) 532 (Int32.toNatClampNeg ((fI_X10_holds s86_1 I) 498 39)) x1)) (o := 533) (k := (Int32.toNatClampNeg ((fI_X10_holds s86_1 I) 498 39))) (a := 498) (b := 39) (fun z => absurd z.1 (by decide))]
        rw [au_ne (f := (fI_X10_holds s86_1 I)) (o := 532) (k := (Int32.toNatClampNeg ((fI_X10_holds s86_1 I) 498 39))) (a := 498) (b := 39) (fun z => absurd z.1 (by decide))]
        refine w_aload_n rX10_sound_162 rfl ?_
        refine w_getR rX10_sound_163 rfl rfl (G_is (by decide) rfl) (x := 527) rfl ?_
        refine w_iload_n rX10_sound_166 rfl ?_
        have h167 := q.1
        replace q := q.2
        refine x_iaload rX10_sound_167 (G_at (by decide) rfl rfl h167) ?_
        rw [au_ne (f := (am_u (am_u (am_u (fI_X10_holds s86_1 I) 532 (Int32.toNatClampNeg ((fI_X10_holds s86_1 I) 498 39)) x1) 533 (Int32.toNatClampNeg ((fI_X10_holds s86_1 I) 498 39)) x2) 534 (Int32.toNatClampNeg ((fI_X10_holds s86_1 I) 498 39)) ((fI_X10_holds s86_1 I) 498 1))) (o := 535) (k := (Int32.toNatClampNeg ((fI_X10_holds s86_1 I) 498 39))) (a := 527) (b := (Int32.toNatClampNeg x1)) (fun z => absurd z.1 (by decide))]
        rw [au_ne (f := (am_u (am_u (fI_X10_holds s86_1 I) 532 (Int32.toNatClampNeg ((fI_X10_holds s86_1 I) 498 39)) x1) 533 (Int32.toNatClampNeg ((fI_X10_holds s86_1 I) 498 39)) x2)) (o := 534) (k := (Int32.toNatClampNeg ((fI_X10_holds s86_1 I) 498 39))) (a := 527) (b := (Int32.toNatClampNeg x1)) (fun z => absurd z.1 (by decide))]
        rw [au_ne (f := (am_u (fI_X10_holds s86_1 I) 532 (Int32.toNatClampNeg ((fI_X10_holds s86_1 I) 498 39)) x1)) (o := 533) (k := (Int32.toNatClampNeg ((fI_X10_holds s86_1 I) 498 39))) (a := 527) (b := (Int32.toNatClampNeg x1)) (fun z => absurd z.1 (by decide))]
        rw [au_ne (f := (fI_X10_holds s86_1 I)) (o := 532) (k := (Int32.toNatClampNeg ((fI_X10_holds s86_1 I) 498 39))) (a := 527) (b := (Int32.toNatClampNeg x1)) (fun z => absurd z.1 (by decide))]
        refine w_i2f rX10_sound_168 ?_
        refine w_aload_n rX10_sound_169 rfl ?_
        refine w_getR rX10_sound_170 rfl rfl (G_is (by decide) rfl) (x := 530) rfl ?_
        refine w_iload_n rX10_sound_173 rfl ?_
        have h174 := q.1
        replace q := q.2
        refine x_faload rX10_sound_174 (G_at (by decide) rfl rfl h174) ?_
        refine w_fmul rX10_sound_175 q.1 ?_
        replace q := q.2
        refine w_f2i rX10_sound_176 ?_
        have h177 := q.1
        replace q := q.2
        refine x_iastore rX10_sound_177 (G_at (by decide) rfl rfl h177) ?_
        refine w_aload_n rX10_sound_178 rfl ?_
        refine w_dup rX10_sound_179 trivial ?_
        refine x_getI rX10_sound_180 rfl rfl (G_is (by decide) rfl) ?_
        rw [au_ne (f := (am_u (am_u (am_u (am_u (fI_X10_holds s86_1 I) 532 (Int32.toNatClampNeg ((fI_X10_holds s86_1 I) 498 39)) x1) 533 (Int32.toNatClampNeg ((fI_X10_holds s86_1 I) 498 39)) x2) 534 (Int32.toNatClampNeg ((fI_X10_holds s86_1 I) 498 39)) ((fI_X10_holds s86_1 I) 498 1)) 535 (Int32.toNatClampNeg ((fI_X10_holds s86_1 I) 498 39)) 0)) (o := 536) (k := (Int32.toNatClampNeg ((fI_X10_holds s86_1 I) 498 39))) (a := 498) (b := 39) (fun z => absurd z.1 (by decide))]
        rw [au_ne (f := (am_u (am_u (am_u (fI_X10_holds s86_1 I) 532 (Int32.toNatClampNeg ((fI_X10_holds s86_1 I) 498 39)) x1) 533 (Int32.toNatClampNeg ((fI_X10_holds s86_1 I) 498 39)) x2) 534 (Int32.toNatClampNeg ((fI_X10_holds s86_1 I) 498 39)) ((fI_X10_holds s86_1 I) 498 1))) (o := 535) (k := (Int32.toNatClampNeg ((fI_X10_holds s86_1 I) 498 39))) (a := 498) (b := 39) (fun z => absurd z.1 (by decide))]
        rw [au_ne (f := (am_u (am_u (fI_X10_holds s86_1 I) 532 (Int32.toNatClampNeg ((fI_X10_holds s86_1 I) 498 39)) x1) 533 (Int32.toNatClampNeg ((fI_X10_holds s86_1 I) 498 39)) x2)) (o := 534) (k := (Int32.toNatClampNeg ((fI_X10_holds s86_1 I) 498 39))) (a := 498) (b := 39) (fun z => absurd z.1 (by decide))]
        rw [au_ne (f := (am_u (fI_X10_holds s86_1 I) 532 (Int32.toNatClampNeg ((fI_X10_holds s86_1 I) 498 39)) x1)) (o := 533) (k := (Int32.toNatClampNeg ((fI_X10_holds s86_1 I) 498 39))) (a := 498) (b := 39) (fun z => absurd z.1 (by decide))]
        rw [au_ne (f := (fI_X10_holds s86_1 I)) (o := 532) (k := (Int32.toNatClampNeg ((fI_X10_holds s86_1 I) 498 39))) (a := 498) (b := 39) (fun z => absurd z.1 (by decide))]
        refine w_iconst rX10_sound_183 (x := 1) (by decide) ?_
        refine w_iadd rX10_sound_184 ?_
        refine x_putI rX10_sound_185 rfl (G_is (by decide) rfl) trivial ?_
        refine w_aload_n rX10_sound_188 rfl ?_
        refine x_getI rX10_sound_189 rfl rfl (G_is (by decide) rfl) ?_
        rw [am_u_eq (f := (am_u (am_u (am_u (am_u (am_u (fI_X10_holds s86_1 I) 532 (Int32.toNatClampNeg ((fI_X10_holds s86_1 I) 498 39)) x1) 533 (Int32.toNatClampNeg ((fI_X10_holds s86_1 I) 498 39)) x2) 534 (Int32.toNatClampNeg ((fI_X10_holds s86_1 I) 498 39)) ((fI_X10_holds s86_1 I) 498 1)) 535 (Int32.toNatClampNeg ((fI_X10_holds s86_1 I) 498 39)) 0) 536 (Int32.toNatClampNeg ((fI_X10_holds s86_1 I) 498 39)) (FP.f2i (FP.fmul (FP.i2f ((fI_X10_holds s86_1 I) 527 (Int32.toNatClampNeg x1))) (F 530 (Int32.toNatClampNeg x1)))))) (o := 498) (k := 39)]
        refine w_iconst rX10_sound_192 (x := 1) (by decide) ?_
        refine w_isub rX10_sound_193 ?_
        refine w_ireturn rX10_sound_194 trivial ?_
        exact q
      · replace q := q.1 h106
        refine w_iconst rX10_sound_109 (x := 0) (by decide) ?_
        refine w_ireturn rX10_sound_110 trivial ?_
        exact q
    refine w_ifne rX10_sound_86 (fun h86 => ?_) (fun h86 => ?_)
    · skip
      refine w_iload rX10_sound_93 rfl ?_
      refine w_ifeq rX10_sound_95 (fun _ => ?_) (fun h => absurd (show (0 : Int32) = 0 from by decide) h)
      refine w_iconst rX10_sound_102 (x := 2) (by decide) ?_
      exact j86 _ (if_neg h86).symm
    · skip
      refine w_iconst rX10_sound_89 (x := 1) (by decide) ?_
      refine w_goto rX10_sound_90 ?_
      exact j86 _ (if_pos h86).symm
  · replace q := q.2 h40
    refine w_aload_n rX10_sound_43 rfl ?_
    refine w_getR rX10_sound_44 rfl rfl (G_is (by decide) rfl) (x := 514) rfl ?_
    refine w_iload_n rX10_sound_47 rfl ?_
    have h48 := q.1
    replace q := q.2
    refine x_faload rX10_sound_48 (G_at (by decide) rfl rfl h48) ?_
    refine w_aload_n rX10_sound_49 rfl ?_
    refine w_getR rX10_sound_50 rfl rfl (G_is (by decide) rfl) (x := 528) rfl ?_
    refine w_iload_n rX10_sound_53 rfl ?_
    have h54 := q.1
    replace q := q.2
    refine x_iaload rX10_sound_54 (G_at (by decide) rfl rfl h54) ?_
    refine w_i2f rX10_sound_55 ?_
    refine w_fcmp rX10_sound_56 ?_
    refine w_iflt rX10_sound_57 (fun h57 => ?_) (fun h57 => ?_)
    · replace q := q.1 h57
      refine w_iconst rX10_sound_81 (x := 0) (by decide) ?_
      refine w_istore rX10_sound_82 rfl trivial ?_
      refine w_aload_n rX10_sound_84 rfl ?_
      refine w_iload_n rX10_sound_85 rfl ?_
      have j86 : ∀ s86_1 : Int32, s86_1 = (if x3 = 0 then 1 else 2 : Int32) → WP mX10_sound 103 [some (.ref 498), some (.int x1), some (.int x2), some (.int x3), some (.int 0)] [.int s86_1, .ref 498] (G X I L F) 0 0 Q := by
        intro s86_1 es86_1
        replace q := q s86_1 es86_1
        refine w_invokevirtual rX10_sound_103 rfl rfl rfl (Nat.le_of_ble_eq_true rfl) ⟨trivial, trivial, trivial⟩ (G_is (by decide) rfl) (by decide) (by decide) ?_
        refine s_X10_holds ?_
        show WP mX10_sound 106 _ _ _ 0 0 _
        refine w_ifne rX10_sound_106 (fun h106 => ?_) (fun h106 => ?_)
        · replace q := q.2 h106
          refine w_aload_n rX10_sound_111 rfl ?_
          refine w_getR rX10_sound_112 rfl rfl (G_is (by decide) rfl) (x := 532) rfl ?_
          refine w_aload_n rX10_sound_115 rfl ?_
          refine x_getI rX10_sound_116 rfl rfl (G_is (by decide) rfl) ?_
          refine w_iload_n rX10_sound_119 rfl ?_
          have h120 := q.1
          replace q := q.2
          refine x_iastore rX10_sound_120 (G_at (by decide) rfl rfl h120) ?_
          refine w_aload_n rX10_sound_121 rfl ?_
          refine w_getR rX10_sound_122 rfl rfl (G_is (by decide) rfl) (x := 533) rfl ?_
          refine w_aload_n rX10_sound_125 rfl ?_
          refine x_getI rX10_sound_126 rfl rfl (G_is (by decide) rfl) ?_
          rw [au_ne (f := (fI_X10_holds s86_1 I)) (o := 532) (k := (Int32.toNatClampNeg ((fI_X10_holds s86_1 I) 498 39))) (a := 498) (b := 39) (fun z => absurd z.1 (by decide))]
          refine w_iload_n rX10_sound_129 rfl ?_
          have h130 := q.1
          replace q := q.2
          refine x_iastore rX10_sound_130 (G_at (by decide) rfl rfl h130) ?_
          refine w_aload_n rX10_sound_131 rfl ?_
          refine w_getR rX10_sound_132 rfl rfl (G_is (by decide) rfl) (x := 534) rfl ?_
          refine w_aload_n rX10_sound_135 rfl ?_
          refine x_getI rX10_sound_136 rfl rfl (G_is (by decide) rfl) ?_
          rw [au_ne (f := (am_u (fI_X10_holds s86_1 I) 532 (Int32.toNatClampNeg ((fI_X10_holds s86_1 I) 498 39)) x1)) (o := 533) (k := (Int32.toNatClampNeg ((fI_X10_holds s86_1 I) 498 39))) (a := 498) (b := 39) (fun z => absurd z.1 (by decide))]
          rw [au_ne (f := (fI_X10_holds s86_1 I)) (o := 532) (k := (Int32.toNatClampNeg ((fI_X10_holds s86_1 I) 498 39))) (a := 498) (b := 39) (fun z => absurd z.1 (by decide))]
          refine w_aload_n rX10_sound_139 rfl ?_
          refine x_getI rX10_sound_140 rfl rfl (G_is (by decide) rfl) ?_
          rw [au_ne (f := (am_u (fI_X10_holds s86_1 I) 532 (Int32.toNatClampNeg ((fI_X10_holds s86_1 I) 498 39)) x1)) (o := 533) (k := (Int32.toNatClampNeg ((fI_X10_holds s86_1 I) 498 39))) (a := 498) (b := 1) (fun z => absurd z.1 (by decide))]
          rw [au_ne (f := (fI_X10_holds s86_1 I)) (o := 532) (k := (Int32.toNatClampNeg ((fI_X10_holds s86_1 I) 498 39))) (a := 498) (b := 1) (fun z => absurd z.1 (by decide))]
          have h143 := q.1
          replace q := q.2
          refine x_iastore rX10_sound_143 (G_at (by decide) rfl rfl h143) ?_
          refine w_aload_n rX10_sound_144 rfl ?_
          refine w_getR rX10_sound_145 rfl rfl (G_is (by decide) rfl) (x := 535) rfl ?_
          refine w_aload_n rX10_sound_148 rfl ?_
          refine x_getI rX10_sound_149 rfl rfl (G_is (by decide) rfl) ?_
          rw [au_ne (f := (am_u (am_u (fI_X10_holds s86_1 I) 532 (Int32.toNatClampNeg ((fI_X10_holds s86_1 I) 498 39)) x1) 533 (Int32.toNatClampNeg ((fI_X10_holds s86_1 I) 498 39)) x2)) (o := 534) (k := (Int32.toNatClampNeg ((fI_X10_holds s86_1 I) 498 39))) (a := 498) (b := 39) (fun z => absurd z.1 (by decide))]
          rw [au_ne (f := (am_u (fI_X10_holds s86_1 I) 532 (Int32.toNatClampNeg ((fI_X10_holds s86_1 I) 498 39)) x1)) (o := 533) (k := (Int32.toNatClampNeg ((fI_X10_holds s86_1 I) 498 39))) (a := 498) (b := 39) (fun z => absurd z.1 (by decide))]
          rw [au_ne (f := (fI_X10_holds s86_1 I)) (o := 532) (k := (Int32.toNatClampNeg ((fI_X10_holds s86_1 I) 498 39))) (a := 498) (b := 39) (fun z => absurd z.1 (by decide))]
          refine w_iconst rX10_sound_152 (x := 0) (by decide) ?_
          have h153 := q.1
          replace q := q.2
          refine x_iastore rX10_sound_153 (G_at (by decide) rfl rfl h153) ?_
          refine w_aload_n rX10_sound_154 rfl ?_
          refine w_getR rX10_sound_155 rfl rfl (G_is (by decide) rfl) (x := 536) rfl ?_
          refine w_aload_n rX10_sound_158 rfl ?_
          refine x_getI rX10_sound_159 rfl rfl (G_is (by decide) rfl) ?_
          rw [au_ne (f := (am_u (am_u (am_u (fI_X10_holds s86_1 I) 532 (Int32.toNatClampNeg ((fI_X10_holds s86_1 I) 498 39)) x1) 533 (Int32.toNatClampNeg ((fI_X10_holds s86_1 I) 498 39)) x2) 534 (Int32.toNatClampNeg ((fI_X10_holds s86_1 I) 498 39)) ((fI_X10_holds s86_1 I) 498 1))) (o := 535) (k := (Int32.toNatClampNeg ((fI_X10_holds s86_1 I) 498 39))) (a := 498) (b := 39) (fun z => absurd z.1 (by decide))]
          rw [au_ne (f := (am_u (am_u (fI_X10_holds s86_1 I) 532 (Int32.toNatClampNeg ((fI_X10_holds s86_1 I) 498 39)) x1) 533 (Int32.toNatClampNeg ((fI_X10_holds s86_1 I) 498 39)) x2)) (o := 534) (k := (Int32.toNatClampNeg ((fI_X10_holds s86_1 I) 498 39))) (a := 498) (b := 39) (fun z => absurd z.1 (by decide))]
          rw [au_ne (f := (am_u (fI_X10_holds s86_1 I) 532 (Int32.toNatClampNeg ((fI_X10_holds s86_1 I) 498 39)) x1)) (o := 533) (k := (Int32.toNatClampNeg ((fI_X10_holds s86_1 I) 498 39))) (a := 498) (b := 39) (fun z => absurd z.1 (by decide))]
          rw [au_ne (f := (fI_X10_holds s86_1 I)) (o := 532) (k := (Int32.toNatClampNeg ((fI_X10_holds s86_1 I) 498 39))) (a := 498) (b := 39) (fun z => absurd z.1 (by decide))]
          refine w_aload_n rX10_sound_162 rfl ?_
          refine w_getR rX10_sound_163 rfl rfl (G_is (by decide) rfl) (x := 527) rfl ?_
          refine w_iload_n rX10_sound_166 rfl ?_
          have h167 := q.1
          replace q := q.2
          refine x_iaload rX10_sound_167 (G_at (by decide) rfl rfl h167) ?_
          rw [au_ne (f := (am_u (am_u (am_u (fI_X10_holds s86_1 I) 532 (Int32.toNatClampNeg ((fI_X10_holds s86_1 I) 498 39)) x1) 533 (Int32.toNatClampNeg ((fI_X10_holds s86_1 I) 498 39)) x2) 534 (Int32.toNatClampNeg ((fI_X10_holds s86_1 I) 498 39)) ((fI_X10_holds s86_1 I) 498 1))) (o := 535) (k := (Int32.toNatClampNeg ((fI_X10_holds s86_1 I) 498 39))) (a := 527) (b := (Int32.toNatClampNeg x1)) (fun z => absurd z.1 (by decide))]
          rw [au_ne (f := (am_u (am_u (fI_X10_holds s86_1 I) 532 (Int32.toNatClampNeg ((fI_X10_holds s86_1 I) 498 39)) x1) 533 (Int32.toNatClampNeg ((fI_X10_holds s86_1 I) 498 39)) x2)) (o := 534) (k := (Int32.toNatClampNeg ((fI_X10_holds s86_1 I) 498 39))) (a := 527) (b := (Int32.toNatClampNeg x1)) (fun z => absurd z.1 (by decide))]
          rw [au_ne (f := (am_u (fI_X10_holds s86_1 I) 532 (Int32.toNatClampNeg ((fI_X10_holds s86_1 I) 498 39)) x1)) (o := 533) (k := (Int32.toNatClampNeg ((fI_X10_holds s86_1 I) 498 39))) (a := 527) (b := (Int32.toNatClampNeg x1)) (fun z => absurd z.1 (by decide))]
          rw [au_ne (f := (fI_X10_holds s86_1 I)) (o := 532) (k := (Int32.toNatClampNeg ((fI_X10_holds s86_1 I) 498 39))) (a := 527) (b := (Int32.toNatClampNeg x1)) (fun z => absurd z.1 (by decide))]
          refine w_i2f rX10_sound_168 ?_
          refine w_aload_n rX10_sound_169 rfl ?_
          refine w_getR rX10_sound_170 rfl rfl (G_is (by decide) rfl) (x := 530) rfl ?_
          refine w_iload_n rX10_sound_173 rfl ?_
          have h174 := q.1
          replace q := q.2
          refine x_faload rX10_sound_174 (G_at (by decide) rfl rfl h174) ?_
          refine w_fmul rX10_sound_175 q.1 ?_
          replace q := q.2
          refine w_f2i rX10_sound_176 ?_
          have h177 := q.1
          replace q := q.2
          refine x_iastore rX10_sound_177 (G_at (by decide) rfl rfl h177) ?_
          refine w_aload_n rX10_sound_178 rfl ?_
          refine w_dup rX10_sound_179 trivial ?_
          refine x_getI rX10_sound_180 rfl rfl (G_is (by decide) rfl) ?_
          rw [au_ne (f := (am_u (am_u (am_u (am_u (fI_X10_holds s86_1 I) 532 (Int32.toNatClampNeg ((fI_X10_holds s86_1 I) 498 39)) x1) 533 (Int32.toNatClampNeg ((fI_X10_holds s86_1 I) 498 39)) x2) 534 (Int32.toNatClampNeg ((fI_X10_holds s86_1 I) 498 39)) ((fI_X10_holds s86_1 I) 498 1)) 535 (Int32.toNatClampNeg ((fI_X10_holds s86_1 I) 498 39)) 0)) (o := 536) (k := (Int32.toNatClampNeg ((fI_X10_holds s86_1 I) 498 39))) (a := 498) (b := 39) (fun z => absurd z.1 (by decide))]
          rw [au_ne (f := (am_u (am_u (am_u (fI_X10_holds s86_1 I) 532 (Int32.toNatClampNeg ((fI_X10_holds s86_1 I) 498 39)) x1) 533 (Int32.toNatClampNeg ((fI_X10_holds s86_1 I) 498 39)) x2) 534 (Int32.toNatClampNeg ((fI_X10_holds s86_1 I) 498 39)) ((fI_X10_holds s86_1 I) 498 1))) (o := 535) (k := (Int32.toNatClampNeg ((fI_X10_holds s86_1 I) 498 39))) (a := 498) (b := 39) (fun z => absurd z.1 (by decide))]
          rw [au_ne (f := (am_u (am_u (fI_X10_holds s86_1 I) 532 (Int32.toNatClampNeg ((fI_X10_holds s86_1 I) 498 39)) x1) 533 (Int32.toNatClampNeg ((fI_X10_holds s86_1 I) 498 39)) x2)) (o := 534) (k := (Int32.toNatClampNeg ((fI_X10_holds s86_1 I) 498 39))) (a := 498) (b := 39) (fun z => absurd z.1 (by decide))]
          rw [au_ne (f := (am_u (fI_X10_holds s86_1 I) 532 (Int32.toNatClampNeg ((fI_X10_holds s86_1 I) 498 39)) x1)) (o := 533) (k := (Int32.toNatClampNeg ((fI_X10_holds s86_1 I) 498 39))) (a := 498) (b := 39) (fun z => absurd z.1 (by decide))]
          rw [au_ne (f := (fI_X10_holds s86_1 I)) (o := 532) (k := (Int32.toNatClampNeg ((fI_X10_holds s86_1 I) 498 39))) (a := 498) (b := 39) (fun z => absurd z.1 (by decide))]
          refine w_iconst rX10_sound_183 (x := 1) (by decide) ?_
          refine w_iadd rX10_sound_184 ?_
          refine x_putI rX10_sound_185 rfl (G_is (by decide) rfl) trivial ?_
          refine w_aload_n rX10_sound_188 rfl ?_
          refine x_getI rX10_sound_189 rfl rfl (G_is (by decide) rfl) ?_
          rw [am_u_eq (f := (am_u (am_u (am_u (am_u (am_u (fI_X10_holds s86_1 I) 532 (Int32.toNatClampNeg ((fI_X10_holds s86_1 I) 498 39)) x1) 533 (Int32.toNatClampNeg ((fI_X10_holds s86_1 I) 498 39)) x2) 534 (Int32.toNatClampNeg ((fI_X10_holds s86_1 I) 498 39)) ((fI_X10_holds s86_1 I) 498 1)) 535 (Int32.toNatClampNeg ((fI_X10_holds s86_1 I) 498 39)) 0) 536 (Int32.toNatClampNeg ((fI_X10_holds s86_1 I) 498 39)) (FP.f2i (FP.fmul (FP.i2f ((fI_X10_holds s86_1 I) 527 (Int32.toNatClampNeg x1))) (F 530 (Int32.toNatClampNeg x1)))))) (o := 498) (k := 39)]
          refine w_iconst rX10_sound_192 (x := 1) (by decide) ?_
          refine w_isub rX10_sound_193 ?_
          refine w_ireturn rX10_sound_194 trivial ?_
          exact q
        · replace q := q.1 h106
          refine w_iconst rX10_sound_109 (x := 0) (by decide) ?_
          refine w_ireturn rX10_sound_110 trivial ?_
          exact q
      refine w_ifne rX10_sound_86 (fun h86 => ?_) (fun h86 => ?_)
      · skip
        refine w_iload rX10_sound_93 rfl ?_
        refine w_ifeq rX10_sound_95 (fun _ => ?_) (fun h => absurd (show (0 : Int32) = 0 from by decide) h)
        refine w_iconst rX10_sound_102 (x := 2) (by decide) ?_
        exact j86 _ (if_neg h86).symm
      · skip
        refine w_iconst rX10_sound_89 (x := 1) (by decide) ?_
        refine w_goto rX10_sound_90 ?_
        exact j86 _ (if_pos h86).symm
    · replace q := q.2 h57
      refine w_aload_n rX10_sound_60 rfl ?_
      refine w_iload_n rX10_sound_61 rfl ?_
      refine w_invokevirtual rX10_sound_62 rfl rfl rfl (Nat.le_of_ble_eq_true rfl) ⟨trivial, trivial, trivial⟩ (G_is (by decide) rfl) (by decide) (by decide) ?_
      exact q
theorem k_X10_sound_65 {X : Nat × (Nat → Int32)} {I : Nat → Nat → Int32} {L : Nat → Nat → Int64} {F : Nat → Nat → UInt32} {Q : AQ} {x1 : Int32} {x2 : Int32} {x3 : Int32} {e0 : Int32} (q : ∀ s65_0 : Int32, s65_0 = (if e0 = 0 then (if 60 ≤ (I 498 39) then 0 else 1 : Int32) else 0 : Int32) → (∀ s86_1 : Int32, s86_1 = (if x3 = 0 then 1 else (if s65_0 = 0 then 2 else 0 : Int32) : Int32) → (((f_X10_holds s86_1) = 0 → Q (.inl (some (.int 0))) (G X (fI_X10_holds s86_1 I) L F)) ∧ (¬ (f_X10_holds s86_1) = 0 → vp_in ((fI_X10_holds s86_1 I) 498 39) 60 ∧ (vp_in ((fI_X10_holds s86_1 I) 498 39) 60 ∧ (vp_in ((fI_X10_holds s86_1 I) 498 39) 60 ∧ (vp_in ((fI_X10_holds s86_1 I) 498 39) 60 ∧ (vp_in x1 3 ∧ (vp_in x1 3 ∧ (vf_n32 (FP.fmul (FP.i2f ((fI_X10_holds s86_1 I) 527 (Int32.toNatClampNeg x1))) (F 530 (Int32.toNatClampNeg x1))) ∧ (vp_in ((fI_X10_holds s86_1 I) 498 39) 60 ∧ (Q (.inl (some (.int ((((fI_X10_holds s86_1 I) 498 39) + 1) - 1)))) (G X (am_u (am_u (am_u (am_u (am_u (am_u (fI_X10_holds s86_1 I) 532 (Int32.toNatClampNeg ((fI_X10_holds s86_1 I) 498 39)) x1) 533 (Int32.toNatClampNeg ((fI_X10_holds s86_1 I) 498 39)) x2) 534 (Int32.toNatClampNeg ((fI_X10_holds s86_1 I) 498 39)) ((fI_X10_holds s86_1 I) 498 1)) 535 (Int32.toNatClampNeg ((fI_X10_holds s86_1 I) 498 39)) 0) 536 (Int32.toNatClampNeg ((fI_X10_holds s86_1 I) 498 39)) (FP.f2i (FP.fmul (FP.i2f ((fI_X10_holds s86_1 I) 527 (Int32.toNatClampNeg x1))) (F 530 (Int32.toNatClampNeg x1))))) 498 39 (((fI_X10_holds s86_1 I) 498 39) + 1)) L F))))))))))))) : WP mX10_sound 65 [some (.ref 498), some (.int x1), some (.int x2), some (.int x3), none] [.int e0] (G X I L F) 0 0 Q := by
  have j65 : ∀ s65_0 : Int32, s65_0 = (if e0 = 0 then (if 60 ≤ (I 498 39) then 0 else 1 : Int32) else 0 : Int32) → WP mX10_sound 82 [some (.ref 498), some (.int x1), some (.int x2), some (.int x3), none] [.int s65_0] (G X I L F) 0 0 Q := by
    intro s65_0 es65_0
    replace q := q s65_0 es65_0
    refine w_istore rX10_sound_82 rfl trivial ?_
    refine w_aload_n rX10_sound_84 rfl ?_
    refine w_iload_n rX10_sound_85 rfl ?_
    have j86 : ∀ s86_1 : Int32, s86_1 = (if x3 = 0 then 1 else (if s65_0 = 0 then 2 else 0 : Int32) : Int32) → WP mX10_sound 103 [some (.ref 498), some (.int x1), some (.int x2), some (.int x3), some (.int s65_0)] [.int s86_1, .ref 498] (G X I L F) 0 0 Q := by
      intro s86_1 es86_1
      replace q := q s86_1 es86_1
      refine w_invokevirtual rX10_sound_103 rfl rfl rfl (Nat.le_of_ble_eq_true rfl) ⟨trivial, trivial, trivial⟩ (G_is (by decide) rfl) (by decide) (by decide) ?_
      refine s_X10_holds ?_
      show WP mX10_sound 106 _ _ _ 0 0 _
      refine w_ifne rX10_sound_106 (fun h106 => ?_) (fun h106 => ?_)
      · replace q := q.2 h106
        refine w_aload_n rX10_sound_111 rfl ?_
        refine w_getR rX10_sound_112 rfl rfl (G_is (by decide) rfl) (x := 532) rfl ?_
        refine w_aload_n rX10_sound_115 rfl ?_
        refine x_getI rX10_sound_116 rfl rfl (G_is (by decide) rfl) ?_
        refine w_iload_n rX10_sound_119 rfl ?_
        have h120 := q.1
        replace q := q.2
        refine x_iastore rX10_sound_120 (G_at (by decide) rfl rfl h120) ?_
        refine w_aload_n rX10_sound_121 rfl ?_
        refine w_getR rX10_sound_122 rfl rfl (G_is (by decide) rfl) (x := 533) rfl ?_
        refine w_aload_n rX10_sound_125 rfl ?_
        refine x_getI rX10_sound_126 rfl rfl (G_is (by decide) rfl) ?_
        rw [au_ne (f := (fI_X10_holds s86_1 I)) (o := 532) (k := (Int32.toNatClampNeg ((fI_X10_holds s86_1 I) 498 39))) (a := 498) (b := 39) (fun z => absurd z.1 (by decide))]
        refine w_iload_n rX10_sound_129 rfl ?_
        have h130 := q.1
        replace q := q.2
        refine x_iastore rX10_sound_130 (G_at (by decide) rfl rfl h130) ?_
        refine w_aload_n rX10_sound_131 rfl ?_
        refine w_getR rX10_sound_132 rfl rfl (G_is (by decide) rfl) (x := 534) rfl ?_
        refine w_aload_n rX10_sound_135 rfl ?_
        refine x_getI rX10_sound_136 rfl rfl (G_is (by decide) rfl) ?_
        rw [au_ne (f := (am_u (fI_X10_holds s86_1 I) 532 (Int32.toNatClampNeg ((fI_X10_holds s86_1 I) 498 39)) x1)) (o := 533) (k := (Int32.toNatClampNeg ((fI_X10_holds s86_1 I) 498 39))) (a := 498) (b := 39) (fun z => absurd z.1 (by decide))]
        rw [au_ne (f := (fI_X10_holds s86_1 I)) (o := 532) (k := (Int32.toNatClampNeg ((fI_X10_holds s86_1 I) 498 39))) (a := 498) (b := 39) (fun z => absurd z.1 (by decide))]
        refine w_aload_n rX10_sound_139 rfl ?_
        refine x_getI rX10_sound_140 rfl rfl (G_is (by decide) rfl) ?_
        rw [au_ne (f := (am_u (fI_X10_holds s86_1 I) 532 (Int32.toNatClampNeg ((fI_X10_holds s86_1 I) 498 39)) x1)) (o := 533) (k := (Int32.toNatClampNeg ((fI_X10_holds s86_1 I) 498 39))) (a := 498) (b := 1) (fun z => absurd z.1 (by decide))]
        rw [au_ne (f := (fI_X10_holds s86_1 I)) (o := 532) (k := (Int32.toNatClampNeg ((fI_X10_holds s86_1 I) 498 39))) (a := 498) (b := 1) (fun z => absurd z.1 (by decide))]
        have h143 := q.1
        replace q := q.2
        refine x_iastore rX10_sound_143 (G_at (by decide) rfl rfl h143) ?_
        refine w_aload_n rX10_sound_144 rfl ?_
        refine w_getR rX10_sound_145 rfl rfl (G_is (by decide) rfl) (x := 535) rfl ?_
        refine w_aload_n rX10_sound_148 rfl ?_
        refine x_getI rX10_sound_149 rfl rfl (G_is (by decide) rfl) ?_
        rw [au_ne (f := (am_u (am_u (fI_X10_holds s86_1 I) 532 (Int32.toNatClampNeg ((fI_X10_holds s86_1 I) 498 39)) x1) 533 (Int32.toNatClampNeg ((fI_X10_holds s86_1 I) 498 39)) x2)) (o := 534) (k := (Int32.toNatClampNeg ((fI_X10_holds s86_1 I) 498 39))) (a := 498) (b := 39) (fun z => absurd z.1 (by decide))]
        rw [au_ne (f := (am_u (fI_X10_holds s86_1 I) 532 (Int32.toNatClampNeg ((fI_X10_holds s86_1 I) 498 39)) x1)) (o := 533) (k := (Int32.toNatClampNeg ((fI_X10_holds s86_1 I) 498 39))) (a := 498) (b := 39) (fun z => absurd z.1 (by decide))]
        rw [au_ne (f := (fI_X10_holds s86_1 I)) (o := 532) (k := (Int32.toNatClampNeg ((fI_X10_holds s86_1 I) 498 39))) (a := 498) (b := 39) (fun z => absurd z.1 (by decide))]
        refine w_iconst rX10_sound_152 (x := 0) (by decide) ?_
        have h153 := q.1
        replace q := q.2
        refine x_iastore rX10_sound_153 (G_at (by decide) rfl rfl h153) ?_
        refine w_aload_n rX10_sound_154 rfl ?_
        refine w_getR rX10_sound_155 rfl rfl (G_is (by decide) rfl) (x := 536) rfl ?_
        refine w_aload_n rX10_sound_158 rfl ?_
        refine x_getI rX10_sound_159 rfl rfl (G_is (by decide) rfl) ?_
        rw [au_ne (f := (am_u (am_u (am_u (fI_X10_holds s86_1 I) 532 (Int32.toNatClampNeg ((fI_X10_holds s86_1 I) 498 39)) x1) 533 (Int32.toNatClampNeg ((fI_X10_holds s86_1 I) 498 39)) x2) 534 (Int32.toNatClampNeg ((fI_X10_holds s86_1 I) 498 39)) ((fI_X10_holds s86_1 I) 498 1))) (o := 535) (k := (Int32.toNatClampNeg ((fI_X10_holds s86_1 I) 498 39))) (a := 498) (b := 39) (fun z => absurd z.1 (by decide))]
        rw [au_ne (f := (am_u (am_u (fI_X10_holds s86_1 I) 532 (Int32.toNatClampNeg ((fI_X10_holds s86_1 I) 498 39)) x1) 533 (Int32.toNatClampNeg ((fI_X10_holds s86_1 I) 498 39)) x2)) (o := 534) (k := (Int32.toNatClampNeg ((fI_X10_holds s86_1 I) 498 39))) (a := 498) (b := 39) (fun z => absurd z.1 (by decide))]
        rw [au_ne (f := (am_u (fI_X10_holds s86_1 I) 532 (Int32.toNatClampNeg ((fI_X10_holds s86_1 I) 498 39)) x1)) (o := 533) (k := (Int32.toNatClampNeg ((fI_X10_holds s86_1 I) 498 39))) (a := 498) (b := 39) (fun z => absurd z.1 (by decide))]
        rw [au_ne (f := (fI_X10_holds s86_1 I)) (o := 532) (k := (Int32.toNatClampNeg ((fI_X10_holds s86_1 I) 498 39))) (a := 498) (b := 39) (fun z => absurd z.1 (by decide))]
        refine w_aload_n rX10_sound_162 rfl ?_
        refine w_getR rX10_sound_163 rfl rfl (G_is (by decide) rfl) (x := 527) rfl ?_
        refine w_iload_n rX10_sound_166 rfl ?_
        have h167 := q.1
        replace q := q.2
        refine x_iaload rX10_sound_167 (G_at (by decide) rfl rfl h167) ?_
        rw [au_ne (f := (am_u (am_u (am_u (fI_X10_holds s86_1 I) 532 (Int32.toNatClampNeg ((fI_X10_holds s86_1 I) 498 39)) x1) 533 (Int32.toNatClampNeg ((fI_X10_holds s86_1 I) 498 39)) x2) 534 (Int32.toNatClampNeg ((fI_X10_holds s86_1 I) 498 39)) ((fI_X10_holds s86_1 I) 498 1))) (o := 535) (k := (Int32.toNatClampNeg ((fI_X10_holds s86_1 I) 498 39))) (a := 527) (b := (Int32.toNatClampNeg x1)) (fun z => absurd z.1 (by decide))]
        rw [au_ne (f := (am_u (am_u (fI_X10_holds s86_1 I) 532 (Int32.toNatClampNeg ((fI_X10_holds s86_1 I) 498 39)) x1) 533 (Int32.toNatClampNeg ((fI_X10_holds s86_1 I) 498 39)) x2)) (o := 534) (k := (Int32.toNatClampNeg ((fI_X10_holds s86_1 I) 498 39))) (a := 527) (b := (Int32.toNatClampNeg x1)) (fun z => absurd z.1 (by decide))]
        rw [au_ne (f := (am_u (fI_X10_holds s86_1 I) 532 (Int32.toNatClampNeg ((fI_X10_holds s86_1 I) 498 39)) x1)) (o := 533) (k := (Int32.toNatClampNeg ((fI_X10_holds s86_1 I) 498 39))) (a := 527) (b := (Int32.toNatClampNeg x1)) (fun z => absurd z.1 (by decide))]
        rw [au_ne (f := (fI_X10_holds s86_1 I)) (o := 532) (k := (Int32.toNatClampNeg ((fI_X10_holds s86_1 I) 498 39))) (a := 527) (b := (Int32.toNatClampNeg x1)) (fun z => absurd z.1 (by decide))]
        refine w_i2f rX10_sound_168 ?_
        refine w_aload_n rX10_sound_169 rfl ?_
        refine w_getR rX10_sound_170 rfl rfl (G_is (by decide) rfl) (x := 530) rfl ?_
        refine w_iload_n rX10_sound_173 rfl ?_
        have h174 := q.1
        replace q := q.2
        refine x_faload rX10_sound_174 (G_at (by decide) rfl rfl h174) ?_
        refine w_fmul rX10_sound_175 q.1 ?_
        replace q := q.2
        refine w_f2i rX10_sound_176 ?_
        have h177 := q.1
        replace q := q.2
        refine x_iastore rX10_sound_177 (G_at (by decide) rfl rfl h177) ?_
        refine w_aload_n rX10_sound_178 rfl ?_
        refine w_dup rX10_sound_179 trivial ?_
        refine x_getI rX10_sound_180 rfl rfl (G_is (by decide) rfl) ?_
        rw [au_ne (f := (am_u (am_u (am_u (am_u (fI_X10_holds s86_1 I) 532 (Int32.toNatClampNeg ((fI_X10_holds s86_1 I) 498 39)) x1) 533 (Int32.toNatClampNeg ((fI_X10_holds s86_1 I) 498 39)) x2) 534 (Int32.toNatClampNeg ((fI_X10_holds s86_1 I) 498 39)) ((fI_X10_holds s86_1 I) 498 1)) 535 (Int32.toNatClampNeg ((fI_X10_holds s86_1 I) 498 39)) 0)) (o := 536) (k := (Int32.toNatClampNeg ((fI_X10_holds s86_1 I) 498 39))) (a := 498) (b := 39) (fun z => absurd z.1 (by decide))]
        rw [au_ne (f := (am_u (am_u (am_u (fI_X10_holds s86_1 I) 532 (Int32.toNatClampNeg ((fI_X10_holds s86_1 I) 498 39)) x1) 533 (Int32.toNatClampNeg ((fI_X10_holds s86_1 I) 498 39)) x2) 534 (Int32.toNatClampNeg ((fI_X10_holds s86_1 I) 498 39)) ((fI_X10_holds s86_1 I) 498 1))) (o := 535) (k := (Int32.toNatClampNeg ((fI_X10_holds s86_1 I) 498 39))) (a := 498) (b := 39) (fun z => absurd z.1 (by decide))]
        rw [au_ne (f := (am_u (am_u (fI_X10_holds s86_1 I) 532 (Int32.toNatClampNeg ((fI_X10_holds s86_1 I) 498 39)) x1) 533 (Int32.toNatClampNeg ((fI_X10_holds s86_1 I) 498 39)) x2)) (o := 534) (k := (Int32.toNatClampNeg ((fI_X10_holds s86_1 I) 498 39))) (a := 498) (b := 39) (fun z => absurd z.1 (by decide))]
        rw [au_ne (f := (am_u (fI_X10_holds s86_1 I) 532 (Int32.toNatClampNeg ((fI_X10_holds s86_1 I) 498 39)) x1)) (o := 533) (k := (Int32.toNatClampNeg ((fI_X10_holds s86_1 I) 498 39))) (a := 498) (b := 39) (fun z => absurd z.1 (by decide))]
        rw [au_ne (f := (fI_X10_holds s86_1 I)) (o := 532) (k := (Int32.toNatClampNeg ((fI_X10_holds s86_1 I) 498 39))) (a := 498) (b := 39) (fun z => absurd z.1 (by decide))]
        refine w_iconst rX10_sound_183 (x := 1) (by decide) ?_
        refine w_iadd rX10_sound_184 ?_
        refine x_putI rX10_sound_185 rfl (G_is (by decide) rfl) trivial ?_
        refine w_aload_n rX10_sound_188 rfl ?_
        refine x_getI rX10_sound_189 rfl rfl (G_is (by decide) rfl) ?_
        rw [am_u_eq (f := (am_u (am_u (am_u (am_u (am_u (fI_X10_holds s86_1 I) 532 (Int32.toNatClampNeg ((fI_X10_holds s86_1 I) 498 39)) x1) 533 (Int32.toNatClampNeg ((fI_X10_holds s86_1 I) 498 39)) x2) 534 (Int32.toNatClampNeg ((fI_X10_holds s86_1 I) 498 39)) ((fI_X10_holds s86_1 I) 498 1)) 535 (Int32.toNatClampNeg ((fI_X10_holds s86_1 I) 498 39)) 0) 536 (Int32.toNatClampNeg ((fI_X10_holds s86_1 I) 498 39)) (FP.f2i (FP.fmul (FP.i2f ((fI_X10_holds s86_1 I) 527 (Int32.toNatClampNeg x1))) (F 530 (Int32.toNatClampNeg x1)))))) (o := 498) (k := 39)]
        refine w_iconst rX10_sound_192 (x := 1) (by decide) ?_
        refine w_isub rX10_sound_193 ?_
        refine w_ireturn rX10_sound_194 trivial ?_
        exact q
      · replace q := q.1 h106
        refine w_iconst rX10_sound_109 (x := 0) (by decide) ?_
        refine w_ireturn rX10_sound_110 trivial ?_
        exact q
    refine w_ifne rX10_sound_86 (fun h86 => ?_) (fun h86 => ?_)
    · skip
      refine w_iload rX10_sound_93 rfl ?_
      refine w_ifeq rX10_sound_95 (fun h95 => ?_) (fun h95 => ?_)
      · skip
        refine w_iconst rX10_sound_102 (x := 2) (by decide) ?_
        exact j86 _ ((if_neg h86).trans (if_pos h95)).symm
      · skip
        refine w_iconst rX10_sound_98 (x := 0) (by decide) ?_
        refine w_goto rX10_sound_99 ?_
        exact j86 _ ((if_neg h86).trans (if_neg h95)).symm
    · skip
      refine w_iconst rX10_sound_89 (x := 1) (by decide) ?_
      refine w_goto rX10_sound_90 ?_
      exact j86 _ (if_pos h86).symm
  refine w_ifne rX10_sound_65 (fun h65 => ?_) (fun h65 => ?_)
  · skip
    refine w_iconst rX10_sound_81 (x := 0) (by decide) ?_
    exact j65 _ (if_neg h65).symm
  · skip
    refine w_aload_n rX10_sound_68 rfl ?_
    refine x_getI rX10_sound_69 rfl rfl (G_is (by decide) rfl) ?_
    refine w_bipush rX10_sound_72 (x := 60) (by decide) ?_
    refine w_icmpge rX10_sound_74 (fun h74 => ?_) (fun h74 => ?_)
    · skip
      refine w_iconst rX10_sound_81 (x := 0) (by decide) ?_
      exact j65 _ ((if_pos h65).trans (if_pos h74)).symm
    · skip
      refine w_iconst rX10_sound_77 (x := 1) (by decide) ?_
      refine w_goto rX10_sound_78 ?_
      exact j65 _ ((if_pos h65).trans (if_neg h74)).symm
