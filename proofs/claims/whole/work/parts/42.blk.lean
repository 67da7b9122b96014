/-! own: the blocks of the methods that go round or call on, written by a program -/
set_option maxRecDepth 100000
theorem k_X9_maySound_0 {X : Nat × (Nat → Int32)} {I : Nat → Nat → Int32} {L : Nat → Nat → Int64} {F : Nat → Nat → UInt32} {Q : AQ} {dam : Int32} {run : Int32} (q : ((f_X9_isDam dam) = 0 → Q (.inl (some (.int 0))) (G X I L F)) ∧ (¬ (f_X9_isDam dam) = 0 → ((f_X9_isRun run I) = 0 → Q (.inl (some (.int 0))) (G X I L F)) ∧ (¬ (f_X9_isRun run I) = 0 → ((I 0 8) < 60 → WP mX9_maySound 32 [some (.ref 0), some (.int dam), some (.int run), some (.int 0)] [] (G X I L F) 0 0 Q) ∧ (¬ (I 0 8) < 60 → Q (.inl (some (.int 0))) (G X I L F))))) : WP mX9_maySound 0 (am_ent 4 [.ref 0, .int dam, .int run]) [] (G X I L F) 0 0 Q := by
  refine w_aload_n rX9_maySound_0 rfl ?_
  refine w_iload_n rX9_maySound_1 rfl ?_
  refine w_invokevirtual rX9_maySound_2 rfl rfl rfl (Nat.le_of_ble_eq_true rfl) ⟨trivial, trivial, trivial⟩ (G_is (by decide) rfl) (by decide) (by decide) ?_
  refine s_X9_isDam ?_
  show WP mX9_maySound 5 _ _ _ 0 0 _
  refine w_ifeq rX9_maySound_5 (fun h5 => ?_) (fun h5 => ?_)
  · replace q := q.1 h5
    refine w_iconst rX9_maySound_28 (x := 0) (by decide) ?_
    refine w_ireturn rX9_maySound_29 (Or.inl rfl) ?_
    exact q
  · replace q := q.2 h5
    refine w_aload_n rX9_maySound_8 rfl ?_
    refine w_iload_n rX9_maySound_9 rfl ?_
    refine w_invokevirtual rX9_maySound_10 rfl rfl rfl (Nat.le_of_ble_eq_true rfl) ⟨trivial, trivial, trivial⟩ (G_is (by decide) rfl) (by decide) (by decide) ?_
    refine s_X9_isRun ?_
    show WP mX9_maySound 13 _ _ _ 0 0 _
    refine w_ifeq rX9_maySound_13 (fun h13 => ?_) (fun h13 => ?_)
    · replace q := q.1 h13
      refine w_iconst rX9_maySound_28 (x := 0) (by decide) ?_
      refine w_ireturn rX9_maySound_29 (Or.inl rfl) ?_
      exact q
    · replace q := q.2 h13
      refine w_aload_n rX9_maySound_16 rfl ?_
      refine x_getI rX9_maySound_17 rfl rfl (G_is (by decide) rfl) ?_
      refine w_aload_n rX9_maySound_20 rfl ?_
      refine w_getR rX9_maySound_21 rfl rfl (G_is (by decide) rfl) (x := 382) rfl ?_
      refine G_lenc rX9_maySound_24 (by decide) rfl (n := 60) rfl (x := 60) (by decide) ?_
      refine w_icmplt rX9_maySound_25 (fun h25 => ?_) (fun h25 => ?_)
      · replace q := q.1 h25
        refine w_iconst rX9_maySound_30 (x := 0) (by decide) ?_
        refine w_istore_n rX9_maySound_31 rfl trivial ?_
        exact q
      · replace q := q.2 h25
        refine w_iconst rX9_maySound_28 (x := 0) (by decide) ?_
        refine w_ireturn rX9_maySound_29 (Or.inl rfl) ?_
        exact q
theorem k_X9_maySound_32 {X : Nat × (Nat → Int32)} {I : Nat → Nat → Int32} {L : Nat → Nat → Int64} {F : Nat → Nat → UInt32} {Q : AQ} {x1 : Int32} {x2 : Int32} {x3 : Int32} (q : ((I 0 8) ≤ x3 → vp_in x1 3 ∧ (((¬ (I (423 + 5 * Int32.toNatClampNeg x1) 8) = 0 → (¬ (f_X9_isGoodFor x2 (423 + 5 * Int32.toNatClampNeg x1) I) = 0 → vp_in x2 40 ∧ (True)))) ∧ (∀ s84_0 : Int32, s84_0 = (if (I (423 + 5 * Int32.toNatClampNeg x1) 8) = 0 then 0 else (if (f_X9_isGoodFor x2 (423 + 5 * Int32.toNatClampNeg x1) I) = 0 then 0 else (if (Op.cmpValue (FP.fcmp (F (383 + Int32.toNatClampNeg x2) 3) (FP.i2f (I (423 + 5 * Int32.toNatClampNeg x1) 10))) .l) < 0 then 0 else 1 : Int32) : Int32) : Int32) → ((s84_0 = 0 ∨ s84_0 = 1) ∧ (Q (.inl (some (.int s84_0))) (G X I L F)))))) ∧ (¬ (I 0 8) ≤ x3 → vp_in x3 60 ∧ (((I (438 + Int32.toNatClampNeg x3) 0) = x1 → vp_in x3 60 ∧ (((I (438 + Int32.toNatClampNeg x3) 4) = 0 → Q (.inl (some (.int 0))) (G X I L F)) ∧ (¬ (I (438 + Int32.toNatClampNeg x3) 4) = 0 → WP mX9_maySound 32 [some (.ref 0), some (.int x1), some (.int x2), some (.int (x3 + 1))] [] (G X I L F) 0 0 Q))) ∧ (¬ (I (438 + Int32.toNatClampNeg x3) 0) = x1 → WP mX9_maySound 32 [some (.ref 0), some (.int x1), some (.int x2), some (.int (x3 + 1))] [] (G X I L F) 0 0 Q)))) : WP mX9_maySound 32 [some (.ref 0), some (.int x1), some (.int x2), some (.int x3)] [] (G X I L F) 0 0 Q := by
  refine w_iload_n rX9_maySound_32 rfl ?_
  refine w_aload_n rX9_maySound_33 rfl ?_
  refine x_getI rX9_maySound_34 rfl rfl (G_is (by decide) rfl) ?_
  refine w_icmpge rX9_maySound_37 (fun h37 => ?_) (fun h37 => ?_)
  · replace q := q.1 h37
    refine w_aload_n rX9_maySound_73 rfl ?_
    refine w_getR rX9_maySound_74 rfl rfl (G_is (by decide) rfl) (x := 381) rfl ?_
    refine w_iload_n rX9_maySound_77 rfl ?_
    have h78 := q.1
    replace q := q.2
    refine w_aaload rX9_maySound_78 (G_aa (by decide) rfl rfl h78) (ga_dam h78) ?_
    refine w_astore_n rX9_maySound_79 rfl trivial ?_
    refine w_aload_n rX9_maySound_80 rfl ?_
    refine x_getI rX9_maySound_81 rfl rfl (G_isk (gi_dam h78).1) ?_
    have j84 : ∀ s84_0 : Int32, s84_0 = (if (I (423 + 5 * Int32.toNatClampNeg x1) 8) = 0 then 0 else (if (f_X9_isGoodFor x2 (423 + 5 * Int32.toNatClampNeg x1) I) = 0 then 0 else (if (Op.cmpValue (FP.fcmp (F (383 + Int32.toNatClampNeg x2) 3) (FP.i2f (I (423 + 5 * Int32.toNatClampNeg x1) 10))) .l) < 0 then 0 else 1 : Int32) : Int32) : Int32) → WP mX9_maySound 119 [some (.ref 0), some (.int x1), some (.int x2), some (.ref (423 + 5 * Int32.toNatClampNeg x1))] [.int s84_0] (G X I L F) 0 0 Q := by
      intro s84_0 es84_0
      replace q := q.2
      replace q := q s84_0 es84_0
      have z119 := q.1
      replace q := q.2
      refine w_ireturn rX9_maySound_119 z119 ?_
      exact q
    replace q := q.1
    refine w_ifeq rX9_maySound_84 (fun h84 => ?_) (fun h84 => ?_)
    · skip
      refine w_iconst rX9_maySound_118 (x := 0) (by decide) ?_
      exact j84 _ (if_pos h84).symm
    · replace q := q h84
      refine w_aload_n rX9_maySound_87 rfl ?_
      refine w_iload_n rX9_maySound_88 rfl ?_
      refine w_aload_n rX9_maySound_89 rfl ?_
      refine w_invokevirtual rX9_maySound_90 rfl rfl rfl (Nat.le_of_ble_eq_true rfl) ⟨trivial, trivial, trivial, trivial⟩ (G_is (by decide) rfl) (by decide) (by decide) ?_
      refine s_X9_isGoodFor (gi_dam h78) ?_
      show WP mX9_maySound 93 _ _ _ 0 0 _
      refine w_ifeq rX9_maySound_93 (fun h93 => ?_) (fun h93 => ?_)
      · skip
        refine w_iconst rX9_maySound_118 (x := 0) (by decide) ?_
        exact j84 _ ((if_neg h84).trans (if_pos h93)).symm
      · replace q := q h93
        refine w_aload_n rX9_maySound_96 rfl ?_
        refine w_getR rX9_maySound_97 rfl rfl (G_is (by decide) rfl) (x := 379) rfl ?_
        refine w_iload_n rX9_maySound_100 rfl ?_
        have h101 := q.1
        replace q := q.2
        refine w_aaload rX9_maySound_101 (G_aa (by decide) rfl rfl h101) (ga_run h101) ?_
        refine x_getF rX9_maySound_102 rfl rfl (G_isk (gi_run h101)) ?_
        refine w_aload_n rX9_maySound_105 rfl ?_
        refine x_getI rX9_maySound_106 rfl rfl (G_isk (gi_dam h78).1) ?_
        refine w_i2f rX9_maySound_109 ?_
        refine w_fcmp rX9_maySound_110 ?_
        refine w_iflt rX9_maySound_111 (fun h111 => ?_) (fun h111 => ?_)
        · skip
          refine w_iconst rX9_maySound_118 (x := 0) (by decide) ?_
          exact j84 _ (((if_neg h84).trans (if_neg h93)).trans (if_pos h111)).symm
        · skip
          refine w_iconst rX9_maySound_114 (x := 1) (by decide) ?_
          refine w_goto rX9_maySound_115 ?_
          exact j84 _ (((if_neg h84).trans (if_neg h93)).trans (if_neg h111)).symm
  · replace q := q.2 h37
    refine w_aload_n rX9_maySound_40 rfl ?_
    refine w_getR rX9_maySound_41 rfl rfl (G_is (by decide) rfl) (x := 382) rfl ?_
    refine w_iload_n rX9_maySound_44 rfl ?_
    have h45 := q.1
    replace q := q.2
    refine w_aaload rX9_maySound_45 (G_aa (by decide) rfl rfl h45) (ga_sir h45) ?_
    refine x_getI rX9_maySound_46 rfl rfl (G_isk (gi_sir h45)) ?_
    refine w_iload_n rX9_maySound_49 rfl ?_
    refine w_icmpne rX9_maySound_50 (fun h50 => ?_) (fun h50 => ?_)
    · replace q := q.2 h50
      refine w_iinc rX9_maySound_67 rfl rfl trivial ?_
      refine w_goto rX9_maySound_70 ?_
      exact q
    · replace q := q.1 h50
      refine w_aload_n rX9_maySound_53 rfl ?_
      refine w_getR rX9_maySound_54 rfl rfl (G_is (by decide) rfl) (x := 382) rfl ?_
      refine w_iload_n rX9_maySound_57 rfl ?_
      have h58 := q.1
      replace q := q.2
      refine w_aaload rX9_maySound_58 (G_aa (by decide) rfl rfl h58) (ga_sir h58) ?_
      refine x_getI rX9_maySound_59 rfl rfl (G_isk (gi_sir h58)) ?_
      refine w_ifne rX9_maySound_62 (fun h62 => ?_) (fun h62 => ?_)
      · replace q := q.2 h62
        refine w_iinc rX9_maySound_67 rfl rfl trivial ?_
        refine w_goto rX9_maySound_70 ?_
        exact q
      · replace q := q.1 h62
        refine w_iconst rX9_maySound_65 (x := 0) (by decide) ?_
        refine w_ireturn rX9_maySound_66 (Or.inl rfl) ?_
        exact q
theorem k_X9_passHourAt_0 {X : Nat × (Nat → Int32)} {I : Nat → Nat → Int32} {L : Nat → Nat → Int64} {F : Nat → Nat → UInt32} {Q : AQ} {o : Nat} (ho : isDam o) (q : ((f_X6_latestOf (I o 3) I) = (-1) → WP mX9_passHourAt 33 [some (.ref 0), some (.ref o), some (.int (f_X6_latestOf (I o 3) I)), none, none, none, none, none] [.float 0] (G X I L F) 0 0 Q) ∧ (¬ (f_X6_latestOf (I o 3) I) = (-1) → WP mX6_outputOf 0 (am_ent 4 [.ref 9, .int (f_X6_latestOf (I o 3) I), .int (I 0 9)]) [] (G X I L F) 0 0 (am_kq mX9_passHourAt 30 [some (.ref 0), some (.ref o), some (.int (f_X6_latestOf (I o 3) I)), none, none, none, none, none] [] (0 + am_bc mX6_outputOf) (0 + am_bs mX6_outputOf) Q))) : WP mX9_passHourAt 0 (am_ent 8 [.ref 0, .ref o]) [] (G X I L F) 0 0 Q := by
  refine w_aload_n rX9_passHourAt_0 rfl ?_
  refine w_getR rX9_passHourAt_1 rfl rfl (G_is (by decide) rfl) (x := 9) rfl ?_
  refine w_aload_n rX9_passHourAt_4 rfl ?_
  refine x_getI rX9_passHourAt_5 rfl rfl (G_isk ho.1) ?_
  refine w_invokevirtual rX9_passHourAt_8 rfl rfl rfl (Nat.le_of_ble_eq_true rfl) ⟨trivial, trivial, trivial⟩ (G_is (by decide) rfl) (by decide) (by decide) ?_
  refine s_X6_latestOf ?_
  show WP mX9_passHourAt 11 _ _ _ 0 0 _
  refine w_istore_n rX9_passHourAt_11 rfl trivial ?_
  refine w_iload_n rX9_passHourAt_12 rfl ?_
  refine w_iconst rX9_passHourAt_13 (x := -1) (by decide) ?_
  refine w_icmpne rX9_passHourAt_14 (fun h14 => ?_) (fun h14 => ?_)
  · replace q := q.2 h14
    refine w_aload_n rX9_passHourAt_21 rfl ?_
    refine w_getR rX9_passHourAt_22 rfl rfl (G_is (by decide) rfl) (x := 9) rfl ?_
    refine w_iload_n rX9_passHourAt_25 rfl ?_
    refine w_aload_n rX9_passHourAt_26 rfl ?_
    refine x_getI rX9_passHourAt_27 rfl rfl (G_is (by decide) rfl) ?_
    refine w_invokevirtual rX9_passHourAt_30 rfl rfl rfl (Nat.le_of_ble_eq_true rfl) ⟨trivial, trivial, trivial, trivial⟩ (G_is (by decide) rfl) (by decide) (by decide) ?_
    exact q
  · replace q := q.1 h14
    refine w_fconst rX9_passHourAt_17 (x := 0) rfl ?_
    refine w_goto rX9_passHourAt_18 ?_
    exact q
theorem k_X9_passHourAt_33 {X : Nat × (Nat → Int32)} {I : Nat → Nat → Int32} {L : Nat → Nat → Int64} {F : Nat → Nat → UInt32} {Q : AQ} {o1 : Nat} {x2 : Int32} {e0 : UInt32} (ho1 : isDam o1) (q : ∀ s37_0 : UInt32, s37_0 = (if 0 ≤ (Op.cmpValue (FP.fcmp e0 0) .g) then e0 else 0 : UInt32) → (((I o1 6) = 0 → (p_X0_letThrough o1 (I 0 9) s37_0 0 I F) ∧ (Q (.inl none) (G X I L (fF_X0_letThrough o1 (I 0 9) s37_0 0 I F)))) ∧ (¬ (I o1 6) = 0 → ∀ s65_0 : Int32, s65_0 = (if (f_X9_isRun (I o1 7) I) = 0 then 0 else (if (f_X9_reasonAgainst (I o1 7) I) = 0 then 1 else 0 : Int32) : Int32) → (((¬ s65_0 = 0 → vp_in (I o1 7) 40 ∧ (True))) ∧ (∀ s120_2 : UInt32, s120_2 = (if s65_0 = 0 then 0 else (F (383 + Int32.toNatClampNeg (I o1 7)) 3) : UInt32) → (WP mX4_workOut 0 (am_ent 5 [.ref 10, .ref (o1 + 1)]) [] (G X I L (am_u (am_u (am_u (am_u F 11 17 (F o1 5)) 11 18 s37_0) 11 19 s120_2) 11 16 (FP.i2f (I 0 9)))) 0 0 (am_kq mX9_passHourAt 161 [some (.ref 0), some (.ref o1), some (.int x2), some (.float e0), some (.float s37_0), some (.float 0), some (.int s65_0), some (.ref 11)] [] (0 + am_bc mX4_workOut) (0 + am_bs mX4_workOut) Q))))))) : WP mX9_passHourAt 33 [some (.ref 0), some (.ref o1), some (.int x2), none, none, none, none, none] [.float e0] (G X I L F) 0 0 Q := by
  refine w_fstore_n rX9_passHourAt_33 rfl trivial ?_
  refine w_fload_n rX9_passHourAt_34 rfl ?_
  refine w_fconst rX9_passHourAt_35 (x := 0) rfl ?_
  refine w_fcmp rX9_passHourAt_36 ?_
  have j37 : ∀ s37_0 : UInt32, s37_0 = (if 0 ≤ (Op.cmpValue (FP.fcmp e0 0) .g) then e0 else 0 : UInt32) → WP mX9_passHourAt 45 [some (.ref 0), some (.ref o1), some (.int x2), some (.float e0), none, none, none, none] [.float s37_0] (G X I L F) 0 0 Q := by
    intro s37_0 es37_0
    replace q := q s37_0 es37_0
    refine w_fstore rX9_passHourAt_45 rfl trivial ?_
    refine w_fconst rX9_passHourAt_47 (x := 0) rfl ?_
    refine w_fstore rX9_passHourAt_48 rfl trivial ?_
    refine w_aload_n rX9_passHourAt_50 rfl ?_
    refine x_getI rX9_passHourAt_51 rfl rfl (G_isk ho1.1) ?_
    refine w_ifeq rX9_passHourAt_54 (fun h54 => ?_) (fun h54 => ?_)
    · replace q := q.1 h54
      refine w_aload_n rX9_passHourAt_166 rfl ?_
      refine w_aload_n rX9_passHourAt_167 rfl ?_
      refine x_getI rX9_passHourAt_168 rfl rfl (G_is (by decide) rfl) ?_
      refine w_fload rX9_passHourAt_171 rfl ?_
      refine w_fload rX9_passHourAt_173 rfl ?_
      refine w_invokevirtual rX9_passHourAt_175 rfl rfl rfl (Nat.le_of_ble_eq_true rfl) ⟨trivial, trivial, trivial, trivial, trivial⟩ (G_isk ho1.1) (by decide) (by decide) ?_
      refine s_X0_letThrough ho1 q.1 ?_
      replace q := q.2
      show WP mX9_passHourAt 178 _ _ _ 0 0 _
      refine w_return rX9_passHourAt_178 ?_
      exact q
    · replace q := q.2 h54
      refine w_aload_n rX9_passHourAt_57 rfl ?_
      refine w_aload_n rX9_passHourAt_58 rfl ?_
      refine x_getI rX9_passHourAt_59 rfl rfl (G_isk ho1.1) ?_
      refine w_invokevirtual rX9_passHourAt_62 rfl rfl rfl (Nat.le_of_ble_eq_true rfl) ⟨trivial, trivial, trivial⟩ (G_is (by decide) rfl) (by decide) (by decide) ?_
      refine s_X9_isRun ?_
      show WP mX9_passHourAt 65 _ _ _ 0 0 _
      have j65 : ∀ s65_0 : Int32, s65_0 = (if (f_X9_isRun (I o1 7) I) = 0 then 0 else (if (f_X9_reasonAgainst (I o1 7) I) = 0 then 1 else 0 : Int32) : Int32) → WP mX9_passHourAt 84 [some (.ref 0), some (.ref o1), some (.int x2), some (.float e0), some (.float s37_0), some (.float 0), none, none] [.int s65_0] (G X I L F) 0 0 Q := by
        intro s65_0 es65_0
        replace q := q s65_0 es65_0
        refine w_istore rX9_passHourAt_84 rfl trivial ?_
        refine w_aload_n rX9_passHourAt_86 rfl ?_
        refine w_getR rX9_passHourAt_87 rfl rfl (G_is (by decide) rfl) (x := 9) rfl ?_
        refine w_getR rX9_passHourAt_90 rfl rfl (G_is (by decide) rfl) (x := 10) rfl ?_
        refine w_getR rX9_passHourAt_93 rfl rfl (G_is (by decide) rfl) (x := 11) rfl ?_
        refine w_astore rX9_passHourAt_96 rfl trivial ?_
        refine w_aload rX9_passHourAt_98 rfl ?_
        refine w_bipush rX9_passHourAt_100 (x := 17) (by decide) ?_
        refine w_aload_n rX9_passHourAt_102 rfl ?_
        refine x_getF rX9_passHourAt_103 rfl rfl (G_isk ho1.1) ?_
        refine xl_fastore rX9_passHourAt_106 (G_at (by decide) rfl rfl (by unfold vp_in; decide)) (i := 17) (by decide) ?_
        refine w_aload rX9_passHourAt_107 rfl ?_
        refine w_bipush rX9_passHourAt_109 (x := 18) (by decide) ?_
        refine w_fload rX9_passHourAt_111 rfl ?_
        refine xl_fastore rX9_passHourAt_113 (G_at (by decide) rfl rfl (by unfold vp_in; decide)) (i := 18) (by decide) ?_
        refine w_aload rX9_passHourAt_114 rfl ?_
        refine w_bipush rX9_passHourAt_116 (x := 19) (by decide) ?_
        refine w_iload rX9_passHourAt_118 rfl ?_
        have j120 : ∀ s120_2 : UInt32, s120_2 = (if s65_0 = 0 then 0 else (F (383 + Int32.toNatClampNeg (I o1 7)) 3) : UInt32) → WP mX9_passHourAt 139 [some (.ref 0), some (.ref o1), some (.int x2), some (.float e0), some (.float s37_0), some (.float 0), some (.int s65_0), some (.ref 11)] [.float s120_2, .int 19, .ref 11] (G X I L (am_u (am_u F 11 17 (F o1 5)) 11 18 s37_0)) 0 0 Q := by
          intro s120_2 es120_2
          replace q := q.2
          replace q := q s120_2 es120_2
          refine xl_fastore rX9_passHourAt_139 (G_at (by decide) rfl rfl (by unfold vp_in; decide)) (i := 19) (by decide) ?_
          refine w_aload rX9_passHourAt_140 rfl ?_
          refine w_bipush rX9_passHourAt_142 (x := 16) (by decide) ?_
          refine w_aload_n rX9_passHourAt_144 rfl ?_
          refine x_getI rX9_passHourAt_145 rfl rfl (G_is (by decide) rfl) ?_
          refine w_i2f rX9_passHourAt_148 ?_
          refine xl_fastore rX9_passHourAt_149 (G_at (by decide) rfl rfl (by unfold vp_in; decide)) (i := 16) (by decide) ?_
          refine w_aload_n rX9_passHourAt_150 rfl ?_
          refine w_getR rX9_passHourAt_151 rfl rfl (G_is (by decide) rfl) (x := 9) rfl ?_
          refine w_getR rX9_passHourAt_154 rfl rfl (G_is (by decide) rfl) (x := 10) rfl ?_
          refine w_aload_n rX9_passHourAt_157 rfl ?_
          refine w_getR rX9_passHourAt_158 rfl rfl (G_isk ho1.1) ho1.2.1 ?_
          refine w_invokevirtual rX9_passHourAt_161 rfl rfl rfl (Nat.le_of_ble_eq_true rfl) ⟨trivial, trivial, trivial⟩ (G_is (by decide) rfl) (by decide) (by decide) ?_
          exact q
        replace q := q.1
        refine w_ifeq rX9_passHourAt_120 (fun h120 => ?_) (fun h120 => ?_)
        · skip
          refine w_fconst rX9_passHourAt_138 (x := 0) rfl ?_
          exact j120 _ (if_pos h120).symm
        · replace q := q h120
          refine w_aload_n rX9_passHourAt_123 rfl ?_
          refine w_getR rX9_passHourAt_124 rfl rfl (G_is (by decide) rfl) (x := 379) rfl ?_
          refine w_aload_n rX9_passHourAt_127 rfl ?_
          refine x_getI rX9_passHourAt_128 rfl rfl (G_isk ho1.1) ?_
          have h131 := q.1
          replace q := q.2
          refine w_aaload rX9_passHourAt_131 (G_aa (by decide) rfl rfl h131) (ga_run h131) ?_
          refine x_getF rX9_passHourAt_132 rfl rfl (G_isk (gi_run h131)) ?_
          rw [au_ne (f := (am_u F 11 17 (F o1 5))) (o := 11) (k := 18) (a := (383 + Int32.toNatClampNeg (I o1 7))) (b := 3) (fun z => absurd z.1 (by omega))]
          rw [au_ne (f := F) (o := 11) (k := 17) (a := (383 + Int32.toNatClampNeg (I o1 7))) (b := 3) (fun z => absurd z.1 (by omega))]
          refine w_goto rX9_passHourAt_135 ?_
          exact j120 _ (if_neg h120).symm
      refine w_ifeq rX9_passHourAt_65 (fun h65 => ?_) (fun h65 => ?_)
      · skip
        refine w_iconst rX9_passHourAt_83 (x := 0) (by decide) ?_
        exact j65 _ (if_pos h65).symm
      · skip
        refine w_aload_n rX9_passHourAt_68 rfl ?_
        refine w_aload_n rX9_passHourAt_69 rfl ?_
        refine x_getI rX9_passHourAt_70 rfl rfl (G_isk ho1.1) ?_
        refine w_invokevirtual rX9_passHourAt_73 rfl rfl rfl (Nat.le_of_ble_eq_true rfl) ⟨trivial, trivial, trivial⟩ (G_is (by decide) rfl) (by decide) (by decide) ?_
        refine s_X9_reasonAgainst ?_
        show WP mX9_passHourAt 76 _ _ _ 0 0 _
        refine w_ifne rX9_passHourAt_76 (fun h76 => ?_) (fun h76 => ?_)
        · skip
          refine w_iconst rX9_passHourAt_83 (x := 0) (by decide) ?_
          exact j65 _ ((if_neg h65).trans (if_neg h76)).symm
        · skip
          refine w_iconst rX9_passHourAt_79 (x := 1) (by decide) ?_
          refine w_goto rX9_passHourAt_80 ?_
          exact j65 _ ((if_neg h65).trans (if_pos h76)).symm
  refine w_ifge rX9_passHourAt_37 (fun h37 => ?_) (fun h37 => ?_)
  · skip
    refine w_fload_n rX9_passHourAt_44 rfl ?_
    exact j37 _ (if_pos h37).symm
  · skip
    refine w_fconst rX9_passHourAt_40 (x := 0) rfl ?_
    refine w_goto rX9_passHourAt_41 ?_
    exact j37 _ (if_neg h37).symm
theorem k_X9_passHourAt_164 {X : Nat × (Nat → Int32)} {I : Nat → Nat → Int32} {L : Nat → Nat → Int64} {F : Nat → Nat → UInt32} {Q : AQ} {o1 : Nat} {x2 : Int32} {y3 : UInt32} {y4 : UInt32} {y5 : UInt32} {x6 : Int32} {e0 : UInt32} (ho1 : isDam o1) (q : (p_X0_letThrough o1 (I 0 9) y4 e0 I F) ∧ (Q (.inl none) (G X I L (fF_X0_letThrough o1 (I 0 9) y4 e0 I F)))) : WP mX9_passHourAt 164 [some (.ref 0), some (.ref o1), some (.int x2), some (.float y3), some (.float y4), some (.float y5), some (.int x6), some (.ref 11)] [.float e0] (G X I L F) 0 0 Q := by
  refine w_fstore rX9_passHourAt_164 rfl trivial ?_
  refine w_aload_n rX9_passHourAt_166 rfl ?_
  refine w_aload_n rX9_passHourAt_167 rfl ?_
  refine x_getI rX9_passHourAt_168 rfl rfl (G_is (by decide) rfl) ?_
  refine w_fload rX9_passHourAt_171 rfl ?_
  refine w_fload rX9_passHourAt_173 rfl ?_
  refine w_invokevirtual rX9_passHourAt_175 rfl rfl rfl (Nat.le_of_ble_eq_true rfl) ⟨trivial, trivial, trivial, trivial, trivial⟩ (G_isk ho1.1) (by decide) (by decide) ?_
  refine s_X0_letThrough ho1 q.1 ?_
  replace q := q.2
  show WP mX9_passHourAt 178 _ _ _ 0 0 _
  refine w_return rX9_passHourAt_178 ?_
  exact q
theorem k_X9_bitsOf_0 {X : Nat × (Nat → Int32)} {I : Nat → Nat → Int32} {L : Nat → Nat → Int64} {F : Nat → Nat → UInt32} {Q : AQ} {x : UInt32} (q : ((Op.cmpValue (FP.fcmp x 0) .l) = 0 → Q (.inl (some (.int 0))) (G X I L F)) ∧ (¬ (Op.cmpValue (FP.fcmp x 0) .l) = 0 → ∀ s11_0 : Int32, s11_0 = (if 0 ≤ (Op.cmpValue (FP.fcmp x 0) .g) then 0 else (-2147483648) : Int32) → (((¬ 0 ≤ (Op.cmpValue (FP.fcmp x 0) .g) → vf_n32 (FP.fsub 0 x) ∧ (True))) ∧ (∀ s25_0 : UInt32, s25_0 = (if 0 ≤ (Op.cmpValue (FP.fcmp x 0) .g) then x else (FP.fsub 0 x) : UInt32) → (WP mX9_bitsOf 39 [some (.float x), some (.int s11_0), some (.float s25_0), some (.int 127), none] [] (G X I L F) 0 0 Q))))) : WP mX9_bitsOf 0 (am_ent 5 [.float x]) [] (G X I L F) 0 0 Q := by
  refine w_fload_n rX9_bitsOf_0 rfl ?_
  refine w_fconst rX9_bitsOf_1 (x := 0) rfl ?_
  refine w_fcmp rX9_bitsOf_2 ?_
  refine w_ifne rX9_bitsOf_3 (fun h3 => ?_) (fun h3 => ?_)
  · replace q := q.2 h3
    refine w_fload_n rX9_bitsOf_8 rfl ?_
    refine w_fconst rX9_bitsOf_9 (x := 0) rfl ?_
    refine w_fcmp rX9_bitsOf_10 ?_
    have j11 : ∀ s11_0 : Int32, s11_0 = (if 0 ≤ (Op.cmpValue (FP.fcmp x 0) .g) then 0 else (-2147483648) : Int32) → WP mX9_bitsOf 21 [some (.float x), none, none, none, none] [.int s11_0] (G X I L F) 0 0 Q := by
      intro s11_0 es11_0
      replace q := q s11_0 es11_0
      refine w_istore_n rX9_bitsOf_21 rfl trivial ?_
      refine w_fload_n rX9_bitsOf_22 rfl ?_
      refine w_fconst rX9_bitsOf_23 (x := 0) rfl ?_
      refine w_fcmp rX9_bitsOf_24 ?_
      have j25 : ∀ s25_0 : UInt32, s25_0 = (if 0 ≤ (Op.cmpValue (FP.fcmp x 0) .g) then x else (FP.fsub 0 x) : UInt32) → WP mX9_bitsOf 35 [some (.float x), some (.int s11_0), none, none, none] [.float s25_0] (G X I L F) 0 0 Q := by
        intro s25_0 es25_0
        replace q := q.2
        replace q := q s25_0 es25_0
        refine w_fstore_n rX9_bitsOf_35 rfl trivial ?_
        refine w_bipush rX9_bitsOf_36 (x := 127) (by decide) ?_
        refine w_istore_n rX9_bitsOf_38 rfl trivial ?_
        exact q
      replace q := q.1
      refine w_ifge rX9_bitsOf_25 (fun h25 => ?_) (fun h25 => ?_)
      · skip
        refine w_fload_n rX9_bitsOf_34 rfl ?_
        exact j25 _ (if_pos h25).symm
      · replace q := q h25
        refine w_fconst rX9_bitsOf_28 (x := 0) rfl ?_
        refine w_fload_n rX9_bitsOf_29 rfl ?_
        refine w_fsub rX9_bitsOf_30 q.1 ?_
        replace q := q.2
        refine w_goto rX9_bitsOf_31 ?_
        exact j25 _ (if_neg h25).symm
    refine w_ifge rX9_bitsOf_11 (fun h11 => ?_) (fun h11 => ?_)
    · skip
      refine w_iconst rX9_bitsOf_20 (x := 0) (by decide) ?_
      exact j11 _ (if_pos h11).symm
    · skip
      refine w_ldc_wN rX9_bitsOf_14 (x := -2147483648) (by decide) ?_
      refine w_goto rX9_bitsOf_17 ?_
      exact j11 _ (if_neg h11).symm
  · replace q := q.1 h3
    refine w_iconst rX9_bitsOf_6 (x := 0) (by decide) ?_
    refine w_ireturn rX9_bitsOf_7 trivial ?_
    exact q
theorem k_X9_bitsOf_39 {X : Nat × (Nat → Int32)} {I : Nat → Nat → Int32} {L : Nat → Nat → Int64} {F : Nat → Nat → UInt32} {Q : AQ} {y0 : UInt32} {x1 : Int32} {y2 : UInt32} {x3 : Int32} (q : ((Op.cmpValue (FP.fcmp y2 1073741824) .l) < 0 → WP mX9_bitsOf 62 [some (.float y0), some (.int x1), some (.float y2), some (.int x3), none] [] (G X I L F) 0 0 Q) ∧ (¬ (Op.cmpValue (FP.fcmp y2 1073741824) .l) < 0 → (254 ≤ x3 → WP mX9_bitsOf 62 [some (.float y0), some (.int x1), some (.float y2), some (.int x3), none] [] (G X I L F) 0 0 Q) ∧ (¬ 254 ≤ x3 → vf_n32 (FP.fdiv y2 1073741824) ∧ (WP mX9_bitsOf 39 [some (.float y0), some (.int x1), some (.float (FP.fdiv y2 1073741824)), some (.int (x3 + 1)), none] [] (G X I L F) 0 0 Q)))) : WP mX9_bitsOf 39 [some (.float y0), some (.int x1), some (.float y2), some (.int x3), none] [] (G X I L F) 0 0 Q := by
  refine w_fload_n rX9_bitsOf_39 rfl ?_
  refine w_fconst rX9_bitsOf_40 (x := 1073741824) rfl ?_
  refine w_fcmp rX9_bitsOf_41 ?_
  refine w_iflt rX9_bitsOf_42 (fun h42 => ?_) (fun h42 => ?_)
  · replace q := q.1 h42
    exact q
  · replace q := q.2 h42
    refine w_iload_n rX9_bitsOf_45 rfl ?_
    refine w_sipush rX9_bitsOf_46 (x := 254) (by decide) ?_
    refine w_icmpge rX9_bitsOf_49 (fun h49 => ?_) (fun h49 => ?_)
    · replace q := q.1 h49
      exact q
    · replace q := q.2 h49
      refine w_fload_n rX9_bitsOf_52 rfl ?_
      refine w_fconst rX9_bitsOf_53 (x := 1073741824) rfl ?_
      refine w_fdiv rX9_bitsOf_54 q.1 ?_
      replace q := q.2
      refine w_fstore_n rX9_bitsOf_55 rfl trivial ?_
      refine w_iinc rX9_bitsOf_56 rfl rfl trivial ?_
      refine w_goto rX9_bitsOf_59 ?_
      exact q
theorem k_X9_bitsOf_62 {X : Nat × (Nat → Int32)} {I : Nat → Nat → Int32} {L : Nat → Nat → Int64} {F : Nat → Nat → UInt32} {Q : AQ} {y0 : UInt32} {x1 : Int32} {y2 : UInt32} {x3 : Int32} (q : (0 ≤ (Op.cmpValue (FP.fcmp y2 1065353216) .g) → vf_n32 (FP.fmul y2 1258291200) ∧ (Q (.inl (some (.int (x1 ||| ((((x3 : Int32) <<< (23 &&& 31 : Int32)) + (FP.f2i (FP.fmul y2 1258291200))) - 8388608))))) (G X I L F))) ∧ (¬ 0 ≤ (Op.cmpValue (FP.fcmp y2 1065353216) .g) → (x3 ≤ 1 → vf_n32 (FP.fmul y2 1258291200) ∧ (Q (.inl (some (.int (x1 ||| (FP.f2i (FP.fmul y2 1258291200)))))) (G X I L F))) ∧ (¬ x3 ≤ 1 → vf_n32 (FP.fmul y2 1073741824) ∧ (WP mX9_bitsOf 62 [some (.float y0), some (.int x1), some (.float (FP.fmul y2 1073741824)), some (.int (x3 + (-1))), none] [] (G X I L F) 0 0 Q)))) : WP mX9_bitsOf 62 [some (.float y0), some (.int x1), some (.float y2), some (.int x3), none] [] (G X I L F) 0 0 Q := by
  refine w_fload_n rX9_bitsOf_62 rfl ?_
  refine w_fconst rX9_bitsOf_63 (x := 1065353216) rfl ?_
  refine w_fcmp rX9_bitsOf_64 ?_
  refine w_ifge rX9_bitsOf_65 (fun h65 => ?_) (fun h65 => ?_)
  · replace q := q.1 h65
    refine w_fload_n rX9_bitsOf_83 rfl ?_
    refine w_ldc_wF rX9_bitsOf_84 (x := 1258291200) (by decide) ?_
    refine w_fmul rX9_bitsOf_87 q.1 ?_
    replace q := q.2
    refine w_f2i rX9_bitsOf_88 ?_
    refine w_istore rX9_bitsOf_89 rfl trivial ?_
    refine w_iload_n rX9_bitsOf_91 rfl ?_
    refine w_fload_n rX9_bitsOf_92 rfl ?_
    refine w_fconst rX9_bitsOf_93 (x := 1065353216) rfl ?_
    refine w_fcmp rX9_bitsOf_94 ?_
    refine w_ifge rX9_bitsOf_95 (fun _ => ?_) (fun h => absurd h65 h)
    refine w_iload_n rX9_bitsOf_103 rfl ?_
    refine w_bipush rX9_bitsOf_104 (x := 23) (by decide) ?_
    refine w_ishl rX9_bitsOf_106 ?_
    refine w_iload rX9_bitsOf_107 rfl ?_
    refine w_iadd rX9_bitsOf_109 ?_
    refine w_ldc_wI rX9_bitsOf_110 (x := 8388608) (by decide) ?_
    refine w_isub rX9_bitsOf_113 ?_
    refine w_ior rX9_bitsOf_114 ?_
    refine w_ireturn rX9_bitsOf_115 trivial ?_
    exact q
  · replace q := q.2 h65
    refine w_iload_n rX9_bitsOf_68 rfl ?_
    refine w_iconst rX9_bitsOf_69 (x := 1) (by decide) ?_
    refine w_icmple rX9_bitsOf_70 (fun h70 => ?_) (fun h70 => ?_)
    · replace q := q.1 h70
      refine w_fload_n rX9_bitsOf_83 rfl ?_
      refine w_ldc_wF rX9_bitsOf_84 (x := 1258291200) (by decide) ?_
      refine w_fmul rX9_bitsOf_87 q.1 ?_
      replace q := q.2
      refine w_f2i rX9_bitsOf_88 ?_
      refine w_istore rX9_bitsOf_89 rfl trivial ?_
      refine w_iload_n rX9_bitsOf_91 rfl ?_
      refine w_fload_n rX9_bitsOf_92 rfl ?_
      refine w_fconst rX9_bitsOf_93 (x := 1065353216) rfl ?_
      refine w_fcmp rX9_bitsOf_94 ?_
      refine w_ifge rX9_bitsOf_95 (fun h => absurd h h65) (fun _ => ?_)
      refine w_iload rX9_bitsOf_98 rfl ?_
      refine w_goto rX9_bitsOf_100 ?_
      refine w_ior rX9_bitsOf_114 ?_
      refine w_ireturn rX9_bitsOf_115 trivial ?_
      exact q
    · replace q := q.2 h70
      refine w_fload_n rX9_bitsOf_73 rfl ?_
      refine w_fconst rX9_bitsOf_74 (x := 1073741824) rfl ?_
      refine w_fmul rX9_bitsOf_75 q.1 ?_
      replace q := q.2
      refine w_fstore_n rX9_bitsOf_76 rfl trivial ?_
      refine w_iinc rX9_bitsOf_77 rfl rfl trivial ?_
      refine w_goto rX9_bitsOf_80 ?_
      exact q
theorem k_X10_faultOf_0 {X : Nat × (Nat → Int32)} {I : Nat → Nat → Int32} {L : Nat → Nat → Int64} {F : Nat → Nat → UInt32} {Q : AQ} {isRule : Int32} (q : WP mX10_faultOf 13 [some (.ref 498), some (.int isRule), some (.int 0), some (.int 0), some (.int 0), some (.int 0), some (.int 0), none, none, none, none] [] (G X I L F) 0 0 Q) : WP mX10_faultOf 0 (am_ent 11 [.ref 498, .int isRule]) [] (G X I L F) 0 0 Q := by
  refine w_iconst rX10_faultOf_0 (x := 0) (by decide) ?_
  refine w_istore_n rX10_faultOf_1 rfl trivial ?_
  refine w_iconst rX10_faultOf_2 (x := 0) (by decide) ?_
  refine w_istore_n rX10_faultOf_3 rfl trivial ?_
  refine w_iconst rX10_faultOf_4 (x := 0) (by decide) ?_
  refine w_istore rX10_faultOf_5 rfl trivial ?_
  refine w_iconst rX10_faultOf_7 (x := 0) (by decide) ?_
  refine w_istore rX10_faultOf_8 rfl trivial ?_
  refine w_iconst rX10_faultOf_10 (x := 0) (by decide) ?_
  refine w_istore rX10_faultOf_11 rfl trivial ?_
  exact q
theorem k_X10_faultOf_13 {X : Nat × (Nat → Int32)} {I : Nat → Nat → Int32} {L : Nat → Nat → Int64} {F : Nat → Nat → UInt32} {Q : AQ} {x1 : Int32} {x2 : Int32} {x3 : Int32} {x4 : Int32} {x5 : Int32} {x6 : Int32} {d7 : Option Value} {d8 : Option Value} {d9 : Option Value} {d10 : Option Value} (q : ((I 498 2) ≤ x6 → ∀ s379_0 : Int32, s379_0 = (if x3 = 0 then (if x2 = 1 then 1 else (if x2 = 2 then 1 else (if x2 = 4 then 1 else (if x2 = 5 then 1 else 0 : Int32) : Int32) : Int32) : Int32) else 0 : Int32) → (∀ s411_0 : Int32, s411_0 = (if s379_0 = 0 then (I 498 2) else (-1) : Int32) → (Q (.inl (some (.int s411_0))) (G X I L F)))) ∧ (¬ (I 498 2) ≤ x6 → vp_in x6 40 ∧ (∀ s36_0 : Int32, s36_0 = (if x2 = 1 then 1 else (if x2 = 2 then 1 else (if x2 = 4 then 1 else (if x2 = 5 then 1 else 0 : Int32) : Int32) : Int32) : Int32) → ((x2 = 0 → ∀ s80_0 : Int32, s80_0 = (if (f_X10_begun (I 499 (Int32.toNatClampNeg x6)) x1) = 7 then (f_X10_inputs (I 499 (Int32.toNatClampNeg x6))) else (f_X10_figures (I 499 (Int32.toNatClampNeg x6)) x1) : Int32) → ((((I 499 (Int32.toNatClampNeg x6)) = 40 → vp_in x3 40 ∧ (True))) ∧ (∀ I103 : Nat → Nat → Int32, I103 = (if (I 499 (Int32.toNatClampNeg x6)) = 40 then (am_u I 500 (Int32.toNatClampNeg x3) 1) else I : Nat → Nat → Int32) → ∀ v103_3 : Int32, v103_3 = (if (I 499 (Int32.toNatClampNeg x6)) = 40 then (x3 + 1) else x3 : Int32) → (((f_X10_begun (I 499 (Int32.toNatClampNeg x6)) x1) = (-1) → Q (.inl (some (.int x6))) (G X I103 L F)) ∧ (¬ (f_X10_begun (I 499 (Int32.toNatClampNeg x6)) x1) = (-1) → WP mX10_faultOf 13 [some (.ref 498), some (.int x1), some (.int (f_X10_begun (I 499 (Int32.toNatClampNeg x6)) x1)), some (.int v103_3), some (.int 1), some (.int s80_0), some (.int (x6 + 1)), some (.int (I 499 (Int32.toNatClampNeg x6))), some (.int (f_X10_begun (I 499 (Int32.toNatClampNeg x6)) x1)), some (.int s36_0), d10] [] (G X I103 L F) 0 0 Q))))) ∧ (¬ x2 = 0 → ((f_X10_isFigure (I 499 (Int32.toNatClampNeg x6))) = 0 → (x2 = 7 → ((I 499 (Int32.toNatClampNeg x6)) = 40 → vp_in x3 40 ∧ (WP mX10_faultOf 13 [some (.ref 498), some (.int x1), some (.int 0), some (.int (x3 + 1)), some (.int x4), some (.int x5), some (.int (x6 + 1)), some (.int (I 499 (Int32.toNatClampNeg x6))), some (.int 0), some (.int s36_0), d10] [] (G X (am_u I 500 (Int32.toNatClampNeg x3) x5) L F) 0 0 Q)) ∧ (¬ (I 499 (Int32.toNatClampNeg x6)) = 40 → (x2 = 2 → ((I 499 (Int32.toNatClampNeg x6)) = 46 → WP mX10_faultOf 13 [some (.ref 498), some (.int x1), some (.int 3), some (.int x3), some (.int x4), some (.int x5), some (.int (x6 + 1)), some (.int (I 499 (Int32.toNatClampNeg x6))), some (.int 3), some (.int s36_0), d10] [] (G X I L F) 0 0 Q) ∧ (¬ (I 499 (Int32.toNatClampNeg x6)) = 46 → ((¬ s36_0 = 0 → ((f_X10_isSign (I 499 (Int32.toNatClampNeg x6))) = 0 → ((I 499 (Int32.toNatClampNeg x6)) = 44 → (¬ x3 ≤ 0 → vp_in (x3 - 1) 40 ∧ (((I 500 (Int32.toNatClampNeg (x3 - 1))) ≤ 1 → ((I 499 (Int32.toNatClampNeg x6)) = 41 → vp_in (x3 - 1) 40 ∧ (True))) ∧ (¬ (I 500 (Int32.toNatClampNeg (x3 - 1))) ≤ 1 → vp_in (x3 - 1) 40 ∧ (vp_in (x3 - 1) 40 ∧ (True)))))) ∧ (¬ (I 499 (Int32.toNatClampNeg x6)) = 44 → ((I 499 (Int32.toNatClampNeg x6)) = 41 → (¬ x3 ≤ 0 → vp_in (x3 - 1) 40 ∧ (True))))))) ∧ (∀ I263 : Nat → Nat → Int32, I263 = (if s36_0 = 0 then I else (if (f_X10_isSign (I 499 (Int32.toNatClampNeg x6))) = 0 then (if (I 499 (Int32.toNatClampNeg x6)) = 44 then (if x3 ≤ 0 then I else (if (I 500 (Int32.toNatClampNeg (x3 - 1))) ≤ 1 then I else (am_u I 500 (Int32.toNatClampNeg (x3 - 1)) ((I 500 (Int32.toNatClampNeg (x3 - 1))) - 1)) : Nat → Nat → Int32) : Nat → Nat → Int32) else I : Nat → Nat → Int32) else I : Nat → Nat → Int32) : Nat → Nat → Int32) → ∀ v263_3 : Int32, v263_3 = (if s36_0 = 0 then x3 else (if (f_X10_isSign (I 499 (Int32.toNatClampNeg x6))) = 0 then (if (I 499 (Int32.toNatClampNeg x6)) = 44 then (if x3 ≤ 0 then x3 else (if (I 500 (Int32.toNatClampNeg (x3 - 1))) ≤ 1 then (if (I 499 (Int32.toNatClampNeg x6)) = 41 then (if (I 500 (Int32.toNatClampNeg (x3 - 1))) = 1 then (x3 + (-1)) else x3 : Int32) else x3 : Int32) else x3 : Int32) : Int32) else (if (I 499 (Int32.toNatClampNeg x6)) = 41 then (if x3 ≤ 0 then x3 else (if (I 500 (Int32.toNatClampNeg (x3 - 1))) = 1 then (x3 + (-1)) else x3 : Int32) : Int32) else x3 : Int32) : Int32) else x3 : Int32) : Int32) → ∀ v263_8 : Int32, v263_8 = (if s36_0 = 0 then (-1) else (if (f_X10_isSign (I 499 (Int32.toNatClampNeg x6))) = 0 then (if (I 499 (Int32.toNatClampNeg x6)) = 44 then (if x3 ≤ 0 then (-1) else (if (I 500 (Int32.toNatClampNeg (x3 - 1))) ≤ 1 then (if (I 499 (Int32.toNatClampNeg x6)) = 41 then (if (I 500 (Int32.toNatClampNeg (x3 - 1))) = 1 then 1 else (-1) : Int32) else (-1) : Int32) else 0 : Int32) : Int32) else (if (I 499 (Int32.toNatClampNeg x6)) = 41 then (if x3 ≤ 0 then (-1) else (if (I 500 (Int32.toNatClampNeg (x3 - 1))) = 1 then 1 else (-1) : Int32) : Int32) else (-1) : Int32) : Int32) else 0 : Int32) : Int32) → ((v263_8 = (-1) → Q (.inl (some (.int x6))) (G X I263 L F)) ∧ (¬ v263_8 = (-1) → WP mX10_faultOf 13 [some (.ref 498), some (.int x1), some (.int v263_8), some (.int v263_3), some (.int x4), some (.int x5), some (.int (x6 + 1)), some (.int (I 499 (Int32.toNatClampNeg x6))), some (.int v263_8), some (.int s36_0), d10] [] (G X I263 L F) 0 0 Q))))) ∧ (¬ x2 = 2 → ((¬ s36_0 = 0 → ((f_X10_isSign (I 499 (Int32.toNatClampNeg x6))) = 0 → ((I 499 (Int32.toNatClampNeg x6)) = 44 → (¬ x3 ≤ 0 → vp_in (x3 - 1) 40 ∧ (((I 500 (Int32.toNatClampNeg (x3 - 1))) ≤ 1 → ((I 499 (Int32.toNatClampNeg x6)) = 41 → vp_in (x3 - 1) 40 ∧ (True))) ∧ (¬ (I 500 (Int32.toNatClampNeg (x3 - 1))) ≤ 1 → vp_in (x3 - 1) 40 ∧ (vp_in (x3 - 1) 40 ∧ (True)))))) ∧ (¬ (I 499 (Int32.toNatClampNeg x6)) = 44 → ((I 499 (Int32.toNatClampNeg x6)) = 41 → (¬ x3 ≤ 0 → vp_in (x3 - 1) 40 ∧ (True))))))) ∧ (∀ I263 : Nat → Nat → Int32, I263 = (if s36_0 = 0 then I else (if (f_X10_isSign (I 499 (Int32.toNatClampNeg x6))) = 0 then (if (I 499 (Int32.toNatClampNeg x6)) = 44 then (if x3 ≤ 0 then I else (if (I 500 (Int32.toNatClampNeg (x3 - 1))) ≤ 1 then I else (am_u I 500 (Int32.toNatClampNeg (x3 - 1)) ((I 500 (Int32.toNatClampNeg (x3 - 1))) - 1)) : Nat → Nat → Int32) : Nat → Nat → Int32) else I : Nat → Nat → Int32) else I : Nat → Nat → Int32) : Nat → Nat → Int32) → ∀ v263_3 : Int32, v263_3 = (if s36_0 = 0 then x3 else (if (f_X10_isSign (I 499 (Int32.toNatClampNeg x6))) = 0 then (if (I 499 (Int32.toNatClampNeg x6)) = 44 then (if x3 ≤ 0 then x3 else (if (I 500 (Int32.toNatClampNeg (x3 - 1))) ≤ 1 then (if (I 499 (Int32.toNatClampNeg x6)) = 41 then (if (I 500 (Int32.toNatClampNeg (x3 - 1))) = 1 then (x3 + (-1)) else x3 : Int32) else x3 : Int32) else x3 : Int32) : Int32) else (if (I 499 (Int32.toNatClampNeg x6)) = 41 then (if x3 ≤ 0 then x3 else (if (I 500 (Int32.toNatClampNeg (x3 - 1))) = 1 then (x3 + (-1)) else x3 : Int32) : Int32) else x3 : Int32) : Int32) else x3 : Int32) : Int32) → ∀ v263_8 : Int32, v263_8 = (if s36_0 = 0 then (-1) else (if (f_X10_isSign (I 499 (Int32.toNatClampNeg x6))) = 0 then (if (I 499 (Int32.toNatClampNeg x6)) = 44 then (if x3 ≤ 0 then (-1) else (if (I 500 (Int32.toNatClampNeg (x3 - 1))) ≤ 1 then (if (I 499 (Int32.toNatClampNeg x6)) = 41 then (if (I 500 (Int32.toNatClampNeg (x3 - 1))) = 1 then 1 else (-1) : Int32) else (-1) : Int32) else 0 : Int32) : Int32) else (if (I 499 (Int32.toNatClampNeg x6)) = 41 then (if x3 ≤ 0 then (-1) else (if (I 500 (Int32.toNatClampNeg (x3 - 1))) = 1 then 1 else (-1) : Int32) : Int32) else (-1) : Int32) : Int32) else 0 : Int32) : Int32) → ((v263_8 = (-1) → Q (.inl (some (.int x6))) (G X I263 L F)) ∧ (¬ v263_8 = (-1) → WP mX10_faultOf 13 [some (.ref 498), some (.int x1), some (.int v263_8), some (.int v263_3), some (.int x4), some (.int x5), some (.int (x6 + 1)), some (.int (I 499 (Int32.toNatClampNeg x6))), some (.int v263_8), some (.int s36_0), d10] [] (G X I263 L F) 0 0 Q)))))) ∧ (¬ x2 = 7 → (x2 = 2 → ((I 499 (Int32.toNatClampNeg x6)) = 46 → WP mX10_faultOf 13 [some (.ref 498), some (.int x1), some (.int 3), some (.int x3), some (.int x4), some (.int x5), some (.int (x6 + 1)), some (.int (I 499 (Int32.toNatClampNeg x6))), some (.int 3), some (.int s36_0), d10] [] (G X I L F) 0 0 Q) ∧ (¬ (I 499 (Int32.toNatClampNeg x6)) = 46 → ((¬ s36_0 = 0 → ((f_X10_isSign (I 499 (Int32.toNatClampNeg x6))) = 0 → ((I 499 (Int32.toNatClampNeg x6)) = 44 → (¬ x3 ≤ 0 → vp_in (x3 - 1) 40 ∧ (((I 500 (Int32.toNatClampNeg (x3 - 1))) ≤ 1 → ((I 499 (Int32.toNatClampNeg x6)) = 41 → vp_in (x3 - 1) 40 ∧ (True))) ∧ (¬ (I 500 (Int32.toNatClampNeg (x3 - 1))) ≤ 1 → vp_in (x3 - 1) 40 ∧ (vp_in (x3 - 1) 40 ∧ (True)))))) ∧ (¬ (I 499 (Int32.toNatClampNeg x6)) = 44 → ((I 499 (Int32.toNatClampNeg x6)) = 41 → (¬ x3 ≤ 0 → vp_in (x3 - 1) 40 ∧ (True))))))) ∧ (∀ I263 : Nat → Nat → Int32, I263 = (if s36_0 = 0 then I else (if (f_X10_isSign (I 499 (Int32.toNatClampNeg x6))) = 0 then (if (I 499 (Int32.toNatClampNeg x6)) = 44 then (if x3 ≤ 0 then I else (if (I 500 (Int32.toNatClampNeg (x3 - 1))) ≤ 1 then I else (am_u I 500 (Int32.toNatClampNeg (x3 - 1)) ((I 500 (Int32.toNatClampNeg (x3 - 1))) - 1)) : Nat → Nat → Int32) : Nat → Nat → Int32) else I : Nat → Nat → Int32) else I : Nat → Nat → Int32) : Nat → Nat → Int32) → ∀ v263_3 : Int32, v263_3 = (if s36_0 = 0 then x3 else (if (f_X10_isSign (I 499 (Int32.toNatClampNeg x6))) = 0 then (if (I 499 (Int32.toNatClampNeg x6)) = 44 then (if x3 ≤ 0 then x3 else (if (I 500 (Int32.toNatClampNeg (x3 - 1))) ≤ 1 then (if (I 499 (Int32.toNatClampNeg x6)) = 41 then (if (I 500 (Int32.toNatClampNeg (x3 - 1))) = 1 then (x3 + (-1)) else x3 : Int32) else x3 : Int32) else x3 : Int32) : Int32) else (if (I 499 (Int32.toNatClampNeg x6)) = 41 then (if x3 ≤ 0 then x3 else (if (I 500 (Int32.toNatClampNeg (x3 - 1))) = 1 then (x3 + (-1)) else x3 : Int32) : Int32) else x3 : Int32) : Int32) else x3 : Int32) : Int32) → ∀ v263_8 : Int32, v263_8 = (if s36_0 = 0 then (-1) else (if (f_X10_isSign (I 499 (Int32.toNatClampNeg x6))) = 0 then (if (I 499 (Int32.toNatClampNeg x6)) = 44 then (if x3 ≤ 0 then (-1) else (if (I 500 (Int32.toNatClampNeg (x3 - 1))) ≤ 1 then (if (I 499 (Int32.toNatClampNeg x6)) = 41 then (if (I 500 (Int32.toNatClampNeg (x3 - 1))) = 1 then 1 else (-1) : Int32) else (-1) : Int32) else 0 : Int32) : Int32) else (if (I 499 (Int32.toNatClampNeg x6)) = 41 then (if x3 ≤ 0 then (-1) else (if (I 500 (Int32.toNatClampNeg (x3 - 1))) = 1 then 1 else (-1) : Int32) : Int32) else (-1) : Int32) : Int32) else 0 : Int32) : Int32) → ((v263_8 = (-1) → Q (.inl (some (.int x6))) (G X I263 L F)) ∧ (¬ v263_8 = (-1) → WP mX10_faultOf 13 [some (.ref 498), some (.int x1), some (.int v263_8), some (.int v263_3), some (.int x4), some (.int x5), some (.int (x6 + 1)), some (.int (I 499 (Int32.toNatClampNeg x6))), some (.int v263_8), some (.int s36_0), d10] [] (G X I263 L F) 0 0 Q))))) ∧ (¬ x2 = 2 → ((¬ s36_0 = 0 → ((f_X10_isSign (I 499 (Int32.toNatClampNeg x6))) = 0 → ((I 499 (Int32.toNatClampNeg x6)) = 44 → (¬ x3 ≤ 0 → vp_in (x3 - 1) 40 ∧ (((I 500 (Int32.toNatClampNeg (x3 - 1))) ≤ 1 → ((I 499 (Int32.toNatClampNeg x6)) = 41 → vp_in (x3 - 1) 40 ∧ (True))) ∧ (¬ (I 500 (Int32.toNatClampNeg (x3 - 1))) ≤ 1 → vp_in (x3 - 1) 40 ∧ (vp_in (x3 - 1) 40 ∧ (True)))))) ∧ (¬ (I 499 (Int32.toNatClampNeg x6)) = 44 → ((I 499 (Int32.toNatClampNeg x6)) = 41 → (¬ x3 ≤ 0 → vp_in (x3 - 1) 40 ∧ (True))))))) ∧ (∀ I263 : Nat → Nat → Int32, I263 = (if s36_0 = 0 then I else (if (f_X10_isSign (I 499 (Int32.toNatClampNeg x6))) = 0 then (if (I 499 (Int32.toNatClampNeg x6)) = 44 then (if x3 ≤ 0 then I else (if (I 500 (Int32.toNatClampNeg (x3 - 1))) ≤ 1 then I else (am_u I 500 (Int32.toNatClampNeg (x3 - 1)) ((I 500 (Int32.toNatClampNeg (x3 - 1))) - 1)) : Nat → Nat → Int32) : Nat → Nat → Int32) else I : Nat → Nat → Int32) else I : Nat → Nat → Int32) : Nat → Nat → Int32) → ∀ v263_3 : Int32, v263_3 = (if s36_0 = 0 then x3 else (if (f_X10_isSign (I 499 (Int32.toNatClampNeg x6))) = 0 then (if (I 499 (Int32.toNatClampNeg x6)) = 44 then (if x3 ≤ 0 then x3 else (if (I 500 (Int32.toNatClampNeg (x3 - 1))) ≤ 1 then (if (I 499 (Int32.toNatClampNeg x6)) = 41 then (if (I 500 (Int32.toNatClampNeg (x3 - 1))) = 1 then (x3 + (-1)) else x3 : Int32) else x3 : Int32) else x3 : Int32) : Int32) else (if (I 499 (Int32.toNatClampNeg x6)) = 41 then (if x3 ≤ 0 then x3 else (if (I 500 (Int32.toNatClampNeg (x3 - 1))) = 1 then (x3 + (-1)) else x3 : Int32) : Int32) else x3 : Int32) : Int32) else x3 : Int32) : Int32) → ∀ v263_8 : Int32, v263_8 = (if s36_0 = 0 then (-1) else (if (f_X10_isSign (I 499 (Int32.toNatClampNeg x6))) = 0 then (if (I 499 (Int32.toNatClampNeg x6)) = 44 then (if x3 ≤ 0 then (-1) else (if (I 500 (Int32.toNatClampNeg (x3 - 1))) ≤ 1 then (if (I 499 (Int32.toNatClampNeg x6)) = 41 then (if (I 500 (Int32.toNatClampNeg (x3 - 1))) = 1 then 1 else (-1) : Int32) else (-1) : Int32) else 0 : Int32) : Int32) else (if (I 499 (Int32.toNatClampNeg x6)) = 41 then (if x3 ≤ 0 then (-1) else (if (I 500 (Int32.toNatClampNeg (x3 - 1))) = 1 then 1 else (-1) : Int32) : Int32) else (-1) : Int32) : Int32) else 0 : Int32) : Int32) → ((v263_8 = (-1) → Q (.inl (some (.int x6))) (G X I263 L F)) ∧ (¬ v263_8 = (-1) → WP mX10_faultOf 13 [some (.ref 498), some (.int x1), some (.int v263_8), some (.int v263_3), some (.int x4), some (.int x5), some (.int (x6 + 1)), some (.int (I 499 (Int32.toNatClampNeg x6))), some (.int v263_8), some (.int s36_0), d10] [] (G X I263 L F) 0 0 Q)))))) ∧ (¬ (f_X10_isFigure (I 499 (Int32.toNatClampNeg x6))) = 0 → ∀ s129_0 : Int32, s129_0 = (if x2 = 2 then (if 3 ≤ x4 then 0 else 1 : Int32) else 0 : Int32) → (∀ s149_1 : Int32, s149_1 = (if s129_0 = 0 then 0 else 1 : Int32) → (∀ s162_0 : Int32, s162_0 = (if s129_0 = 0 then (if x2 = 3 then 4 else (if x2 = 4 then 5 else (if x2 = 6 then (if x5 ≤ ((I 499 (Int32.toNatClampNeg x6)) - 48) then (-1) else 1 : Int32) else (-1) : Int32) : Int32) : Int32) else 2 : Int32) → ((s162_0 = (-1) → Q (.inl (some (.int x6))) (G X I L F)) ∧ (¬ s162_0 = (-1) → WP mX10_faultOf 13 [some (.ref 498), some (.int x1), some (.int s162_0), some (.int x3), some (.int (x4 + s149_1)), some (.int x5), some (.int (x6 + 1)), some (.int (I 499 (Int32.toNatClampNeg x6))), some (.int s162_0), some (.int s36_0), some (.int s129_0)] [] (G X I L F) 0 0 Q)))))))))) : WP mX10_faultOf 13 [some (.ref 498), some (.int x1), some (.int x2), some (.int x3), some (.int x4), some (.int x5), some (.int x6), d7, d8, d9, d10] [] (G X I L F) 0 0 Q := by
  refine w_iload rX10_faultOf_13 rfl ?_
  refine w_aload_n rX10_faultOf_15 rfl ?_
  refine x_getI rX10_faultOf_16 rfl rfl (G_is (by decide) rfl) ?_
  refine w_icmpge rX10_faultOf_19 (fun h19 => ?_) (fun h19 => ?_)
  · replace q := q.1 h19
    refine w_iload_n rX10_faultOf_378 rfl ?_
    have j379 : ∀ s379_0 : Int32, s379_0 = (if x3 = 0 then (if x2 = 1 then 1 else (if x2 = 2 then 1 else (if x2 = 4 then 1 else (if x2 = 5 then 1 else 0 : Int32) : Int32) : Int32) : Int32) else 0 : Int32) → WP mX10_faultOf 407 [some (.ref 498), some (.int x1), some (.int x2), some (.int x3), some (.int x4), some (.int x5), some (.int x6), d7, d8, d9, d10] [.int s379_0] (G X I L F) 0 0 Q := by
      intro s379_0 es379_0
      replace q := q s379_0 es379_0
      refine w_istore rX10_faultOf_407 rfl trivial ?_
      refine w_iload rX10_faultOf_409 rfl ?_
      have j411 : ∀ s411_0 : Int32, s411_0 = (if s379_0 = 0 then (I 498 2) else (-1) : Int32) → WP mX10_faultOf 422 [some (.ref 498), some (.int x1), some (.int x2), some (.int x3), some (.int x4), some (.int x5), some (.int s379_0), d7, d8, d9, d10] [.int s411_0] (G X I L F) 0 0 Q := by
        intro s411_0 es411_0
        replace q := q s411_0 es411_0
        refine w_ireturn rX10_faultOf_422 trivial ?_
        exact q
      refine w_ifeq rX10_faultOf_411 (fun h411 => ?_) (fun h411 => ?_)
      · skip
        refine w_aload_n rX10_faultOf_418 rfl ?_
        refine x_getI rX10_faultOf_419 rfl rfl (G_is (by decide) rfl) ?_
        exact j411 _ (if_pos h411).symm
      · skip
        refine w_iconst rX10_faultOf_414 (x := -1) (by decide) ?_
        refine w_goto rX10_faultOf_415 ?_
        exact j411 _ (if_neg h411).symm
    refine w_ifne rX10_faultOf_379 (fun h379 => ?_) (fun h379 => ?_)
    · skip
      refine w_iconst rX10_faultOf_406 (x := 0) (by decide) ?_
      exact j379 _ (if_neg h379).symm
    · skip
      refine w_iload_n rX10_faultOf_382 rfl ?_
      refine w_iconst rX10_faultOf_383 (x := 1) (by decide) ?_
      refine w_icmpeq rX10_faultOf_384 (fun h384 => ?_) (fun h384 => ?_)
      · skip
        refine w_iconst rX10_faultOf_402 (x := 1) (by decide) ?_
        refine w_goto rX10_faultOf_403 ?_
        exact j379 _ ((if_pos h379).trans (if_pos h384)).symm
      · skip
        refine w_iload_n rX10_faultOf_387 rfl ?_
        refine w_iconst rX10_faultOf_388 (x := 2) (by decide) ?_
        refine w_icmpeq rX10_faultOf_389 (fun h389 => ?_) (fun h389 => ?_)
        · skip
          refine w_iconst rX10_faultOf_402 (x := 1) (by decide) ?_
          refine w_goto rX10_faultOf_403 ?_
          exact j379 _ (((if_pos h379).trans (if_neg h384)).trans (if_pos h389)).symm
        · skip
          refine w_iload_n rX10_faultOf_392 rfl ?_
          refine w_iconst rX10_faultOf_393 (x := 4) (by decide) ?_
          refine w_icmpeq rX10_faultOf_394 (fun h394 => ?_) (fun h394 => ?_)
          · skip
            refine w_iconst rX10_faultOf_402 (x := 1) (by decide) ?_
            refine w_goto rX10_faultOf_403 ?_
            exact j379 _ ((((if_pos h379).trans (if_neg h384)).trans (if_neg h389)).trans (if_pos h394)).symm
          · skip
            refine w_iload_n rX10_faultOf_397 rfl ?_
            refine w_iconst rX10_faultOf_398 (x := 5) (by decide) ?_
            refine w_icmpne rX10_faultOf_399 (fun h399 => ?_) (fun h399 => ?_)
            · skip
              refine w_iconst rX10_faultOf_406 (x := 0) (by decide) ?_
              exact j379 _ (((((if_pos h379).trans (if_neg h384)).trans (if_neg h389)).trans (if_neg h394)).trans (if_neg h399)).symm
            · skip
              refine w_iconst rX10_faultOf_402 (x := 1) (by decide) ?_
              refine w_goto rX10_faultOf_403 ?_
              exact j379 _ (((((if_pos h379).trans (if_neg h384)).trans (if_neg h389)).trans (if_neg h394)).trans (if_pos h399)).symm
  · replace q := q.2 h19
    refine w_aload_n rX10_faultOf_22 rfl ?_
    refine w_getR rX10_faultOf_23 rfl rfl (G_is (by decide) rfl) (x := 499) rfl ?_
    refine w_iload rX10_faultOf_26 rfl ?_
    have h28 := q.1
    replace q := q.2
    refine x_iaload rX10_faultOf_28 (G_at (by decide) rfl rfl h28) ?_
    refine w_istore rX10_faultOf_29 rfl trivial ?_
    refine w_iconst rX10_faultOf_31 (x := -1) (by decide) ?_
    refine w_istore rX10_faultOf_32 rfl trivial ?_
    refine w_iload_n rX10_faultOf_34 rfl ?_
    refine w_iconst rX10_faultOf_35 (x := 1) (by decide) ?_
    have j36 : ∀ s36_0 : Int32, s36_0 = (if x2 = 1 then 1 else (if x2 = 2 then 1 else (if x2 = 4 then 1 else (if x2 = 5 then 1 else 0 : Int32) : Int32) : Int32) : Int32) → WP mX10_faultOf 59 [some (.ref 498), some (.int x1), some (.int x2), some (.int x3), some (.int x4), some (.int x5), some (.int x6), some (.int (I 499 (Int32.toNatClampNeg x6))), some (.int (-1)), d9, d10] [.int s36_0] (G X I L F) 0 0 Q := by
      intro s36_0 es36_0
      replace q := q s36_0 es36_0
      refine w_istore rX10_faultOf_59 rfl trivial ?_
      refine w_iload_n rX10_faultOf_61 rfl ?_
      refine w_ifne rX10_faultOf_62 (fun h62 => ?_) (fun h62 => ?_)
      · replace q := q.2 h62
        refine w_iload rX10_faultOf_119 rfl ?_
        refine w_invokestatic rX10_faultOf_121 rfl rfl rfl (Nat.le_of_ble_eq_true rfl) ⟨trivial, trivial⟩ trivial (by decide) (by decide) ?_
        refine s_X10_isFigure ?_
        show WP mX10_faultOf 124 _ _ _ 0 0 _
        refine w_ifeq rX10_faultOf_124 (fun h124 => ?_) (fun h124 => ?_)
        · replace q := q.1 h124
          refine w_iload_n rX10_faultOf_213 rfl ?_
          refine w_bipush rX10_faultOf_214 (x := 7) (by decide) ?_
          refine w_icmpne rX10_faultOf_216 (fun h216 => ?_) (fun h216 => ?_)
          · replace q := q.2 h216
            refine w_iload_n rX10_faultOf_243 rfl ?_
            refine w_iconst rX10_faultOf_244 (x := 2) (by decide) ?_
            refine w_icmpne rX10_faultOf_245 (fun h245 => ?_) (fun h245 => ?_)
            · replace q := q.2 h245
              refine w_iload rX10_faultOf_261 rfl ?_
              have j263 : ∀ I263 : Nat → Nat → Int32, I263 = (if s36_0 = 0 then I else (if (f_X10_isSign (I 499 (Int32.toNatClampNeg x6))) = 0 then (if (I 499 (Int32.toNatClampNeg x6)) = 44 then (if x3 ≤ 0 then I else (if (I 500 (Int32.toNatClampNeg (x3 - 1))) ≤ 1 then I else (am_u I 500 (Int32.toNatClampNeg (x3 - 1)) ((I 500 (Int32.toNatClampNeg (x3 - 1))) - 1)) : Nat → Nat → Int32) : Nat → Nat → Int32) else I : Nat → Nat → Int32) else I : Nat → Nat → Int32) : Nat → Nat → Int32) → ∀ v263_3 : Int32, v263_3 = (if s36_0 = 0 then x3 else (if (f_X10_isSign (I 499 (Int32.toNatClampNeg x6))) = 0 then (if (I 499 (Int32.toNatClampNeg x6)) = 44 then (if x3 ≤ 0 then x3 else (if (I 500 (Int32.toNatClampNeg (x3 - 1))) ≤ 1 then (if (I 499 (Int32.toNatClampNeg x6)) = 41 then (if (I 500 (Int32.toNatClampNeg (x3 - 1))) = 1 then (x3 + (-1)) else x3 : Int32) else x3 : Int32) else x3 : Int32) : Int32) else (if (I 499 (Int32.toNatClampNeg x6)) = 41 then (if x3 ≤ 0 then x3 else (if (I 500 (Int32.toNatClampNeg (x3 - 1))) = 1 then (x3 + (-1)) else x3 : Int32) : Int32) else x3 : Int32) : Int32) else x3 : Int32) : Int32) → ∀ v263_8 : Int32, v263_8 = (if s36_0 = 0 then (-1) else (if (f_X10_isSign (I 499 (Int32.toNatClampNeg x6))) = 0 then (if (I 499 (Int32.toNatClampNeg x6)) = 44 then (if x3 ≤ 0 then (-1) else (if (I 500 (Int32.toNatClampNeg (x3 - 1))) ≤ 1 then (if (I 499 (Int32.toNatClampNeg x6)) = 41 then (if (I 500 (Int32.toNatClampNeg (x3 - 1))) = 1 then 1 else (-1) : Int32) else (-1) : Int32) else 0 : Int32) : Int32) else (if (I 499 (Int32.toNatClampNeg x6)) = 41 then (if x3 ≤ 0 then (-1) else (if (I 500 (Int32.toNatClampNeg (x3 - 1))) = 1 then 1 else (-1) : Int32) : Int32) else (-1) : Int32) : Int32) else 0 : Int32) : Int32) → WP mX10_faultOf 360 [some (.ref 498), some (.int x1), some (.int x2), some (.int v263_3), some (.int x4), some (.int x5), some (.int x6), some (.int (I 499 (Int32.toNatClampNeg x6))), some (.int v263_8), some (.int s36_0), d10] [] (G X I263 L F) 0 0 Q := by
                intro I263 eI263 v263_3 ev263_3 v263_8 ev263_8
                replace q := q.2
                replace q := q I263 eI263 v263_3 ev263_3 v263_8 ev263_8
                refine w_iload rX10_faultOf_360 rfl ?_
                refine w_iconst rX10_faultOf_362 (x := -1) (by decide) ?_
                refine w_icmpne rX10_faultOf_363 (fun h363 => ?_) (fun h363 => ?_)
                · replace q := q.2 h363
                  refine w_iload rX10_faultOf_369 rfl ?_
                  refine w_istore_n rX10_faultOf_371 rfl trivial ?_
                  refine w_iinc rX10_faultOf_372 rfl rfl trivial ?_
                  refine w_goto rX10_faultOf_375 ?_
                  exact q
                · replace q := q.1 h363
                  refine w_iload rX10_faultOf_366 rfl ?_
                  refine w_ireturn rX10_faultOf_368 trivial ?_
                  exact q
              replace q := q.1
              refine w_ifeq rX10_faultOf_263 (fun h263 => ?_) (fun h263 => ?_)
              · skip
                refine w_iload rX10_faultOf_280 rfl ?_
                refine w_ifeq rX10_faultOf_282 (fun _ => ?_) (fun h => absurd h263 h)
                refine w_iload rX10_faultOf_326 rfl ?_
                refine w_ifeq rX10_faultOf_328 (fun _ => ?_) (fun h => absurd h263 h)
                exact j263 _ (if_pos h263).symm _ (if_pos h263).symm _ (if_pos h263).symm
              · replace q := q h263
                refine w_iload rX10_faultOf_266 rfl ?_
                refine w_invokestatic rX10_faultOf_268 rfl rfl rfl (Nat.le_of_ble_eq_true rfl) ⟨trivial, trivial⟩ trivial (by decide) (by decide) ?_
                refine s_X10_isSign ?_
                show WP mX10_faultOf 271 _ _ _ 0 0 _
                refine w_ifeq rX10_faultOf_271 (fun h271 => ?_) (fun h271 => ?_)
                · replace q := q h271
                  refine w_iload rX10_faultOf_280 rfl ?_
                  refine w_ifeq rX10_faultOf_282 (fun h => absurd h h263) (fun _ => ?_)
                  refine w_iload rX10_faultOf_285 rfl ?_
                  refine w_bipush rX10_faultOf_287 (x := 44) (by decide) ?_
                  refine w_icmpne rX10_faultOf_289 (fun h289 => ?_) (fun h289 => ?_)
                  · replace q := q.2 h289
                    refine w_iload rX10_faultOf_326 rfl ?_
                    refine w_ifeq rX10_faultOf_328 (fun h => absurd h h263) (fun _ => ?_)
                    refine w_iload rX10_faultOf_331 rfl ?_
                    refine w_bipush rX10_faultOf_333 (x := 41) (by decide) ?_
                    refine w_icmpne rX10_faultOf_335 (fun h335 => ?_) (fun h335 => ?_)
                    · skip
                      exact j263 _ (((if_neg h263).trans (if_pos h271)).trans (if_neg h289)).symm _ ((((if_neg h263).trans (if_pos h271)).trans (if_neg h289)).trans (if_neg h335)).symm _ ((((if_neg h263).trans (if_pos h271)).trans (if_neg h289)).trans (if_neg h335)).symm
                    · replace q := q h335
                      refine w_iload_n rX10_faultOf_338 rfl ?_
                      refine w_ifle rX10_faultOf_339 (fun h339 => ?_) (fun h339 => ?_)
                      · skip
                        exact j263 _ (((if_neg h263).trans (if_pos h271)).trans (if_neg h289)).symm _ (((((if_neg h263).trans (if_pos h271)).trans (if_neg h289)).trans (if_pos h335)).trans (if_pos h339)).symm _ (((((if_neg h263).trans (if_pos h271)).trans (if_neg h289)).trans (if_pos h335)).trans (if_pos h339)).symm
                      · replace q := q h339
                        refine w_aload_n rX10_faultOf_342 rfl ?_
                        refine w_getR rX10_faultOf_343 rfl rfl (G_is (by decide) rfl) (x := 500) rfl ?_
                        refine w_iload_n rX10_faultOf_346 rfl ?_
                        refine w_iconst rX10_faultOf_347 (x := 1) (by decide) ?_
                        refine w_isub rX10_faultOf_348 ?_
                        have h349 := q.1
                        replace q := q.2
                        refine x_iaload rX10_faultOf_349 (G_at (by decide) rfl rfl h349) ?_
                        refine w_iconst rX10_faultOf_350 (x := 1) (by decide) ?_
                        refine w_icmpne rX10_faultOf_351 (fun h351 => ?_) (fun h351 => ?_)
                        · skip
                          exact j263 _ (((if_neg h263).trans (if_pos h271)).trans (if_neg h289)).symm _ ((((((if_neg h263).trans (if_pos h271)).trans (if_neg h289)).trans (if_pos h335)).trans (if_neg h339)).trans (if_neg h351)).symm _ ((((((if_neg h263).trans (if_pos h271)).trans (if_neg h289)).trans (if_pos h335)).trans (if_neg h339)).trans (if_neg h351)).symm
                        · skip
                          refine w_iinc rX10_faultOf_354 rfl rfl trivial ?_
                          refine w_iconst rX10_faultOf_357 (x := 1) (by decide) ?_
                          refine w_istore rX10_faultOf_358 rfl trivial ?_
                          exact j263 _ (((if_neg h263).trans (if_pos h271)).trans (if_neg h289)).symm _ ((((((if_neg h263).trans (if_pos h271)).trans (if_neg h289)).trans (if_pos h335)).trans (if_neg h339)).trans (if_pos h351)).symm _ ((((((if_neg h263).trans (if_pos h271)).trans (if_neg h289)).trans (if_pos h335)).trans (if_neg h339)).trans (if_pos h351)).symm
                  · replace q := q.1 h289
                    refine w_iload_n rX10_faultOf_292 rfl ?_
                    refine w_ifle rX10_faultOf_293 (fun h293 => ?_) (fun h293 => ?_)
                    · skip
                      refine w_iload rX10_faultOf_326 rfl ?_
                      refine w_ifeq rX10_faultOf_328 (fun h => absurd h h263) (fun _ => ?_)
                      refine w_iload rX10_faultOf_331 rfl ?_
                      refine w_bipush rX10_faultOf_333 (x := 41) (by decide) ?_
                      refine w_icmpne rX10_faultOf_335 (fun h335 => ?_) (fun h335 => ?_)
                      · skip
                        exact j263 _ ((((if_neg h263).trans (if_pos h271)).trans (if_pos h289)).trans (if_pos h293)).symm _ ((((if_neg h263).trans (if_pos h271)).trans (if_pos h289)).trans (if_pos h293)).symm _ ((((if_neg h263).trans (if_pos h271)).trans (if_pos h289)).trans (if_pos h293)).symm
                      · skip
                        refine w_iload_n rX10_faultOf_338 rfl ?_
                        refine w_ifle rX10_faultOf_339 (fun _ => ?_) (fun h => absurd h293 h)
                        exact j263 _ ((((if_neg h263).trans (if_pos h271)).trans (if_pos h289)).trans (if_pos h293)).symm _ ((((if_neg h263).trans (if_pos h271)).trans (if_pos h289)).trans (if_pos h293)).symm _ ((((if_neg h263).trans (if_pos h271)).trans (if_pos h289)).trans (if_pos h293)).symm
                    · replace q := q h293
                      refine w_aload_n rX10_faultOf_296 rfl ?_
                      refine w_getR rX10_faultOf_297 rfl rfl (G_is (by decide) rfl) (x := 500) rfl ?_
                      refine w_iload_n rX10_faultOf_300 rfl ?_
                      refine w_iconst rX10_faultOf_301 (x := 1) (by decide) ?_
                      refine w_isub rX10_faultOf_302 ?_
                      have h303 := q.1
                      replace q := q.2
                      refine x_iaload rX10_faultOf_303 (G_at (by decide) rfl rfl h303) ?_
                      refine w_iconst rX10_faultOf_304 (x := 1) (by decide) ?_
                      refine w_icmple rX10_faultOf_305 (fun h305 => ?_) (fun h305 => ?_)
                      · replace q := q.1 h305
                        refine w_iload rX10_faultOf_326 rfl ?_
                        refine w_ifeq rX10_faultOf_328 (fun h => absurd h h263) (fun _ => ?_)
                        refine w_iload rX10_faultOf_331 rfl ?_
                        refine w_bipush rX10_faultOf_333 (x := 41) (by decide) ?_
                        refine w_icmpne rX10_faultOf_335 (fun h335 => ?_) (fun h335 => ?_)
                        · skip
                          exact j263 _ (((((if_neg h263).trans (if_pos h271)).trans (if_pos h289)).trans (if_neg h293)).trans (if_pos h305)).symm _ ((((((if_neg h263).trans (if_pos h271)).trans (if_pos h289)).trans (if_neg h293)).trans (if_pos h305)).trans (if_neg h335)).symm _ ((((((if_neg h263).trans (if_pos h271)).trans (if_pos h289)).trans (if_neg h293)).trans (if_pos h305)).trans (if_neg h335)).symm
                        · replace q := q h335
                          refine w_iload_n rX10_faultOf_338 rfl ?_
                          refine w_ifle rX10_faultOf_339 (fun h => absurd h h293) (fun _ => ?_)
                          refine w_aload_n rX10_faultOf_342 rfl ?_
                          refine w_getR rX10_faultOf_343 rfl rfl (G_is (by decide) rfl) (x := 500) rfl ?_
                          refine w_iload_n rX10_faultOf_346 rfl ?_
                          refine w_iconst rX10_faultOf_347 (x := 1) (by decide) ?_
                          refine w_isub rX10_faultOf_348 ?_
                          have h349 := q.1
                          replace q := q.2
                          refine x_iaload rX10_faultOf_349 (G_at (by decide) rfl rfl h349) ?_
                          refine w_iconst rX10_faultOf_350 (x := 1) (by decide) ?_
                          refine w_icmpne rX10_faultOf_351 (fun h351 => ?_) (fun h351 => ?_)
                          · skip
                            exact j263 _ (((((if_neg h263).trans (if_pos h271)).trans (if_pos h289)).trans (if_neg h293)).trans (if_pos h305)).symm _ (((((((if_neg h263).trans (if_pos h271)).trans (if_pos h289)).trans (if_neg h293)).trans (if_pos h305)).trans (if_pos h335)).trans (if_neg h351)).symm _ (((((((if_neg h263).trans (if_pos h271)).trans (if_pos h289)).trans (if_neg h293)).trans (if_pos h305)).trans (if_pos h335)).trans (if_neg h351)).symm
                          · skip
                            refine w_iinc rX10_faultOf_354 rfl rfl trivial ?_
                            refine w_iconst rX10_faultOf_357 (x := 1) (by decide) ?_
                            refine w_istore rX10_faultOf_358 rfl trivial ?_
                            exact j263 _ (((((if_neg h263).trans (if_pos h271)).trans (if_pos h289)).trans (if_neg h293)).trans (if_pos h305)).symm _ (((((((if_neg h263).trans (if_pos h271)).trans (if_pos h289)).trans (if_neg h293)).trans (if_pos h305)).trans (if_pos h335)).trans (if_pos h351)).symm _ (((((((if_neg h263).trans (if_pos h271)).trans (if_pos h289)).trans (if_neg h293)).trans (if_pos h305)).trans (if_pos h335)).trans (if_pos h351)).symm
                      · replace q := q.2 h305
                        refine w_aload_n rX10_faultOf_308 rfl ?_
                        refine w_getR rX10_faultOf_309 rfl rfl (G_is (by decide) rfl) (x := 500) rfl ?_
                        refine w_iload_n rX10_faultOf_312 rfl ?_
                        refine w_iconst rX10_faultOf_313 (x := 1) (by decide) ?_
                        refine w_isub rX10_faultOf_314 ?_
                        refine w_dup2 rX10_faultOf_315 trivial trivial ?_
                        have h316 := q.1
                        replace q := q.2
                        refine x_iaload rX10_faultOf_316 (G_at (by decide) rfl rfl h316) ?_
                        refine w_iconst rX10_faultOf_317 (x := 1) (by decide) ?_
                        refine w_isub rX10_faultOf_318 ?_
                        have h319 := q.1
                        replace q := q.2
                        refine x_iastore rX10_faultOf_319 (G_at (by decide) rfl rfl h319) ?_
                        refine w_iconst rX10_faultOf_320 (x := 0) (by decide) ?_
                        refine w_istore rX10_faultOf_321 rfl trivial ?_
                        refine w_goto rX10_faultOf_323 ?_
                        exact j263 _ (((((if_neg h263).trans (if_pos h271)).trans (if_pos h289)).trans (if_neg h293)).trans (if_neg h305)).symm _ (((((if_neg h263).trans (if_pos h271)).trans (if_pos h289)).trans (if_neg h293)).trans (if_neg h305)).symm _ (((((if_neg h263).trans (if_pos h271)).trans (if_pos h289)).trans (if_neg h293)).trans (if_neg h305)).symm
                · skip
                  refine w_iconst rX10_faultOf_274 (x := 0) (by decide) ?_
                  refine w_istore rX10_faultOf_275 rfl trivial ?_
                  refine w_goto rX10_faultOf_277 ?_
                  exact j263 _ ((if_neg h263).trans (if_neg h271)).symm _ ((if_neg h263).trans (if_neg h271)).symm _ ((if_neg h263).trans (if_neg h271)).symm
            · replace q := q.1 h245
              refine w_iload rX10_faultOf_248 rfl ?_
              refine w_bipush rX10_faultOf_250 (x := 46) (by decide) ?_
              refine w_icmpne rX10_faultOf_252 (fun h252 => ?_) (fun h252 => ?_)
              · replace q := q.2 h252
                refine w_iload rX10_faultOf_261 rfl ?_
                have j263 : ∀ I263 : Nat → Nat → Int32, I263 = (if s36_0 = 0 then I else (if (f_X10_isSign (I 499 (Int32.toNatClampNeg x6))) = 0 then (if (I 499 (Int32.toNatClampNeg x6)) = 44 then (if x3 ≤ 0 then I else (if (I 500 (Int32.toNatClampNeg (x3 - 1))) ≤ 1 then I else (am_u I 500 (Int32.toNatClampNeg (x3 - 1)) ((I 500 (Int32.toNatClampNeg (x3 - 1))) - 1)) : Nat → Nat → Int32) : Nat → Nat → Int32) else I : Nat → Nat → Int32) else I : Nat → Nat → Int32) : Nat → Nat → Int32) → ∀ v263_3 : Int32, v263_3 = (if s36_0 = 0 then x3 else (if (f_X10_isSign (I 499 (Int32.toNatClampNeg x6))) = 0 then (if (I 499 (Int32.toNatClampNeg x6)) = 44 then (if x3 ≤ 0 then x3 else (if (I 500 (Int32.toNatClampNeg (x3 - 1))) ≤ 1 then (if (I 499 (Int32.toNatClampNeg x6)) = 41 then (if (I 500 (Int32.toNatClampNeg (x3 - 1))) = 1 then (x3 + (-1)) else x3 : Int32) else x3 : Int32) else x3 : Int32) : Int32) else (if (I 499 (Int32.toNatClampNeg x6)) = 41 then (if x3 ≤ 0 then x3 else (if (I 500 (Int32.toNatClampNeg (x3 - 1))) = 1 then (x3 + (-1)) else x3 : Int32) : Int32) else x3 : Int32) : Int32) else x3 : Int32) : Int32) → ∀ v263_8 : Int32, v263_8 = (if s36_0 = 0 then (-1) else (if (f_X10_isSign (I 499 (Int32.toNatClampNeg x6))) = 0 then (if (I 499 (Int32.toNatClampNeg x6)) = 44 then (if x3 ≤ 0 then (-1) else (if (I 500 (Int32.toNatClampNeg (x3 - 1))) ≤ 1 then (if (I 499 (Int32.toNatClampNeg x6)) = 41 then (if (I 500 (Int32.toNatClampNeg (x3 - 1))) = 1 then 1 else (-1) : Int32) else (-1) : Int32) else 0 : Int32) : Int32) else (if (I 499 (Int32.toNatClampNeg x6)) = 41 then (if x3 ≤ 0 then (-1) else (if (I 500 (Int32.toNatClampNeg (x3 - 1))) = 1 then 1 else (-1) : Int32) : Int32) else (-1) : Int32) : Int32) else 0 : Int32) : Int32) → WP mX10_faultOf 360 [some (.ref 498), some (.int x1), some (.int x2), some (.int v263_3), some (.int x4), some (.int x5), some (.int x6), some (.int (I 499 (Int32.toNatClampNeg x6))), some (.int v263_8), some (.int s36_0), d10] [] (G X I263 L F) 0 0 Q := by
                  intro I263 eI263 v263_3 ev263_3 v263_8 ev263_8
                  replace q := q.2
                  replace q := q I263 eI263 v263_3 ev263_3 v263_8 ev263_8
                  refine w_iload rX10_faultOf_360 rfl ?_
                  refine w_iconst rX10_faultOf_362 (x := -1) (by decide) ?_
                  refine w_icmpne rX10_faultOf_363 (fun h363 => ?_) (fun h363 => ?_)
                  · replace q := q.2 h363
                    refine w_iload rX10_faultOf_369 rfl ?_
                    refine w_istore_n rX10_faultOf_371 rfl trivial ?_
                    refine w_iinc rX10_faultOf_372 rfl rfl trivial ?_
                    refine w_goto rX10_faultOf_375 ?_
                    exact q
                  · replace q := q.1 h363
                    refine w_iload rX10_faultOf_366 rfl ?_
                    refine w_ireturn rX10_faultOf_368 trivial ?_
                    exact q
                replace q := q.1
                refine w_ifeq rX10_faultOf_263 (fun h263 => ?_) (fun h263 => ?_)
                · skip
                  refine w_iload rX10_faultOf_280 rfl ?_
                  refine w_ifeq rX10_faultOf_282 (fun _ => ?_) (fun h => absurd h263 h)
                  refine w_iload rX10_faultOf_326 rfl ?_
                  refine w_ifeq rX10_faultOf_328 (fun _ => ?_) (fun h => absurd h263 h)
                  exact j263 _ (if_pos h263).symm _ (if_pos h263).symm _ (if_pos h263).symm
                · replace q := q h263
                  refine w_iload rX10_faultOf_266 rfl ?_
                  refine w_invokestatic rX10_faultOf_268 rfl rfl rfl (Nat.le_of_ble_eq_true rfl) ⟨trivial, trivial⟩ trivial (by decide) (by decide) ?_
                  refine s_X10_isSign ?_
                  show WP mX10_faultOf 271 _ _ _ 0 0 _
                  refine w_ifeq rX10_faultOf_271 (fun h271 => ?_) (fun h271 => ?_)
                  · replace q := q h271
                    refine w_iload rX10_faultOf_280 rfl ?_
                    refine w_ifeq rX10_faultOf_282 (fun h => absurd h h263) (fun _ => ?_)
                    refine w_iload rX10_faultOf_285 rfl ?_
                    refine w_bipush rX10_faultOf_287 (x := 44) (by decide) ?_
                    refine w_icmpne rX10_faultOf_289 (fun h289 => ?_) (fun h289 => ?_)
                    · replace q := q.2 h289
                      refine w_iload rX10_faultOf_326 rfl ?_
                      refine w_ifeq rX10_faultOf_328 (fun h => absurd h h263) (fun _ => ?_)
                      refine w_iload rX10_faultOf_331 rfl ?_
                      refine w_bipush rX10_faultOf_333 (x := 41) (by decide) ?_
                      refine w_icmpne rX10_faultOf_335 (fun h335 => ?_) (fun h335 => ?_)
                      · skip
                        exact j263 _ (((if_neg h263).trans (if_pos h271)).trans (if_neg h289)).symm _ ((((if_neg h263).trans (if_pos h271)).trans (if_neg h289)).trans (if_neg h335)).symm _ ((((if_neg h263).trans (if_pos h271)).trans (if_neg h289)).trans (if_neg h335)).symm
                      · replace q := q h335
                        refine w_iload_n rX10_faultOf_338 rfl ?_
                        refine w_ifle rX10_faultOf_339 (fun h339 => ?_) (fun h339 => ?_)
                        · skip
                          exact j263 _ (((if_neg h263).trans (if_pos h271)).trans (if_neg h289)).symm _ (((((if_neg h263).trans (if_pos h271)).trans (if_neg h289)).trans (if_pos h335)).trans (if_pos h339)).symm _ (((((if_neg h263).trans (if_pos h271)).trans (if_neg h289)).trans (if_pos h335)).trans (if_pos h339)).symm
                        · replace q := q h339
                          refine w_aload_n rX10_faultOf_342 rfl ?_
                          refine w_getR rX10_faultOf_343 rfl rfl (G_is (by decide) rfl) (x := 500) rfl ?_
                          refine w_iload_n rX10_faultOf_346 rfl ?_
                          refine w_iconst rX10_faultOf_347 (x := 1) (by decide) ?_
                          refine w_isub rX10_faultOf_348 ?_
                          have h349 := q.1
                          replace q := q.2
                          refine x_iaload rX10_faultOf_349 (G_at (by decide) rfl rfl h349) ?_
                          refine w_iconst rX10_faultOf_350 (x := 1) (by decide) ?_
                          refine w_icmpne rX10_faultOf_351 (fun h351 => ?_) (fun h351 => ?_)
                          · skip
                            exact j263 _ (((if_neg h263).trans (if_pos h271)).trans (if_neg h289)).symm _ ((((((if_neg h263).trans (if_pos h271)).trans (if_neg h289)).trans (if_pos h335)).trans (if_neg h339)).trans (if_neg h351)).symm _ ((((((if_neg h263).trans (if_pos h271)).trans (if_neg h289)).trans (if_pos h335)).trans (if_neg h339)).trans (if_neg h351)).symm
                          · skip
                            refine w_iinc rX10_faultOf_354 rfl rfl trivial ?_
                            refine w_iconst rX10_faultOf_357 (x := 1) (by decide) ?_
                            refine w_istore rX10_faultOf_358 rfl trivial ?_
                            exact j263 _ (((if_neg h263).trans (if_pos h271)).trans (if_neg h289)).symm _ ((((((if_neg h263).trans (if_pos h271)).trans (if_neg h289)).trans (if_pos h335)).trans (if_neg h339)).trans (if_pos h351)).symm _ ((((((if_neg h263).trans (if_pos h271)).trans (if_neg h289)).trans (if_pos h335)).trans (if_neg h339)).trans (if_pos h351)).symm
                    · replace q := q.1 h289
                      refine w_iload_n rX10_faultOf_292 rfl ?_
                      refine w_ifle rX10_faultOf_293 (fun h293 => ?_) (fun h293 => ?_)
                      · skip
                        refine w_iload rX10_faultOf_326 rfl ?_
                        refine w_ifeq rX10_faultOf_328 (fun h => absurd h h263) (fun _ => ?_)
                        refine w_iload rX10_faultOf_331 rfl ?_
                        refine w_bipush rX10_faultOf_333 (x := 41) (by decide) ?_
                        refine w_icmpne rX10_faultOf_335 (fun h335 => ?_) (fun h335 => ?_)
                        · skip
                          exact j263 _ ((((if_neg h263).trans (if_pos h271)).trans (if_pos h289)).trans (if_pos h293)).symm _ ((((if_neg h263).trans (if_pos h271)).trans (if_pos h289)).trans (if_pos h293)).symm _ ((((if_neg h263).trans (if_pos h271)).trans (if_pos h289)).trans (if_pos h293)).symm
                        · skip
                          refine w_iload_n rX10_faultOf_338 rfl ?_
                          refine w_ifle rX10_faultOf_339 (fun _ => ?_) (fun h => absurd h293 h)
                          exact j263 _ ((((if_neg h263).trans (if_pos h271)).trans (if_pos h289)).trans (if_pos h293)).symm _ ((((if_neg h263).trans (if_pos h271)).trans (if_pos h289)).trans (if_pos h293)).symm _ ((((if_neg h263).trans (if_pos h271)).trans (if_pos h289)).trans (if_pos h293)).symm
                      · replace q := q h293
                        refine w_aload_n rX10_faultOf_296 rfl ?_
                        refine w_getR rX10_faultOf_297 rfl rfl (G_is (by decide) rfl) (x := 500) rfl ?_
                        refine w_iload_n rX10_faultOf_300 rfl ?_
                        refine w_iconst rX10_faultOf_301 (x := 1) (by decide) ?_
                        refine w_isub rX10_faultOf_302 ?_
                        have h303 := q.1
                        replace q := q.2
                        refine x_iaload rX10_faultOf_303 (G_at (by decide) rfl rfl h303) ?_
                        refine w_iconst rX10_faultOf_304 (x := 1) (by decide) ?_
                        refine w_icmple rX10_faultOf_305 (fun h305 => ?_) (fun h305 => ?_)
                        · replace q := q.1 h305
                          refine w_iload rX10_faultOf_326 rfl ?_
                          refine w_ifeq rX10_faultOf_328 (fun h => absurd h h263) (fun _ => ?_)
                          refine w_iload rX10_faultOf_331 rfl ?_
                          refine w_bipush rX10_faultOf_333 (x := 41) (by decide) ?_
                          refine w_icmpne rX10_faultOf_335 (fun h335 => ?_) (fun h335 => ?_)
                          · skip
                            exact j263 _ (((((if_neg h263).trans (if_pos h271)).trans (if_pos h289)).trans (if_neg h293)).trans (if_pos h305)).symm _ ((((((if_neg h263).trans (if_pos h271)).trans (if_pos h289)).trans (if_neg h293)).trans (if_pos h305)).trans (if_neg h335)).symm _ ((((((if_neg h263).trans (if_pos h271)).trans (if_pos h289)).trans (if_neg h293)).trans (if_pos h305)).trans (if_neg h335)).symm
                          · replace q := q h335
                            refine w_iload_n rX10_faultOf_338 rfl ?_
                            refine w_ifle rX10_faultOf_339 (fun h => absurd h h293) (fun _ => ?_)
                            refine w_aload_n rX10_faultOf_342 rfl ?_
                            refine w_getR rX10_faultOf_343 rfl rfl (G_is (by decide) rfl) (x := 500) rfl ?_
                            refine w_iload_n rX10_faultOf_346 rfl ?_
                            refine w_iconst rX10_faultOf_347 (x := 1) (by decide) ?_
                            refine w_isub rX10_faultOf_348 ?_
                            have h349 := q.1
                            replace q := q.2
                            refine x_iaload rX10_faultOf_349 (G_at (by decide) rfl rfl h349) ?_
                            refine w_iconst rX10_faultOf_350 (x := 1) (by decide) ?_
                            refine w_icmpne rX10_faultOf_351 (fun h351 => ?_) (fun h351 => ?_)
                            · skip
                              exact j263 _ (((((if_neg h263).trans (if_pos h271)).trans (if_pos h289)).trans (if_neg h293)).trans (if_pos h305)).symm _ (((((((if_neg h263).trans (if_pos h271)).trans (if_pos h289)).trans (if_neg h293)).trans (if_pos h305)).trans (if_pos h335)).trans (if_neg h351)).symm _ (((((((if_neg h263).trans (if_pos h271)).trans (if_pos h289)).trans (if_neg h293)).trans (if_pos h305)).trans (if_pos h335)).trans (if_neg h351)).symm
                            · skip
                              refine w_iinc rX10_faultOf_354 rfl rfl trivial ?_
                              refine w_iconst rX10_faultOf_357 (x := 1) (by decide) ?_
                              refine w_istore rX10_faultOf_358 rfl trivial ?_
                              exact j263 _ (((((if_neg h263).trans (if_pos h271)).trans (if_pos h289)).trans (if_neg h293)).trans (if_pos h305)).symm _ (((((((if_neg h263).trans (if_pos h271)).trans (if_pos h289)).trans (if_neg h293)).trans (if_pos h305)).trans (if_pos h335)).trans (if_pos h351)).symm _ (((((((if_neg h263).trans (if_pos h271)).trans (if_pos h289)).trans (if_neg h293)).trans (if_pos h305)).trans (if_pos h335)).trans (if_pos h351)).symm
                        · replace q := q.2 h305
                          refine w_aload_n rX10_faultOf_308 rfl ?_
                          refine w_getR rX10_faultOf_309 rfl rfl (G_is (by decide) rfl) (x := 500) rfl ?_
                          refine w_iload_n rX10_faultOf_312 rfl ?_
                          refine w_iconst rX10_faultOf_313 (x := 1) (by decide) ?_
                          refine w_isub rX10_faultOf_314 ?_
                          refine w_dup2 rX10_faultOf_315 trivial trivial ?_
                          have h316 := q.1
                          replace q := q.2
                          refine x_iaload rX10_faultOf_316 (G_at (by decide) rfl rfl h316) ?_
                          refine w_iconst rX10_faultOf_317 (x := 1) (by decide) ?_
                          refine w_isub rX10_faultOf_318 ?_
                          have h319 := q.1
                          replace q := q.2
                          refine x_iastore rX10_faultOf_319 (G_at (by decide) rfl rfl h319) ?_
                          refine w_iconst rX10_faultOf_320 (x := 0) (by decide) ?_
                          refine w_istore rX10_faultOf_321 rfl trivial ?_
                          refine w_goto rX10_faultOf_323 ?_
                          exact j263 _ (((((if_neg h263).trans (if_pos h271)).trans (if_pos h289)).trans (if_neg h293)).trans (if_neg h305)).symm _ (((((if_neg h263).trans (if_pos h271)).trans (if_pos h289)).trans (if_neg h293)).trans (if_neg h305)).symm _ (((((if_neg h263).trans (if_pos h271)).trans (if_pos h289)).trans (if_neg h293)).trans (if_neg h305)).symm
                  · skip
                    refine w_iconst rX10_faultOf_274 (x := 0) (by decide) ?_
                    refine w_istore rX10_faultOf_275 rfl trivial ?_
                    refine w_goto rX10_faultOf_277 ?_
                    exact j263 _ ((if_neg h263).trans (if_neg h271)).symm _ ((if_neg h263).trans (if_neg h271)).symm _ ((if_neg h263).trans (if_neg h271)).symm
              · replace q := q.1 h252
                refine w_iconst rX10_faultOf_255 (x := 3) (by decide) ?_
                refine w_istore rX10_faultOf_256 rfl trivial ?_
                refine w_goto rX10_faultOf_258 ?_
                refine w_iload rX10_faultOf_360 rfl ?_
                refine w_iconst rX10_faultOf_362 (x := -1) (by decide) ?_
                refine w_icmpne rX10_faultOf_363 (fun _ => ?_) (fun h => absurd h (show ¬ (3 : Int32) = (-1) from by decide))
                refine w_iload rX10_faultOf_369 rfl ?_
                refine w_istore_n rX10_faultOf_371 rfl trivial ?_
                refine w_iinc rX10_faultOf_372 rfl rfl trivial ?_
                refine w_goto rX10_faultOf_375 ?_
                exact q
          · replace q := q.1 h216
            refine w_iload rX10_faultOf_219 rfl ?_
            refine w_bipush rX10_faultOf_221 (x := 40) (by decide) ?_
            refine w_icmpne rX10_faultOf_223 (fun h223 => ?_) (fun h223 => ?_)
            · replace q := q.2 h223
              refine w_iload_n rX10_faultOf_243 rfl ?_
              refine w_iconst rX10_faultOf_244 (x := 2) (by decide) ?_
              refine w_icmpne rX10_faultOf_245 (fun h245 => ?_) (fun h245 => ?_)
              · replace q := q.2 h245
                refine w_iload rX10_faultOf_261 rfl ?_
                have j263 : ∀ I263 : Nat → Nat → Int32, I263 = (if s36_0 = 0 then I else (if (f_X10_isSign (I 499 (Int32.toNatClampNeg x6))) = 0 then (if (I 499 (Int32.toNatClampNeg x6)) = 44 then (if x3 ≤ 0 then I else (if (I 500 (Int32.toNatClampNeg (x3 - 1))) ≤ 1 then I else (am_u I 500 (Int32.toNatClampNeg (x3 - 1)) ((I 500 (Int32.toNatClampNeg (x3 - 1))) - 1)) : Nat → Nat → Int32) : Nat → Nat → Int32) else I : Nat → Nat → Int32) else I : Nat → Nat → Int32) : Nat → Nat → Int32) → ∀ v263_3 : Int32, v263_3 = (if s36_0 = 0 then x3 else (if (f_X10_isSign (I 499 (Int32.toNatClampNeg x6))) = 0 then (if (I 499 (Int32.toNatClampNeg x6)) = 44 then (if x3 ≤ 0 then x3 else (if (I 500 (Int32.toNatClampNeg (x3 - 1))) ≤ 1 then (if (I 499 (Int32.toNatClampNeg x6)) = 41 then (if (I 500 (Int32.toNatClampNeg (x3 - 1))) = 1 then (x3 + (-1)) else x3 : Int32) else x3 : Int32) else x3 : Int32) : Int32) else (if (I 499 (Int32.toNatClampNeg x6)) = 41 then (if x3 ≤ 0 then x3 else (if (I 500 (Int32.toNatClampNeg (x3 - 1))) = 1 then (x3 + (-1)) else x3 : Int32) : Int32) else x3 : Int32) : Int32) else x3 : Int32) : Int32) → ∀ v263_8 : Int32, v263_8 = (if s36_0 = 0 then (-1) else (if (f_X10_isSign (I 499 (Int32.toNatClampNeg x6))) = 0 then (if (I 499 (Int32.toNatClampNeg x6)) = 44 then (if x3 ≤ 0 then (-1) else (if (I 500 (Int32.toNatClampNeg (x3 - 1))) ≤ 1 then (if (I 499 (Int32.toNatClampNeg x6)) = 41 then (if (I 500 (Int32.toNatClampNeg (x3 - 1))) = 1 then 1 else (-1) : Int32) else (-1) : Int32) else 0 : Int32) : Int32) else (if (I 499 (Int32.toNatClampNeg x6)) = 41 then (if x3 ≤ 0 then (-1) else (if (I 500 (Int32.toNatClampNeg (x3 - 1))) = 1 then 1 else (-1) : Int32) : Int32) else (-1) : Int32) : Int32) else 0 : Int32) : Int32) → WP mX10_faultOf 360 [some (.ref 498), some (.int x1), some (.int x2), some (.int v263_3), some (.int x4), some (.int x5), some (.int x6), some (.int (I 499 (Int32.toNatClampNeg x6))), some (.int v263_8), some (.int s36_0), d10] [] (G X I263 L F) 0 0 Q := by
                  intro I263 eI263 v263_3 ev263_3 v263_8 ev263_8
                  replace q := q.2
                  replace q := q I263 eI263 v263_3 ev263_3 v263_8 ev263_8
                  refine w_iload rX10_faultOf_360 rfl ?_
                  refine w_iconst rX10_faultOf_362 (x := -1) (by decide) ?_
                  refine w_icmpne rX10_faultOf_363 (fun h363 => ?_) (fun h363 => ?_)
                  · replace q := q.2 h363
                    refine w_iload rX10_faultOf_369 rfl ?_
                    refine w_istore_n rX10_faultOf_371 rfl trivial ?_
                    refine w_iinc rX10_faultOf_372 rfl rfl trivial ?_
                    refine w_goto rX10_faultOf_375 ?_
                    exact q
                  · replace q := q.1 h363
                    refine w_iload rX10_faultOf_366 rfl ?_
                    refine w_ireturn rX10_faultOf_368 trivial ?_
                    exact q
                replace q := q.1
                refine w_ifeq rX10_faultOf_263 (fun h263 => ?_) (fun h263 => ?_)
                · skip
                  refine w_iload rX10_faultOf_280 rfl ?_
                  refine w_ifeq rX10_faultOf_282 (fun _ => ?_) (fun h => absurd h263 h)
                  refine w_iload rX10_faultOf_326 rfl ?_
                  refine w_ifeq rX10_faultOf_328 (fun _ => ?_) (fun h => absurd h263 h)
                  exact j263 _ (if_pos h263).symm _ (if_pos h263).symm _ (if_pos h263).symm
                · replace q := q h263
                  refine w_iload rX10_faultOf_266 rfl ?_
                  refine w_invokestatic rX10_faultOf_268 rfl rfl rfl (Nat.le_of_ble_eq_true rfl) ⟨trivial, trivial⟩ trivial (by decide) (by decide) ?_
                  refine s_X10_isSign ?_
                  show WP mX10_faultOf 271 _ _ _ 0 0 _
                  refine w_ifeq rX10_faultOf_271 (fun h271 => ?_) (fun h271 => ?_)
                  · replace q := q h271
                    refine w_iload rX10_faultOf_280 rfl ?_
                    refine w_ifeq rX10_faultOf_282 (fun h => absurd h h263) (fun _ => ?_)
                    refine w_iload rX10_faultOf_285 rfl ?_
                    refine w_bipush rX10_faultOf_287 (x := 44) (by decide) ?_
                    refine w_icmpne rX10_faultOf_289 (fun h289 => ?_) (fun h289 => ?_)
                    · replace q := q.2 h289
                      refine w_iload rX10_faultOf_326 rfl ?_
                      refine w_ifeq rX10_faultOf_328 (fun h => absurd h h263) (fun _ => ?_)
                      refine w_iload rX10_faultOf_331 rfl ?_
                      refine w_bipush rX10_faultOf_333 (x := 41) (by decide) ?_
                      refine w_icmpne rX10_faultOf_335 (fun h335 => ?_) (fun h335 => ?_)
                      · skip
                        exact j263 _ (((if_neg h263).trans (if_pos h271)).trans (if_neg h289)).symm _ ((((if_neg h263).trans (if_pos h271)).trans (if_neg h289)).trans (if_neg h335)).symm _ ((((if_neg h263).trans (if_pos h271)).trans (if_neg h289)).trans (if_neg h335)).symm
                      · replace q := q h335
                        refine w_iload_n rX10_faultOf_338 rfl ?_
                        refine w_ifle rX10_faultOf_339 (fun h339 => ?_) (fun h339 => ?_)
                        · skip
                          exact j263 _ (((if_neg h263).trans (if_pos h271)).trans (if_neg h289)).symm _ (((((if_neg h263).trans (if_pos h271)).trans (if_neg h289)).trans (if_pos h335)).trans (if_pos h339)).symm _ (((((if_neg h263).trans (if_pos h271)).trans (if_neg h289)).trans (if_pos h335)).trans (if_pos h339)).symm
                        · replace q := q h339
                          refine w_aload_n rX10_faultOf_342 rfl ?_
                          refine w_getR rX10_faultOf_343 rfl rfl (G_is (by decide) rfl) (x := 500) rfl ?_
                          refine w_iload_n rX10_faultOf_346 rfl ?_
                          refine w_iconst rX10_faultOf_347 (x := 1) (by decide) ?_
                          refine w_isub rX10_faultOf_348 ?_
                          have h349 := q.1
                          replace q := q.2
                          refine x_iaload rX10_faultOf_349 (G_at (by decide) rfl rfl h349) ?_
                          refine w_iconst rX10_faultOf_350 (x := 1) (by decide) ?_
                          refine w_icmpne rX10_faultOf_351 (fun h351 => ?_) (fun h351 => ?_)
                          · skip
                            exact j263 _ (((if_neg h263).trans (if_pos h271)).trans (if_neg h289)).symm _ ((((((if_neg h263).trans (if_pos h271)).trans (if_neg h289)).trans (if_pos h335)).trans (if_neg h339)).trans (if_neg h351)).symm _ ((((((if_neg h263).trans (if_pos h271)).trans (if_neg h289)).trans (if_pos h335)).trans (if_neg h339)).trans (if_neg h351)).symm
                          · skip
                            refine w_iinc rX10_faultOf_354 rfl rfl trivial ?_
                            refine w_iconst rX10_faultOf_357 (x := 1) (by decide) ?_
                            refine w_istore rX10_faultOf_358 rfl trivial ?_
                            exact j263 _ (((if_neg h263).trans (if_pos h271)).trans (if_neg h289)).symm _ ((((((if_neg h263).trans (if_pos h271)).trans (if_neg h289)).trans (if_pos h335)).trans (if_neg h339)).trans (if_pos h351)).symm _ ((((((if_neg h263).trans (if_pos h271)).trans (if_neg h289)).trans (if_pos h335)).trans (if_neg h339)).trans (if_pos h351)).symm
                    · replace q := q.1 h289
                      refine w_iload_n rX10_faultOf_292 rfl ?_
                      refine w_ifle rX10_faultOf_293 (fun h293 => ?_) (fun h293 => ?_)
                      · skip
                        refine w_iload rX10_faultOf_326 rfl ?_
                        refine w_ifeq rX10_faultOf_328 (fun h => absurd h h263) (fun _ => ?_)
                        refine w_iload rX10_faultOf_331 rfl ?_
                        refine w_bipush rX10_faultOf_333 (x := 41) (by decide) ?_
                        refine w_icmpne rX10_faultOf_335 (fun h335 => ?_) (fun h335 => ?_)
                        · skip
                          exact j263 _ ((((if_neg h263).trans (if_pos h271)).trans (if_pos h289)).trans (if_pos h293)).symm _ ((((if_neg h263).trans (if_pos h271)).trans (if_pos h289)).trans (if_pos h293)).symm _ ((((if_neg h263).trans (if_pos h271)).trans (if_pos h289)).trans (if_pos h293)).symm
                        · skip
                          refine w_iload_n rX10_faultOf_338 rfl ?_
                          refine w_ifle rX10_faultOf_339 (fun _ => ?_) (fun h => absurd h293 h)
                          exact j263 _ ((((if_neg h263).trans (if_pos h271)).trans (if_pos h289)).trans (if_pos h293)).symm _ ((((if_neg h263).trans (if_pos h271)).trans (if_pos h289)).trans (if_pos h293)).symm _ ((((if_neg h263).trans (if_pos h271)).trans (if_pos h289)).trans (if_pos h293)).symm
                      · replace q := q h293
                        refine w_aload_n rX10_faultOf_296 rfl ?_
                        refine w_getR rX10_faultOf_297 rfl rfl (G_is (by decide) rfl) (x := 500) rfl ?_
                        refine w_iload_n rX10_faultOf_300 rfl ?_
                        refine w_iconst rX10_faultOf_301 (x := 1) (by decide) ?_
                        refine w_isub rX10_faultOf_302 ?_
                        have h303 := q.1
                        replace q := q.2
                        refine x_iaload rX10_faultOf_303 (G_at (by decide) rfl rfl h303) ?_
                        refine w_iconst rX10_faultOf_304 (x := 1) (by decide) ?_
                        refine w_icmple rX10_faultOf_305 (fun h305 => ?_) (fun h305 => ?_)
                        · replace q := q.1 h305
                          refine w_iload rX10_faultOf_326 rfl ?_
                          refine w_ifeq rX10_faultOf_328 (fun h => absurd h h263) (fun _ => ?_)
                          refine w_iload rX10_faultOf_331 rfl ?_
                          refine w_bipush rX10_faultOf_333 (x := 41) (by decide) ?_
                          refine w_icmpne rX10_faultOf_335 (fun h335 => ?_) (fun h335 => ?_)
                          · skip
                            exact j263 _ (((((if_neg h263).trans (if_pos h271)).trans (if_pos h289)).trans (if_neg h293)).trans (if_pos h305)).symm _ ((((((if_neg h263).trans (if_pos h271)).trans (if_pos h289)).trans (if_neg h293)).trans (if_pos h305)).trans (if_neg h335)).symm _ ((((((if_neg h263).trans (if_pos h271)).trans (if_pos h289)).trans (if_neg h293)).trans (if_pos h305)).trans (if_neg h335)).symm
                          · replace q := q h335
                            refine w_iload_n rX10_faultOf_338 rfl ?_
                            refine w_ifle rX10_faultOf_339 (fun h => absurd h h293) (fun _ => ?_)
                            refine w_aload_n rX10_faultOf_342 rfl ?_
                            refine w_getR rX10_faultOf_343 rfl rfl (G_is (by decide) rfl) (x := 500) rfl ?_
                            refine w_iload_n rX10_faultOf_346 rfl ?_
                            refine w_iconst rX10_faultOf_347 (x := 1) (by decide) ?_
                            refine w_isub rX10_faultOf_348 ?_
                            have h349 := q.1
                            replace q := q.2
                            refine x_iaload rX10_faultOf_349 (G_at (by decide) rfl rfl h349) ?_
                            refine w_iconst rX10_faultOf_350 (x := 1) (by decide) ?_
                            refine w_icmpne rX10_faultOf_351 (fun h351 => ?_) (fun h351 => ?_)
                            · skip
                              exact j263 _ (((((if_neg h263).trans (if_pos h271)).trans (if_pos h289)).trans (if_neg h293)).trans (if_pos h305)).symm _ (((((((if_neg h263).trans (if_pos h271)).trans (if_pos h289)).trans (if_neg h293)).trans (if_pos h305)).trans (if_pos h335)).trans (if_neg h351)).symm _ (((((((if_neg h263).trans (if_pos h271)).trans (if_pos h289)).trans (if_neg h293)).trans (if_pos h305)).trans (if_pos h335)).trans (if_neg h351)).symm
                            · skip
                              refine w_iinc rX10_faultOf_354 rfl rfl trivial ?_
                              refine w_iconst rX10_faultOf_357 (x := 1) (by decide) ?_
                              refine w_istore rX10_faultOf_358 rfl trivial ?_
                              exact j263 _ (((((if_neg h263).trans (if_pos h271)).trans (if_pos h289)).trans (if_neg h293)).trans (if_pos h305)).symm _ (((((((if_neg h263).trans (if_pos h271)).trans (if_pos h289)).trans (if_neg h293)).trans (if_pos h305)).trans (if_pos h335)).trans (if_pos h351)).symm _ (((((((if_neg h263).trans (if_pos h271)).trans (if_pos h289)).trans (if_neg h293)).trans (if_pos h305)).trans (if_pos h335)).trans (if_pos h351)).symm
                        · replace q := q.2 h305
                          refine w_aload_n rX10_faultOf_308 rfl ?_
                          refine w_getR rX10_faultOf_309 rfl rfl (G_is (by decide) rfl) (x := 500) rfl ?_
                          refine w_iload_n rX10_faultOf_312 rfl ?_
                          refine w_iconst rX10_faultOf_313 (x := 1) (by decide) ?_
                          refine w_isub rX10_faultOf_314 ?_
                          refine w_dup2 rX10_faultOf_315 trivial trivial ?_
                          have h316 := q.1
                          replace q := q.2
                          refine x_iaload rX10_faultOf_316 (G_at (by decide) rfl rfl h316) ?_
                          refine w_iconst rX10_faultOf_317 (x := 1) (by decide) ?_
                          refine w_isub rX10_faultOf_318 ?_
                          have h319 := q.1
                          replace q := q.2
                          refine x_iastore rX10_faultOf_319 (G_at (by decide) rfl rfl h319) ?_
                          refine w_iconst rX10_faultOf_320 (x := 0) (by decide) ?_
                          refine w_istore rX10_faultOf_321 rfl trivial ?_
                          refine w_goto rX10_faultOf_323 ?_
                          exact j263 _ (((((if_neg h263).trans (if_pos h271)).trans (if_pos h289)).trans (if_neg h293)).trans (if_neg h305)).symm _ (((((if_neg h263).trans (if_pos h271)).trans (if_pos h289)).trans (if_neg h293)).trans (if_neg h305)).symm _ (((((if_neg h263).trans (if_pos h271)).trans (if_pos h289)).trans (if_neg h293)).trans (if_neg h305)).symm
                  · skip
                    refine w_iconst rX10_faultOf_274 (x := 0) (by decide) ?_
                    refine w_istore rX10_faultOf_275 rfl trivial ?_
                    refine w_goto rX10_faultOf_277 ?_
                    exact j263 _ ((if_neg h263).trans (if_neg h271)).symm _ ((if_neg h263).trans (if_neg h271)).symm _ ((if_neg h263).trans (if_neg h271)).symm
              · replace q := q.1 h245
                refine w_iload rX10_faultOf_248 rfl ?_
                refine w_bipush rX10_faultOf_250 (x := 46) (by decide) ?_
                refine w_icmpne rX10_faultOf_252 (fun h252 => ?_) (fun h252 => ?_)
                · replace q := q.2 h252
                  refine w_iload rX10_faultOf_261 rfl ?_
                  have j263 : ∀ I263 : Nat → Nat → Int32, I263 = (if s36_0 = 0 then I else (if (f_X10_isSign (I 499 (Int32.toNatClampNeg x6))) = 0 then (if (I 499 (Int32.toNatClampNeg x6)) = 44 then (if x3 ≤ 0 then I else (if (I 500 (Int32.toNatClampNeg (x3 - 1))) ≤ 1 then I else (am_u I 500 (Int32.toNatClampNeg (x3 - 1)) ((I 500 (Int32.toNatClampNeg (x3 - 1))) - 1)) : Nat → Nat → Int32) : Nat → Nat → Int32) else I : Nat → Nat → Int32) else I : Nat → Nat → Int32) : Nat → Nat → Int32) → ∀ v263_3 : Int32, v263_3 = (if s36_0 = 0 then x3 else (if (f_X10_isSign (I 499 (Int32.toNatClampNeg x6))) = 0 then (if (I 499 (Int32.toNatClampNeg x6)) = 44 then (if x3 ≤ 0 then x3 else (if (I 500 (Int32.toNatClampNeg (x3 - 1))) ≤ 1 then (if (I 499 (Int32.toNatClampNeg x6)) = 41 then (if (I 500 (Int32.toNatClampNeg (x3 - 1))) = 1 then (x3 + (-1)) else x3 : Int32) else x3 : Int32) else x3 : Int32) : Int32) else (if (I 499 (Int32.toNatClampNeg x6)) = 41 then (if x3 ≤ 0 then x3 else (if (I 500 (Int32.toNatClampNeg (x3 - 1))) = 1 then (x3 + (-1)) else x3 : Int32) : Int32) else x3 : Int32) : Int32) else x3 : Int32) : Int32) → ∀ v263_8 : Int32, v263_8 = (if s36_0 = 0 then (-1) else (if (f_X10_isSign (I 499 (Int32.toNatClampNeg x6))) = 0 then (if (I 499 (Int32.toNatClampNeg x6)) = 44 then (if x3 ≤ 0 then (-1) else (if (I 500 (Int32.toNatClampNeg (x3 - 1))) ≤ 1 then (if (I 499 (Int32.toNatClampNeg x6)) = 41 then (if (I 500 (Int32.toNatClampNeg (x3 - 1))) = 1 then 1 else (-1) : Int32) else (-1) : Int32) else 0 : Int32) : Int32) else (if (I 499 (Int32.toNatClampNeg x6)) = 41 then (if x3 ≤ 0 then (-1) else (if (I 500 (Int32.toNatClampNeg (x3 - 1))) = 1 then 1 else (-1) : Int32) : Int32) else (-1) : Int32) : Int32) else 0 : Int32) : Int32) → WP mX10_faultOf 360 [some (.ref 498), some (.int x1), some (.int x2), some (.int v263_3), some (.int x4), some (.int x5), some (.int x6), some (.int (I 499 (Int32.toNatClampNeg x6))), some (.int v263_8), some (.int s36_0), d10] [] (G X I263 L F) 0 0 Q := by
                    intro I263 eI263 v263_3 ev263_3 v263_8 ev263_8
                    replace q := q.2
                    replace q := q I263 eI263 v263_3 ev263_3 v263_8 ev263_8
                    refine w_iload rX10_faultOf_360 rfl ?_
                    refine w_iconst rX10_faultOf_362 (x := -1) (by decide) ?_
                    refine w_icmpne rX10_faultOf_363 (fun h363 => ?_) (fun h363 => ?_)
                    · replace q := q.2 h363
                      refine w_iload rX10_faultOf_369 rfl ?_
                      refine w_istore_n rX10_faultOf_371 rfl trivial ?_
                      refine w_iinc rX10_faultOf_372 rfl rfl trivial ?_
                      refine w_goto rX10_faultOf_375 ?_
                      exact q
                    · replace q := q.1 h363
                      refine w_iload rX10_faultOf_366 rfl ?_
                      refine w_ireturn rX10_faultOf_368 trivial ?_
                      exact q
                  replace q := q.1
                  refine w_ifeq rX10_faultOf_263 (fun h263 => ?_) (fun h263 => ?_)
                  · skip
                    refine w_iload rX10_faultOf_280 rfl ?_
                    refine w_ifeq rX10_faultOf_282 (fun _ => ?_) (fun h => absurd h263 h)
                    refine w_iload rX10_faultOf_326 rfl ?_
                    refine w_ifeq rX10_faultOf_328 (fun _ => ?_) (fun h => absurd h263 h)
                    exact j263 _ (if_pos h263).symm _ (if_pos h263).symm _ (if_pos h263).symm
                  · replace q := q h263
                    refine w_iload rX10_faultOf_266 rfl ?_
                    refine w_invokestatic rX10_faultOf_268 rfl rfl rfl (Nat.le_of_ble_eq_true rfl) ⟨trivial, trivial⟩ trivial (by decide) (by decide) ?_
                    refine s_X10_isSign ?_
                    show WP mX10_faultOf 271 _ _ _ 0 0 _
                    refine w_ifeq rX10_faultOf_271 (fun h271 => ?_) (fun h271 => ?_)
                    · replace q := q h271
                      refine w_iload rX10_faultOf_280 rfl ?_
                      refine w_ifeq rX10_faultOf_282 (fun h => absurd h h263) (fun _ => ?_)
                      refine w_iload rX10_faultOf_285 rfl ?_
                      refine w_bipush rX10_faultOf_287 (x := 44) (by decide) ?_
                      refine w_icmpne rX10_faultOf_289 (fun h289 => ?_) (fun h289 => ?_)
                      · replace q := q.2 h289
                        refine w_iload rX10_faultOf_326 rfl ?_
                        refine w_ifeq rX10_faultOf_328 (fun h => absurd h h263) (fun _ => ?_)
                        refine w_iload rX10_faultOf_331 rfl ?_
                        refine w_bipush rX10_faultOf_333 (x := 41) (by decide) ?_
                        refine w_icmpne rX10_faultOf_335 (fun h335 => ?_) (fun h335 => ?_)
                        · skip
                          exact j263 _ (((if_neg h263).trans (if_pos h271)).trans (if_neg h289)).symm _ ((((if_neg h263).trans (if_pos h271)).trans (if_neg h289)).trans (if_neg h335)).symm _ ((((if_neg h263).trans (if_pos h271)).trans (if_neg h289)).trans (if_neg h335)).symm
                        · replace q := q h335
                          refine w_iload_n rX10_faultOf_338 rfl ?_
                          refine w_ifle rX10_faultOf_339 (fun h339 => ?_) (fun h339 => ?_)
                          · skip
                            exact j263 _ (((if_neg h263).trans (if_pos h271)).trans (if_neg h289)).symm _ (((((if_neg h263).trans (if_pos h271)).trans (if_neg h289)).trans (if_pos h335)).trans (if_pos h339)).symm _ (((((if_neg h263).trans (if_pos h271)).trans (if_neg h289)).trans (if_pos h335)).trans (if_pos h339)).symm
                          · replace q := q h339
                            refine w_aload_n rX10_faultOf_342 rfl ?_
                            refine w_getR rX10_faultOf_343 rfl rfl (G_is (by decide) rfl) (x := 500) rfl ?_
                            refine w_iload_n rX10_faultOf_346 rfl ?_
                            refine w_iconst rX10_faultOf_347 (x := 1) (by decide) ?_
                            refine w_isub rX10_faultOf_348 ?_
                            have h349 := q.1
                            replace q := q.2
                            refine x_iaload rX10_faultOf_349 (G_at (by decide) rfl rfl h349) ?_
                            refine w_iconst rX10_faultOf_350 (x := 1) (by decide) ?_
                            refine w_icmpne rX10_faultOf_351 (fun h351 => ?_) (fun h351 => ?_)
                            · skip
                              exact j263 _ (((if_neg h263).trans (if_pos h271)).trans (if_neg h289)).symm _ ((((((if_neg h263).trans (if_pos h271)).trans (if_neg h289)).trans (if_pos h335)).trans (if_neg h339)).trans (if_neg h351)).symm _ ((((((if_neg h263).trans (if_pos h271)).trans (if_neg h289)).trans (if_pos h335)).trans (if_neg h339)).trans (if_neg h351)).symm
                            · skip
                              refine w_iinc rX10_faultOf_354 rfl rfl trivial ?_
                              refine w_iconst rX10_faultOf_357 (x := 1) (by decide) ?_
                              refine w_istore rX10_faultOf_358 rfl trivial ?_
                              exact j263 _ (((if_neg h263).trans (if_pos h271)).trans (if_neg h289)).symm _ ((((((if_neg h263).trans (if_pos h271)).trans (if_neg h289)).trans (if_pos h335)).trans (if_neg h339)).trans (if_pos h351)).symm _ ((((((if_neg h263).trans (if_pos h271)).trans (if_neg h289)).trans (if_pos h335)).trans (if_neg h339)).trans (if_pos h351)).symm
                      · replace q := q.1 h289
                        refine w_iload_n rX10_faultOf_292 rfl ?_
                        refine w_ifle rX10_faultOf_293 (fun h293 => ?_) (fun h293 => ?_)
                        · skip
                          refine w_iload rX10_faultOf_326 rfl ?_
                          refine w_ifeq rX10_faultOf_328 (fun h => absurd h h263) (fun _ => ?_)
                          refine w_iload rX10_faultOf_331 rfl ?_
                          refine w_bipush rX10_faultOf_333 (x := 41) (by decide) ?_
                          refine w_icmpne rX10_faultOf_335 (fun h335 => ?_) (fun h335 => ?_)
                          · skip
                            exact j263 _ ((((if_neg h263).trans (if_pos h271)).trans (if_pos h289)).trans (if_pos h293)).symm _ ((((if_neg h263).trans (if_pos h271)).trans (if_pos h289)).trans (if_pos h293)).symm _ ((((if_neg h263).trans (if_pos h271)).trans (if_pos h289)).trans (if_pos h293)).symm
                          · skip
                            refine w_iload_n rX10_faultOf_338 rfl ?_
                            refine w_ifle rX10_faultOf_339 (fun _ => ?_) (fun h => absurd h293 h)
                            exact j263 _ ((((if_neg h263).trans (if_pos h271)).trans (if_pos h289)).trans (if_pos h293)).symm _ ((((if_neg h263).trans (if_pos h271)).trans (if_pos h289)).trans (if_pos h293)).symm _ ((((if_neg h263).trans (if_pos h271)).trans (if_pos h289)).trans (if_pos h293)).symm
                        · replace q := q h293
                          refine w_aload_n rX10_faultOf_296 rfl ?_
                          refine w_getR rX10_faultOf_297 rfl rfl (G_is (by decide) rfl) (x := 500) rfl ?_
                          refine w_iload_n rX10_faultOf_300 rfl ?_
                          refine w_iconst rX10_faultOf_301 (x := 1) (by decide) ?_
                          refine w_isub rX10_faultOf_302 ?_
                          have h303 := q.1
                          replace q := q.2
                          refine x_iaload rX10_faultOf_303 (G_at (by decide) rfl rfl h303) ?_
                          refine w_iconst rX10_faultOf_304 (x := 1) (by decide) ?_
                          refine w_icmple rX10_faultOf_305 (fun h305 => ?_) (fun h305 => ?_)
                          · replace q := q.1 h305
                            refine w_iload rX10_faultOf_326 rfl ?_
                            refine w_ifeq rX10_faultOf_328 (fun h => absurd h h263) (fun _ => ?_)
                            refine w_iload rX10_faultOf_331 rfl ?_
                            refine w_bipush rX10_faultOf_333 (x := 41) (by decide) ?_
                            refine w_icmpne rX10_faultOf_335 (fun h335 => ?_) (fun h335 => ?_)
                            · skip
                              exact j263 _ (((((if_neg h263).trans (if_pos h271)).trans (if_pos h289)).trans (if_neg h293)).trans (if_pos h305)).symm _ ((((((if_neg h263).trans (if_pos h271)).trans (if_pos h289)).trans (if_neg h293)).trans (if_pos h305)).trans (if_neg h335)).symm _ ((((((if_neg h263).trans (if_pos h271)).trans (if_pos h289)).trans (if_neg h293)).trans (if_pos h305)).trans (if_neg h335)).symm
                            · replace q := q h335
                              refine w_iload_n rX10_faultOf_338 rfl ?_
                              refine w_ifle rX10_faultOf_339 (fun h => absurd h h293) (fun _ => ?_)
                              refine w_aload_n rX10_faultOf_342 rfl ?_
                              refine w_getR rX10_faultOf_343 rfl rfl (G_is (by decide) rfl) (x := 500) rfl ?_
                              refine w_iload_n rX10_faultOf_346 rfl ?_
                              refine w_iconst rX10_faultOf_347 (x := 1) (by decide) ?_
                              refine w_isub rX10_faultOf_348 ?_
                              have h349 := q.1
                              replace q := q.2
                              refine x_iaload rX10_faultOf_349 (G_at (by decide) rfl rfl h349) ?_
                              refine w_iconst rX10_faultOf_350 (x := 1) (by decide) ?_
                              refine w_icmpne rX10_faultOf_351 (fun h351 => ?_) (fun h351 => ?_)
                              · skip
                                exact j263 _ (((((if_neg h263).trans (if_pos h271)).trans (if_pos h289)).trans (if_neg h293)).trans (if_pos h305)).symm _ (((((((if_neg h263).trans (if_pos h271)).trans (if_pos h289)).trans (if_neg h293)).trans (if_pos h305)).trans (if_pos h335)).trans (if_neg h351)).symm _ (((((((if_neg h263).trans (if_pos h271)).trans (if_pos h289)).trans (if_neg h293)).trans (if_pos h305)).trans (if_pos h335)).trans (if_neg h351)).symm
                              · skip
                                refine w_iinc rX10_faultOf_354 rfl rfl trivial ?_
                                refine w_iconst rX10_faultOf_357 (x := 1) (by decide) ?_
                                refine w_istore rX10_faultOf_358 rfl trivial ?_
                                exact j263 _ (((((if_neg h263).trans (if_pos h271)).trans (if_pos h289)).trans (if_neg h293)).trans (if_pos h305)).symm _ (((((((if_neg h263).trans (if_pos h271)).trans (if_pos h289)).trans (if_neg h293)).trans (if_pos h305)).trans (if_pos h335)).trans (if_pos h351)).symm _ (((((((if_neg h263).trans (if_pos h271)).trans (if_pos h289)).trans (if_neg h293)).trans (if_pos h305)).trans (if_pos h335)).trans (if_pos h351)).symm
                          · replace q := q.2 h305
                            refine w_aload_n rX10_faultOf_308 rfl ?_
                            refine w_getR rX10_faultOf_309 rfl rfl (G_is (by decide) rfl) (x := 500) rfl ?_
                            refine w_iload_n rX10_faultOf_312 rfl ?_
                            refine w_iconst rX10_faultOf_313 (x := 1) (by decide) ?_
                            refine w_isub rX10_faultOf_314 ?_
                            refine w_dup2 rX10_faultOf_315 trivial trivial ?_
                            have h316 := q.1
                            replace q := q.2
                            refine x_iaload rX10_faultOf_316 (G_at (by decide) rfl rfl h316) ?_
                            refine w_iconst rX10_faultOf_317 (x := 1) (by decide) ?_
                            refine w_isub rX10_faultOf_318 ?_
                            have h319 := q.1
                            replace q := q.2
                            refine x_iastore rX10_faultOf_319 (G_at (by decide) rfl rfl h319) ?_
                            refine w_iconst rX10_faultOf_320 (x := 0) (by decide) ?_
                            refine w_istore rX10_faultOf_321 rfl trivial ?_
                            refine w_goto rX10_faultOf_323 ?_
                            exact j263 _ (((((if_neg h263).trans (if_pos h271)).trans (if_pos h289)).trans (if_neg h293)).trans (if_neg h305)).symm _ (((((if_neg h263).trans (if_pos h271)).trans (if_pos h289)).trans (if_neg h293)).trans (if_neg h305)).symm _ (((((if_neg h263).trans (if_pos h271)).trans (if_pos h289)).trans (if_neg h293)).trans (if_neg h305)).symm
                    · skip
                      refine w_iconst rX10_faultOf_274 (x := 0) (by decide) ?_
                      refine w_istore rX10_faultOf_275 rfl trivial ?_
                      refine w_goto rX10_faultOf_277 ?_
                      exact j263 _ ((if_neg h263).trans (if_neg h271)).symm _ ((if_neg h263).trans (if_neg h271)).symm _ ((if_neg h263).trans (if_neg h271)).symm
                · replace q := q.1 h252
                  refine w_iconst rX10_faultOf_255 (x := 3) (by decide) ?_
                  refine w_istore rX10_faultOf_256 rfl trivial ?_
                  refine w_goto rX10_faultOf_258 ?_
                  refine w_iload rX10_faultOf_360 rfl ?_
                  refine w_iconst rX10_faultOf_362 (x := -1) (by decide) ?_
                  refine w_icmpne rX10_faultOf_363 (fun _ => ?_) (fun h => absurd h (show ¬ (3 : Int32) = (-1) from by decide))
                  refine w_iload rX10_faultOf_369 rfl ?_
                  refine w_istore_n rX10_faultOf_371 rfl trivial ?_
                  refine w_iinc rX10_faultOf_372 rfl rfl trivial ?_
                  refine w_goto rX10_faultOf_375 ?_
                  exact q
            · replace q := q.1 h223
              refine w_aload_n rX10_faultOf_226 rfl ?_
              refine w_getR rX10_faultOf_227 rfl rfl (G_is (by decide) rfl) (x := 500) rfl ?_
              refine w_iload_n rX10_faultOf_230 rfl ?_
              refine w_iload rX10_faultOf_231 rfl ?_
              have h233 := q.1
              replace q := q.2
              refine x_iastore rX10_faultOf_233 (G_at (by decide) rfl rfl h233) ?_
              refine w_iinc rX10_faultOf_234 rfl rfl trivial ?_
              refine w_iconst rX10_faultOf_237 (x := 0) (by decide) ?_
              refine w_istore rX10_faultOf_238 rfl trivial ?_
              refine w_goto rX10_faultOf_240 ?_
              refine w_iload rX10_faultOf_360 rfl ?_
              refine w_iconst rX10_faultOf_362 (x := -1) (by decide) ?_
              refine w_icmpne rX10_faultOf_363 (fun _ => ?_) (fun h => absurd h (show ¬ (0 : Int32) = (-1) from by decide))
              refine w_iload rX10_faultOf_369 rfl ?_
              refine w_istore_n rX10_faultOf_371 rfl trivial ?_
              refine w_iinc rX10_faultOf_372 rfl rfl trivial ?_
              refine w_goto rX10_faultOf_375 ?_
              exact q
        · replace q := q.2 h124
          refine w_iload_n rX10_faultOf_127 rfl ?_
          refine w_iconst rX10_faultOf_128 (x := 2) (by decide) ?_
          have j129 : ∀ s129_0 : Int32, s129_0 = (if x2 = 2 then (if 3 ≤ x4 then 0 else 1 : Int32) else 0 : Int32) → WP mX10_faultOf 143 [some (.ref 498), some (.int x1), some (.int x2), some (.int x3), some (.int x4), some (.int x5), some (.int x6), some (.int (I 499 (Int32.toNatClampNeg x6))), some (.int (-1)), some (.int s36_0), d10] [.int s129_0] (G X I L F) 0 0 Q := by
            intro s129_0 es129_0
            replace q := q s129_0 es129_0
            refine w_istore rX10_faultOf_143 rfl trivial ?_
            refine w_iload rX10_faultOf_145 rfl ?_
            refine w_iload rX10_faultOf_147 rfl ?_
            have j149 : ∀ s149_1 : Int32, s149_1 = (if s129_0 = 0 then 0 else 1 : Int32) → WP mX10_faultOf 157 [some (.ref 498), some (.int x1), some (.int x2), some (.int x3), some (.int x4), some (.int x5), some (.int x6), some (.int (I 499 (Int32.toNatClampNeg x6))), some (.int (-1)), some (.int s36_0), some (.int s129_0)] [.int s149_1, .int x4] (G X I L F) 0 0 Q := by
              intro s149_1 es149_1
              replace q := q s149_1 es149_1
              refine w_iadd rX10_faultOf_157 ?_
              refine w_istore rX10_faultOf_158 rfl trivial ?_
              refine w_iload rX10_faultOf_160 rfl ?_
              have j162 : ∀ s162_0 : Int32, s162_0 = (if s129_0 = 0 then (if x2 = 3 then 4 else (if x2 = 4 then 5 else (if x2 = 6 then (if x5 ≤ ((I 499 (Int32.toNatClampNeg x6)) - 48) then (-1) else 1 : Int32) else (-1) : Int32) : Int32) : Int32) else 2 : Int32) → WP mX10_faultOf 208 [some (.ref 498), some (.int x1), some (.int x2), some (.int x3), some (.int (x4 + s149_1)), some (.int x5), some (.int x6), some (.int (I 499 (Int32.toNatClampNeg x6))), some (.int (-1)), some (.int s36_0), some (.int s129_0)] [.int s162_0] (G X I L F) 0 0 Q := by
                intro s162_0 es162_0
                replace q := q s162_0 es162_0
                refine w_istore rX10_faultOf_208 rfl trivial ?_
                refine w_goto rX10_faultOf_210 ?_
                refine w_iload rX10_faultOf_360 rfl ?_
                refine w_iconst rX10_faultOf_362 (x := -1) (by decide) ?_
                refine w_icmpne rX10_faultOf_363 (fun h363 => ?_) (fun h363 => ?_)
                · replace q := q.2 h363
                  refine w_iload rX10_faultOf_369 rfl ?_
                  refine w_istore_n rX10_faultOf_371 rfl trivial ?_
                  refine w_iinc rX10_faultOf_372 rfl rfl trivial ?_
                  refine w_goto rX10_faultOf_375 ?_
                  exact q
                · replace q := q.1 h363
                  refine w_iload rX10_faultOf_366 rfl ?_
                  refine w_ireturn rX10_faultOf_368 trivial ?_
                  exact q
              refine w_ifeq rX10_faultOf_162 (fun h162 => ?_) (fun h162 => ?_)
              · skip
                refine w_iload_n rX10_faultOf_169 rfl ?_
                refine w_iconst rX10_faultOf_170 (x := 3) (by decide) ?_
                refine w_icmpne rX10_faultOf_171 (fun h171 => ?_) (fun h171 => ?_)
                · skip
                  refine w_iload_n rX10_faultOf_178 rfl ?_
                  refine w_iconst rX10_faultOf_179 (x := 4) (by decide) ?_
                  refine w_icmpne rX10_faultOf_180 (fun h180 => ?_) (fun h180 => ?_)
                  · skip
                    refine w_iload_n rX10_faultOf_187 rfl ?_
                    refine w_bipush rX10_faultOf_188 (x := 6) (by decide) ?_
                    refine w_icmpne rX10_faultOf_190 (fun h190 => ?_) (fun h190 => ?_)
                    · skip
                      refine w_iconst rX10_faultOf_207 (x := -1) (by decide) ?_
                      exact j162 _ ((((if_pos h162).trans (if_neg h171)).trans (if_neg h180)).trans (if_neg h190)).symm
                    · skip
                      refine w_iload rX10_faultOf_193 rfl ?_
                      refine w_bipush rX10_faultOf_195 (x := 48) (by decide) ?_
                      refine w_isub rX10_faultOf_197 ?_
                      refine w_iload rX10_faultOf_198 rfl ?_
                      refine w_icmpge rX10_faultOf_200 (fun h200 => ?_) (fun h200 => ?_)
                      · skip
                        refine w_iconst rX10_faultOf_207 (x := -1) (by decide) ?_
                        exact j162 _ (((((if_pos h162).trans (if_neg h171)).trans (if_neg h180)).trans (if_pos h190)).trans (if_pos h200)).symm
                      · skip
                        refine w_iconst rX10_faultOf_203 (x := 1) (by decide) ?_
                        refine w_goto rX10_faultOf_204 ?_
                        exact j162 _ (((((if_pos h162).trans (if_neg h171)).trans (if_neg h180)).trans (if_pos h190)).trans (if_neg h200)).symm
                  · skip
                    refine w_iconst rX10_faultOf_183 (x := 5) (by decide) ?_
                    refine w_goto rX10_faultOf_184 ?_
                    exact j162 _ (((if_pos h162).trans (if_neg h171)).trans (if_pos h180)).symm
                · skip
                  refine w_iconst rX10_faultOf_174 (x := 4) (by decide) ?_
                  refine w_goto rX10_faultOf_175 ?_
                  exact j162 _ ((if_pos h162).trans (if_pos h171)).symm
              · skip
                refine w_iconst rX10_faultOf_165 (x := 2) (by decide) ?_
                refine w_goto rX10_faultOf_166 ?_
                exact j162 _ (if_neg h162).symm
            refine w_ifeq rX10_faultOf_149 (fun h149 => ?_) (fun h149 => ?_)
            · skip
              refine w_iconst rX10_faultOf_156 (x := 0) (by decide) ?_
              exact j149 _ (if_pos h149).symm
            · skip
              refine w_iconst rX10_faultOf_152 (x := 1) (by decide) ?_
              refine w_goto rX10_faultOf_153 ?_
              exact j149 _ (if_neg h149).symm
          refine w_icmpne rX10_faultOf_129 (fun h129 => ?_) (fun h129 => ?_)
          · skip
            refine w_iconst rX10_faultOf_142 (x := 0) (by decide) ?_
            exact j129 _ (if_neg h129).symm
          · skip
            refine w_iload rX10_faultOf_132 rfl ?_
            refine w_iconst rX10_faultOf_134 (x := 3) (by decide) ?_
            refine w_icmpge rX10_faultOf_135 (fun h135 => ?_) (fun h135 => ?_)
            · skip
              refine w_iconst rX10_faultOf_142 (x := 0) (by decide) ?_
              exact j129 _ ((if_pos h129).trans (if_pos h135)).symm
            · skip
              refine w_iconst rX10_faultOf_138 (x := 1) (by decide) ?_
              refine w_goto rX10_faultOf_139 ?_
              exact j129 _ ((if_pos h129).trans (if_neg h135)).symm
      · replace q := q.1 h62
        refine w_iload rX10_faultOf_65 rfl ?_
        refine w_iload_n rX10_faultOf_67 rfl ?_
        refine w_invokestatic rX10_faultOf_68 rfl rfl rfl (Nat.le_of_ble_eq_true rfl) ⟨trivial, trivial, trivial⟩ trivial (by decide) (by decide) ?_
        refine s_X10_begun ?_
        show WP mX10_faultOf 71 _ _ _ 0 0 _
        refine w_istore rX10_faultOf_71 rfl trivial ?_
        refine w_iconst rX10_faultOf_73 (x := 1) (by decide) ?_
        refine w_istore rX10_faultOf_74 rfl trivial ?_
        refine w_iload rX10_faultOf_76 rfl ?_
        refine w_bipush rX10_faultOf_78 (x := 7) (by decide) ?_
        have j80 : ∀ s80_0 : Int32, s80_0 = (if (f_X10_begun (I 499 (Int32.toNatClampNeg x6)) x1) = 7 then (f_X10_inputs (I 499 (Int32.toNatClampNeg x6))) else (f_X10_figures (I 499 (Int32.toNatClampNeg x6)) x1) : Int32) → WP mX10_faultOf 97 [some (.ref 498), some (.int x1), some (.int x2), some (.int x3), some (.int 1), some (.int x5), some (.int x6), some (.int (I 499 (Int32.toNatClampNeg x6))), some (.int (f_X10_begun (I 499 (Int32.toNatClampNeg x6)) x1)), some (.int s36_0), d10] [.int s80_0] (G X I L F) 0 0 Q := by
          intro s80_0 es80_0
          replace q := q s80_0 es80_0
          refine w_istore rX10_faultOf_97 rfl trivial ?_
          refine w_iload rX10_faultOf_99 rfl ?_
          refine w_bipush rX10_faultOf_101 (x := 40) (by decide) ?_
          have j103 : ∀ I103 : Nat → Nat → Int32, I103 = (if (I 499 (Int32.toNatClampNeg x6)) = 40 then (am_u I 500 (Int32.toNatClampNeg x3) 1) else I : Nat → Nat → Int32) → ∀ v103_3 : Int32, v103_3 = (if (I 499 (Int32.toNatClampNeg x6)) = 40 then (x3 + 1) else x3 : Int32) → WP mX10_faultOf 360 [some (.ref 498), some (.int x1), some (.int x2), some (.int v103_3), some (.int 1), some (.int s80_0), some (.int x6), some (.int (I 499 (Int32.toNatClampNeg x6))), some (.int (f_X10_begun (I 499 (Int32.toNatClampNeg x6)) x1)), some (.int s36_0), d10] [] (G X I103 L F) 0 0 Q := by
            intro I103 eI103 v103_3 ev103_3
            replace q := q.2
            replace q := q I103 eI103 v103_3 ev103_3
            refine w_iload rX10_faultOf_360 rfl ?_
            refine w_iconst rX10_faultOf_362 (x := -1) (by decide) ?_
            refine w_icmpne rX10_faultOf_363 (fun h363 => ?_) (fun h363 => ?_)
            · replace q := q.2 h363
              refine w_iload rX10_faultOf_369 rfl ?_
              refine w_istore_n rX10_faultOf_371 rfl trivial ?_
              refine w_iinc rX10_faultOf_372 rfl rfl trivial ?_
              refine w_goto rX10_faultOf_375 ?_
              exact q
            · replace q := q.1 h363
              refine w_iload rX10_faultOf_366 rfl ?_
              refine w_ireturn rX10_faultOf_368 trivial ?_
              exact q
          replace q := q.1
          refine w_icmpne rX10_faultOf_103 (fun h103 => ?_) (fun h103 => ?_)
          · skip
            exact j103 _ (if_neg h103).symm _ (if_neg h103).symm
          · replace q := q h103
            refine w_aload_n rX10_faultOf_106 rfl ?_
            refine w_getR rX10_faultOf_107 rfl rfl (G_is (by decide) rfl) (x := 500) rfl ?_
            refine w_iload_n rX10_faultOf_110 rfl ?_
            refine w_iconst rX10_faultOf_111 (x := 1) (by decide) ?_
            have h112 := q.1
            replace q := q.2
            refine x_iastore rX10_faultOf_112 (G_at (by decide) rfl rfl h112) ?_
            refine w_iinc rX10_faultOf_113 rfl rfl trivial ?_
            refine w_goto rX10_faultOf_116 ?_
            exact j103 _ (if_pos h103).symm _ (if_pos h103).symm
        refine w_icmpne rX10_faultOf_80 (fun h80 => ?_) (fun h80 => ?_)
        · skip
          refine w_iload rX10_faultOf_91 rfl ?_
          refine w_iload_n rX10_faultOf_93 rfl ?_
          refine w_invokestatic rX10_faultOf_94 rfl rfl rfl (Nat.le_of_ble_eq_true rfl) ⟨trivial, trivial, trivial⟩ trivial (by decide) (by decide) ?_
          refine s_X10_figures ?_
          show WP mX10_faultOf 97 _ _ _ 0 0 _
          exact j80 _ (if_neg h80).symm
        · skip
          refine w_iload rX10_faultOf_83 rfl ?_
          refine w_invokestatic rX10_faultOf_85 rfl rfl rfl (Nat.le_of_ble_eq_true rfl) ⟨trivial, trivial⟩ trivial (by decide) (by decide) ?_
          refine s_X10_inputs ?_
          show WP mX10_faultOf 88 _ _ _ 0 0 _
          refine w_goto rX10_faultOf_88 ?_
          exact j80 _ (if_pos h80).symm
    refine w_icmpeq rX10_faultOf_36 (fun h36 => ?_) (fun h36 => ?_)
    · skip
      refine w_iconst rX10_faultOf_54 (x := 1) (by decide) ?_
      refine w_goto rX10_faultOf_55 ?_
      exact j36 _ (if_pos h36).symm
    · skip
      refine w_iload_n rX10_faultOf_39 rfl ?_
      refine w_iconst rX10_faultOf_40 (x := 2) (by decide) ?_
      refine w_icmpeq rX10_faultOf_41 (fun h41 => ?_) (fun h41 => ?_)
      · skip
        refine w_iconst rX10_faultOf_54 (x := 1) (by decide) ?_
        refine w_goto rX10_faultOf_55 ?_
        exact j36 _ ((if_neg h36).trans (if_pos h41)).symm
      · skip
        refine w_iload_n rX10_faultOf_44 rfl ?_
        refine w_iconst rX10_faultOf_45 (x := 4) (by decide) ?_
        refine w_icmpeq rX10_faultOf_46 (fun h46 => ?_) (fun h46 => ?_)
        · skip
          refine w_iconst rX10_faultOf_54 (x := 1) (by decide) ?_
          refine w_goto rX10_faultOf_55 ?_
          exact j36 _ (((if_neg h36).trans (if_neg h41)).trans (if_pos h46)).symm
        · skip
          refine w_iload_n rX10_faultOf_49 rfl ?_
          refine w_iconst rX10_faultOf_50 (x := 5) (by decide) ?_
          refine w_icmpne rX10_faultOf_51 (fun h51 => ?_) (fun h51 => ?_)
          · skip
            refine w_iconst rX10_faultOf_58 (x := 0) (by decide) ?_
            exact j36 _ ((((if_neg h36).trans (if_neg h41)).trans (if_neg h46)).trans (if_neg h51)).symm
          · skip
            refine w_iconst rX10_faultOf_54 (x := 1) (by decide) ?_
            refine w_goto rX10_faultOf_55 ?_
            exact j36 _ ((((if_neg h36).trans (if_neg h41)).trans (if_neg h46)).trans (if_pos h51)).symm
theorem k_X10_fault_0 {X : Nat × (Nat → Int32)} {I : Nat → Nat → Int32} {L : Nat → Nat → Int64} {F : Nat → Nat → UInt32} {Q : AQ} {isRule : Int32} (q : WP mX10_faultOf 0 (am_ent 11 [.ref 498, .int isRule]) [] (G X (am_u I 498 0 0) L F) 0 0 (am_kq mX10_fault 7 [some (.ref 498), some (.int isRule)] [] (0 + am_bc mX10_faultOf) (0 + am_bs mX10_faultOf) Q)) : WP mX10_fault 0 (am_ent 2 [.ref 498, .int isRule]) [] (G X I L F) 0 0 Q := by
  refine w_aload_n rX10_fault_0 rfl ?_
  refine w_iconst rX10_fault_1 (x := 0) (by decide) ?_
  refine x_putI rX10_fault_2 rfl (G_is (by decide) rfl) trivial ?_
  refine w_aload_n rX10_fault_5 rfl ?_
  refine w_iload_n rX10_fault_6 rfl ?_
  refine w_invokevirtual rX10_fault_7 rfl rfl rfl (Nat.le_of_ble_eq_true rfl) ⟨trivial, trivial, trivial⟩ (G_is (by decide) rfl) (by decide) (by decide) ?_
  exact q
theorem k_X10_fault_10 {X : Nat × (Nat → Int32)} {I : Nat → Nat → Int32} {L : Nat → Nat → Int64} {F : Nat → Nat → UInt32} {Q : AQ} {x1 : Int32} {e0 : Int32} (q : Q (.inl (some (.int e0))) (G X I L F)) : WP mX10_fault 10 [some (.ref 498), some (.int x1)] [.int e0] (G X I L F) 0 0 Q := by
  refine w_ireturn rX10_fault_10 trivial ?_
  exact q
theorem k_X10_closes_0 {X : Nat × (Nat → Int32)} {I : Nat → Nat → Int32} {L : Nat → Nat → Int64} {F : Nat → Nat → UInt32} {Q : AQ}  (q : ((I 498 50) ≤ 0 → Q (.inl none) (G X I L F)) ∧ (¬ (I 498 50) ≤ 0 → vp_in ((I 498 50) - 1) 48 ∧ (((I 539 (Int32.toNatClampNeg ((I 498 50) - 1))) = 126 → (p_X10_applies I F) ∧ (WP mX10_closes 0 [some (.ref 498)] [] (G X (fI_X10_applies I F) L (fF_X10_applies I F)) 0 0 Q)) ∧ (¬ (I 539 (Int32.toNatClampNeg ((I 498 50) - 1))) = 126 → Q (.inl none) (G X I L F))))) : WP mX10_closes 0 [some (.ref 498)] [] (G X I L F) 0 0 Q := by
  refine w_aload_n rX10_closes_0 rfl ?_
  refine x_getI rX10_closes_1 rfl rfl (G_is (by decide) rfl) ?_
  refine w_ifle rX10_closes_4 (fun h4 => ?_) (fun h4 => ?_)
  · replace q := q.1 h4
    refine w_return rX10_closes_30 ?_
    exact q
  · replace q := q.2 h4
    refine w_aload_n rX10_closes_7 rfl ?_
    refine w_getR rX10_closes_8 rfl rfl (G_is (by decide) rfl) (x := 539) rfl ?_
    refine w_aload_n rX10_closes_11 rfl ?_
    refine x_getI rX10_closes_12 rfl rfl (G_is (by decide) rfl) ?_
    refine w_iconst rX10_closes_15 (x := 1) (by decide) ?_
    refine w_isub rX10_closes_16 ?_
    have h17 := q.1
    replace q := q.2
    refine x_iaload rX10_closes_17 (G_at (by decide) rfl rfl h17) ?_
    refine w_bipush rX10_closes_18 (x := 126) (by decide) ?_
    refine w_icmpne rX10_closes_20 (fun h20 => ?_) (fun h20 => ?_)
    · replace q := q.2 h20
      refine w_return rX10_closes_30 ?_
      exact q
    · replace q := q.1 h20
      refine w_aload_n rX10_closes_23 rfl ?_
      refine w_invokevirtual rX10_closes_24 rfl rfl rfl (Nat.le_of_ble_eq_true rfl) ⟨trivial, trivial⟩ (G_is (by decide) rfl) (by decide) (by decide) ?_
      refine s_X10_applies q.1 ?_
      replace q := q.2
      show WP mX10_closes 27 _ _ _ 0 0 _
      refine w_goto rX10_closes_27 ?_
      exact q
theorem k_X10_putsNumber_0 {X : Nat × (Nat → Int32)} {I : Nat → Nat → Int32} {L : Nat → Nat → Int64} {F : Nat → Nat → UInt32} {Q : AQ} {start : Int32} (q : WP mX10_putsNumber 7 [some (.ref 498), some (.int start), some (.int 0), some (.int 0), some (.int start), none] [] (G X I L F) 0 0 Q) : WP mX10_putsNumber 0 (am_ent 6 [.ref 498, .int start]) [] (G X I L F) 0 0 Q := by
  refine w_iconst rX10_putsNumber_0 (x := 0) (by decide) ?_
  refine w_istore_n rX10_putsNumber_1 rfl trivial ?_
  refine w_iconst rX10_putsNumber_2 (x := 0) (by decide) ?_
  refine w_istore_n rX10_putsNumber_3 rfl trivial ?_
  refine w_iload_n rX10_putsNumber_4 rfl ?_
  refine w_istore rX10_putsNumber_5 rfl trivial ?_
  exact q
theorem k_X10_putsNumber_7 {X : Nat × (Nat → Int32)} {I : Nat → Nat → Int32} {L : Nat → Nat → Int64} {F : Nat → Nat → UInt32} {Q : AQ} {x1 : Int32} {x2 : Int32} {x3 : Int32} {x4 : Int32} {d5 : Option Value} (q : ((I 498 46) ≤ x4 → ∀ s115_1 : Int32, s115_1 = (if x3 = 3 then 1 else (if x3 = 2 then 10 else 100 : Int32) : Int32) → (vf_n32 (FP.fdiv (FP.i2f (x2 * s115_1)) 1120403456) ∧ ((p_X10_puts (FP.fdiv (FP.i2f (x2 * s115_1)) 1120403456) I) ∧ (Q (.inl (some (.int (x4 - 1)))) (G X (fI_X10_puts (FP.fdiv (FP.i2f (x2 * s115_1)) 1120403456) I) L (fF_X10_puts (FP.fdiv (FP.i2f (x2 * s115_1)) 1120403456) I F)))))) ∧ (¬ (I 498 46) ≤ x4 → vp_in x4 40 ∧ (((f_X10_isFigure (I 537 (Int32.toNatClampNeg x4))) = 0 → vp_in x4 40 ∧ (((I 537 (Int32.toNatClampNeg x4)) = 46 → vp_in x4 40 ∧ (WP mX10_putsNumber 7 [some (.ref 498), some (.int x1), some (.int x2), some (.int 1), some (.int (x4 + 1)), some (.int 1)] [] (G X I L F) 0 0 Q)) ∧ (¬ (I 537 (Int32.toNatClampNeg x4)) = 46 → ∀ s115_1 : Int32, s115_1 = (if x3 = 3 then 1 else (if x3 = 2 then 10 else 100 : Int32) : Int32) → (vf_n32 (FP.fdiv (FP.i2f (x2 * s115_1)) 1120403456) ∧ ((p_X10_puts (FP.fdiv (FP.i2f (x2 * s115_1)) 1120403456) I) ∧ (Q (.inl (some (.int (x4 - 1)))) (G X (fI_X10_puts (FP.fdiv (FP.i2f (x2 * s115_1)) 1120403456) I) L (fF_X10_puts (FP.fdiv (FP.i2f (x2 * s115_1)) 1120403456) I F)))))))) ∧ (¬ (f_X10_isFigure (I 537 (Int32.toNatClampNeg x4))) = 0 → vp_in x4 40 ∧ (∀ s50_0 : Int32, s50_0 = (if (I 537 (Int32.toNatClampNeg x4)) = 46 then 1 else 0 : Int32) → (((s50_0 = 0 → vp_in x4 40 ∧ (True))) ∧ (∀ s62_0 : Int32, s62_0 = (if s50_0 = 0 then (((10 * x2) + (I 537 (Int32.toNatClampNeg x4))) - 48) else x2 : Int32) → (∀ s87_0 : Int32, s87_0 = (if s50_0 = 0 then (if x3 ≤ 0 then 0 else (x3 + 1) : Int32) else 1 : Int32) → (WP mX10_putsNumber 7 [some (.ref 498), some (.int x1), some (.int s62_0), some (.int s87_0), some (.int (x4 + 1)), some (.int s50_0)] [] (G X I L F) 0 0 Q))))))))) : WP mX10_putsNumber 7 [some (.ref 498), some (.int x1), some (.int x2), some (.int x3), some (.int x4), d5] [] (G X I L F) 0 0 Q := by
  refine w_iload rX10_putsNumber_7 rfl ?_
  refine w_aload_n rX10_putsNumber_9 rfl ?_
  refine x_getI rX10_putsNumber_10 rfl rfl (G_is (by decide) rfl) ?_
  refine w_icmpge rX10_putsNumber_13 (fun h13 => ?_) (fun h13 => ?_)
  · replace q := q.1 h13
    refine w_iload_n rX10_putsNumber_112 rfl ?_
    refine w_iload_n rX10_putsNumber_113 rfl ?_
    refine w_iconst rX10_putsNumber_114 (x := 3) (by decide) ?_
    have j115 : ∀ s115_1 : Int32, s115_1 = (if x3 = 3 then 1 else (if x3 = 2 then 10 else 100 : Int32) : Int32) → WP mX10_putsNumber 134 [some (.ref 498), some (.int x1), some (.int x2), some (.int x3), some (.int x4), d5] [.int s115_1, .int x2] (G X I L F) 0 0 Q := by
      intro s115_1 es115_1
      replace q := q s115_1 es115_1
      refine w_imul rX10_putsNumber_134 ?_
      refine w_istore_n rX10_putsNumber_135 rfl trivial ?_
      refine w_aload_n rX10_putsNumber_136 rfl ?_
      refine w_iload_n rX10_putsNumber_137 rfl ?_
      refine w_i2f rX10_putsNumber_138 ?_
      refine w_ldcF rX10_putsNumber_139 (x := 1120403456) (by decide) ?_
      refine w_fdiv rX10_putsNumber_141 q.1 ?_
      replace q := q.2
      refine w_invokevirtual rX10_putsNumber_142 rfl rfl rfl (Nat.le_of_ble_eq_true rfl) ⟨trivial, trivial, trivial⟩ (G_is (by decide) rfl) (by decide) (by decide) ?_
      refine s_X10_puts q.1 ?_
      replace q := q.2
      show WP mX10_putsNumber 145 _ _ _ 0 0 _
      refine w_iload rX10_putsNumber_145 rfl ?_
      refine w_iconst rX10_putsNumber_147 (x := 1) (by decide) ?_
      refine w_isub rX10_putsNumber_148 ?_
      refine w_ireturn rX10_putsNumber_149 trivial ?_
      exact q
    refine w_icmpne rX10_putsNumber_115 (fun h115 => ?_) (fun h115 => ?_)
    · skip
      refine w_iload_n rX10_putsNumber_122 rfl ?_
      refine w_iconst rX10_putsNumber_123 (x := 2) (by decide) ?_
      refine w_icmpne rX10_putsNumber_124 (fun h124 => ?_) (fun h124 => ?_)
      · skip
        refine w_bipush rX10_putsNumber_132 (x := 100) (by decide) ?_
        exact j115 _ ((if_neg h115).trans (if_neg h124)).symm
      · skip
        refine w_bipush rX10_putsNumber_127 (x := 10) (by decide) ?_
        refine w_goto rX10_putsNumber_129 ?_
        exact j115 _ ((if_neg h115).trans (if_pos h124)).symm
    · skip
      refine w_iconst rX10_putsNumber_118 (x := 1) (by decide) ?_
      refine w_goto rX10_putsNumber_119 ?_
      exact j115 _ (if_pos h115).symm
  · replace q := q.2 h13
    refine w_aload_n rX10_putsNumber_16 rfl ?_
    refine w_getR rX10_putsNumber_17 rfl rfl (G_is (by decide) rfl) (x := 537) rfl ?_
    refine w_iload rX10_putsNumber_20 rfl ?_
    have h22 := q.1
    replace q := q.2
    refine x_iaload rX10_putsNumber_22 (G_at (by decide) rfl rfl h22) ?_
    refine w_invokestatic rX10_putsNumber_23 rfl rfl rfl (Nat.le_of_ble_eq_true rfl) ⟨trivial, trivial⟩ trivial (by decide) (by decide) ?_
    refine s_X10_isFigure ?_
    show WP mX10_putsNumber 26 _ _ _ 0 0 _
    refine w_ifne rX10_putsNumber_26 (fun h26 => ?_) (fun h26 => ?_)
    · replace q := q.2 h26
      refine w_aload_n rX10_putsNumber_41 rfl ?_
      refine w_getR rX10_putsNumber_42 rfl rfl (G_is (by decide) rfl) (x := 537) rfl ?_
      refine w_iload rX10_putsNumber_45 rfl ?_
      have h47 := q.1
      replace q := q.2
      refine x_iaload rX10_putsNumber_47 (G_at (by decide) rfl rfl h47) ?_
      refine w_bipush rX10_putsNumber_48 (x := 46) (by decide) ?_
      have j50 : ∀ s50_0 : Int32, s50_0 = (if (I 537 (Int32.toNatClampNeg x4)) = 46 then 1 else 0 : Int32) → WP mX10_putsNumber 58 [some (.ref 498), some (.int x1), some (.int x2), some (.int x3), some (.int x4), d5] [.int s50_0] (G X I L F) 0 0 Q := by
        intro s50_0 es50_0
        replace q := q s50_0 es50_0
        refine w_istore rX10_putsNumber_58 rfl trivial ?_
        refine w_iload rX10_putsNumber_60 rfl ?_
        have j62 : ∀ s62_0 : Int32, s62_0 = (if s50_0 = 0 then (((10 * x2) + (I 537 (Int32.toNatClampNeg x4))) - 48) else x2 : Int32) → WP mX10_putsNumber 84 [some (.ref 498), some (.int x1), some (.int x2), some (.int x3), some (.int x4), some (.int s50_0)] [.int s62_0] (G X I L F) 0 0 Q := by
          intro s62_0 es62_0
          replace q := q.2
          replace q := q s62_0 es62_0
          refine w_istore_n rX10_putsNumber_84 rfl trivial ?_
          refine w_iload rX10_putsNumber_85 rfl ?_
          have j87 : ∀ s87_0 : Int32, s87_0 = (if s50_0 = 0 then (if x3 ≤ 0 then 0 else (x3 + 1) : Int32) else 1 : Int32) → WP mX10_putsNumber 105 [some (.ref 498), some (.int x1), some (.int s62_0), some (.int x3), some (.int x4), some (.int s50_0)] [.int s87_0] (G X I L F) 0 0 Q := by
            intro s87_0 es87_0
            replace q := q s87_0 es87_0
            refine w_istore_n rX10_putsNumber_105 rfl trivial ?_
            refine w_iinc rX10_putsNumber_106 rfl rfl trivial ?_
            refine w_goto rX10_putsNumber_109 ?_
            exact q
          refine w_ifeq rX10_putsNumber_87 (fun h87 => ?_) (fun h87 => ?_)
          · skip
            refine w_iload_n rX10_putsNumber_94 rfl ?_
            refine w_ifle rX10_putsNumber_95 (fun h95 => ?_) (fun h95 => ?_)
            · skip
              refine w_iconst rX10_putsNumber_104 (x := 0) (by decide) ?_
              exact j87 _ ((if_pos h87).trans (if_pos h95)).symm
            · skip
              refine w_iload_n rX10_putsNumber_98 rfl ?_
              refine w_iconst rX10_putsNumber_99 (x := 1) (by decide) ?_
              refine w_iadd rX10_putsNumber_100 ?_
              refine w_goto rX10_putsNumber_101 ?_
              exact j87 _ ((if_pos h87).trans (if_neg h95)).symm
          · skip
            refine w_iconst rX10_putsNumber_90 (x := 1) (by decide) ?_
            refine w_goto rX10_putsNumber_91 ?_
            exact j87 _ (if_neg h87).symm
        replace q := q.1
        refine w_ifeq rX10_putsNumber_62 (fun h62 => ?_) (fun h62 => ?_)
        · replace q := q h62
          refine w_bipush rX10_putsNumber_69 (x := 10) (by decide) ?_
          refine w_iload_n rX10_putsNumber_71 rfl ?_
          refine w_imul rX10_putsNumber_72 ?_
          refine w_aload_n rX10_putsNumber_73 rfl ?_
          refine w_getR rX10_putsNumber_74 rfl rfl (G_is (by decide) rfl) (x := 537) rfl ?_
          refine w_iload rX10_putsNumber_77 rfl ?_
          have h79 := q.1
          replace q := q.2
          refine x_iaload rX10_putsNumber_79 (G_at (by decide) rfl rfl h79) ?_
          refine w_iadd rX10_putsNumber_80 ?_
          refine w_bipush rX10_putsNumber_81 (x := 48) (by decide) ?_
          refine w_isub rX10_putsNumber_83 ?_
          exact j62 _ (if_pos h62).symm
        · skip
          refine w_iload_n rX10_putsNumber_65 rfl ?_
          refine w_goto rX10_putsNumber_66 ?_
          exact j62 _ (if_neg h62).symm
      refine w_icmpne rX10_putsNumber_50 (fun h50 => ?_) (fun h50 => ?_)
      · skip
        refine w_iconst rX10_putsNumber_57 (x := 0) (by decide) ?_
        exact j50 _ (if_neg h50).symm
      · skip
        refine w_iconst rX10_putsNumber_53 (x := 1) (by decide) ?_
        refine w_goto rX10_putsNumber_54 ?_
        exact j50 _ (if_pos h50).symm
    · replace q := q.1 h26
      refine w_aload_n rX10_putsNumber_29 rfl ?_
      refine w_getR rX10_putsNumber_30 rfl rfl (G_is (by decide) rfl) (x := 537) rfl ?_
      refine w_iload rX10_putsNumber_33 rfl ?_
      have h35 := q.1
      replace q := q.2
      refine x_iaload rX10_putsNumber_35 (G_at (by decide) rfl rfl h35) ?_
      refine w_bipush rX10_putsNumber_36 (x := 46) (by decide) ?_
      refine w_icmpne rX10_putsNumber_38 (fun h38 => ?_) (fun h38 => ?_)
      · replace q := q.2 h38
        refine w_iload_n rX10_putsNumber_112 rfl ?_
        refine w_iload_n rX10_putsNumber_113 rfl ?_
        refine w_iconst rX10_putsNumber_114 (x := 3) (by decide) ?_
        have j115 : ∀ s115_1 : Int32, s115_1 = (if x3 = 3 then 1 else (if x3 = 2 then 10 else 100 : Int32) : Int32) → WP mX10_putsNumber 134 [some (.ref 498), some (.int x1), some (.int x2), some (.int x3), some (.int x4), d5] [.int s115_1, .int x2] (G X I L F) 0 0 Q := by
          intro s115_1 es115_1
          replace q := q s115_1 es115_1
          refine w_imul rX10_putsNumber_134 ?_
          refine w_istore_n rX10_putsNumber_135 rfl trivial ?_
          refine w_aload_n rX10_putsNumber_136 rfl ?_
          refine w_iload_n rX10_putsNumber_137 rfl ?_
          refine w_i2f rX10_putsNumber_138 ?_
          refine w_ldcF rX10_putsNumber_139 (x := 1120403456) (by decide) ?_
          refine w_fdiv rX10_putsNumber_141 q.1 ?_
          replace q := q.2
          refine w_invokevirtual rX10_putsNumber_142 rfl rfl rfl (Nat.le_of_ble_eq_true rfl) ⟨trivial, trivial, trivial⟩ (G_is (by decide) rfl) (by decide) (by decide) ?_
          refine s_X10_puts q.1 ?_
          replace q := q.2
          show WP mX10_putsNumber 145 _ _ _ 0 0 _
          refine w_iload rX10_putsNumber_145 rfl ?_
          refine w_iconst rX10_putsNumber_147 (x := 1) (by decide) ?_
          refine w_isub rX10_putsNumber_148 ?_
          refine w_ireturn rX10_putsNumber_149 trivial ?_
          exact q
        refine w_icmpne rX10_putsNumber_115 (fun h115 => ?_) (fun h115 => ?_)
        · skip
          refine w_iload_n rX10_putsNumber_122 rfl ?_
          refine w_iconst rX10_putsNumber_123 (x := 2) (by decide) ?_
          refine w_icmpne rX10_putsNumber_124 (fun h124 => ?_) (fun h124 => ?_)
          · skip
            refine w_bipush rX10_putsNumber_132 (x := 100) (by decide) ?_
            exact j115 _ ((if_neg h115).trans (if_neg h124)).symm
          · skip
            refine w_bipush rX10_putsNumber_127 (x := 10) (by decide) ?_
            refine w_goto rX10_putsNumber_129 ?_
            exact j115 _ ((if_neg h115).trans (if_pos h124)).symm
        · skip
          refine w_iconst rX10_putsNumber_118 (x := 1) (by decide) ?_
          refine w_goto rX10_putsNumber_119 ?_
          exact j115 _ (if_pos h115).symm
      · replace q := q.1 h38
        refine w_aload_n rX10_putsNumber_41 rfl ?_
        refine w_getR rX10_putsNumber_42 rfl rfl (G_is (by decide) rfl) (x := 537) rfl ?_
        refine w_iload rX10_putsNumber_45 rfl ?_
        have h47 := q.1
        replace q := q.2
        refine x_iaload rX10_putsNumber_47 (G_at (by decide) rfl rfl h47) ?_
        refine w_bipush rX10_putsNumber_48 (x := 46) (by decide) ?_
        refine w_icmpne rX10_putsNumber_50 (fun h => absurd h38 h) (fun _ => ?_)
        refine w_iconst rX10_putsNumber_53 (x := 1) (by decide) ?_
        refine w_goto rX10_putsNumber_54 ?_
        refine w_istore rX10_putsNumber_58 rfl trivial ?_
        refine w_iload rX10_putsNumber_60 rfl ?_
        refine w_ifeq rX10_putsNumber_62 (fun h => absurd h (show ¬ (1 : Int32) = 0 from by decide)) (fun _ => ?_)
        refine w_iload_n rX10_putsNumber_65 rfl ?_
        refine w_goto rX10_putsNumber_66 ?_
        refine w_istore_n rX10_putsNumber_84 rfl trivial ?_
        refine w_iload rX10_putsNumber_85 rfl ?_
        refine w_ifeq rX10_putsNumber_87 (fun h => absurd h (show ¬ (1 : Int32) = 0 from by decide)) (fun _ => ?_)
        refine w_iconst rX10_putsNumber_90 (x := 1) (by decide) ?_
        refine w_goto rX10_putsNumber_91 ?_
        refine w_istore_n rX10_putsNumber_105 rfl trivial ?_
        refine w_iinc rX10_putsNumber_106 rfl rfl trivial ?_
        refine w_goto rX10_putsNumber_109 ?_
        exact q
