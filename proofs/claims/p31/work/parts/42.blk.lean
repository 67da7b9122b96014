/-! own: the blocks of the methods that go round or call on, written by a program -/
set_option maxRecDepth 100000
theorem k_X9_maySound_0 {X : Nat × (Nat × (Nat → Int32))} {I : Nat → Nat → Int32} {L : Nat → Nat → Int64} {F : Nat → Nat → UInt32} {Q : AQ} {dam : Int32} {run : Int32} (q : ((f_X9_isDam dam) = 0 → Q (.inl (some (.int 0))) (G X I L F)) ∧ (¬ (f_X9_isDam dam) = 0 → ((f_X9_isRun run I) = 0 → Q (.inl (some (.int 0))) (G X I L F)) ∧ (¬ (f_X9_isRun run I) = 0 → ((I 0 8) < 60 → WP mX9_maySound 32 [some (.ref 0), some (.int dam), some (.int run), some (.int 0)] [] (G X I L F) 0 0 Q) ∧ (¬ (I 0 8) < 60 → Q (.inl (some (.int 0))) (G X I L F))))) : WP mX9_maySound 0 (am_ent 4 [.ref 0, .int dam, .int run]) [] (G X I L F) 0 0 Q := by
  refine w_aload_n rX9_maySound_0 rfl ?_
  refine w_iload_n rX9_maySound_1 rfl ?_
  refine w_invokevirtual rX9_maySound_2 rfl rfl rfl (Nat.le_of_ble_eq_true rfl) ⟨trivial, trivial, trivial⟩ (G_is (by decide) rfl) (by decide) (by decide) ?_
  refine s_X9_isDam ?_
  show WP mX9_maySound 5 _ _ _ 0 0 _
  refine w_ifeq rX9_maySound_5 (fun h5 => ?_) (fun h5 => ?_)
  · replace q := q.1 h5
    refine w_iconst rX9_maySound_28 (x := 0) (by decide) ?_
    refine w_ireturn rX9_maySound_29 (Or.inl rfl) ?_
    exact q
  · replace q := q.2 h5
    refine w_aload_n rX9_maySound_8 rfl ?_
    refine w_iload_n rX9_maySound_9 rfl ?_
    refine w_invokevirtual rX9_maySound_10 rfl rfl rfl (Nat.le_of_ble_eq_true rfl) ⟨trivial, trivial, trivial⟩ (G_is (by decide) rfl) (by decide) (by decide) ?_
    refine s_X9_isRun ?_
    show WP mX9_maySound 13 _ _ _ 0 0 _
    refine w_ifeq rX9_maySound_13 (fun h13 => ?_) (fun h13 => ?_)
    · replace q := q.1 h13
      refine w_iconst rX9_maySound_28 (x := 0) (by decide) ?_
      refine w_ireturn rX9_maySound_29 (Or.inl rfl) ?_
      exact q
    · replace q := q.2 h13
      refine w_aload_n rX9_maySound_16 rfl ?_
      refine x_getI rX9_maySound_17 rfl rfl (G_is (by decide) rfl) ?_
      refine w_aload_n rX9_maySound_20 rfl ?_
      refine w_getR rX9_maySound_21 rfl rfl (G_is (by decide) rfl) (x := 382) rfl ?_
      refine G_lenc rX9_maySound_24 (by decide) rfl (n := 60) rfl (x := 60) (by decide) ?_
      refine w_icmplt rX9_maySound_25 (fun h25 => ?_) (fun h25 => ?_)
      · replace q := q.1 h25
        refine w_iconst rX9_maySound_30 (x := 0) (by decide) ?_
        refine w_istore_n rX9_maySound_31 rfl trivial ?_
        exact q
      · replace q := q.2 h25
        refine w_iconst rX9_maySound_28 (x := 0) (by decide) ?_
        refine w_ireturn rX9_maySound_29 (Or.inl rfl) ?_
        exact q
theorem k_X9_maySound_32 {X : Nat × (Nat × (Nat → Int32))} {I : Nat → Nat → Int32} {L : Nat → Nat → Int64} {F : Nat → Nat → UInt32} {Q : AQ} {x1 : Int32} {x2 : Int32} {x3 : Int32} (q : ((I 0 8) ≤ x3 → vp_in x1 3 ∧ (((¬ (I (423 + 5 * Int32.toNatClampNeg x1) 8) = 0 → (¬ (f_X9_isGoodFor x2 (423 + 5 * Int32.toNatClampNeg x1) I) = 0 → vp_in x2 40 ∧ (True)))) ∧ (∀ s84_0 : Int32, s84_0 = (if (I (423 + 5 * Int32.toNatClampNeg x1) 8) = 0 then 0 else (if (f_X9_isGoodFor x2 (423 + 5 * Int32.toNatClampNeg x1) I) = 0 then 0 else (if (Op.cmpValue (FP.fcmp (F (383 + Int32.toNatClampNeg x2) 3) (FP.i2f (I (423 + 5 * Int32.toNatClampNeg x1) 10))) .l) < 0 then 0 else 1 : Int32) : Int32) : Int32) → ((s84_0 = 0 ∨ s84_0 = 1) ∧ (Q (.inl (some (.int s84_0))) (G X I L F)))))) ∧ (¬ (I 0 8) ≤ x3 → vp_in x3 60 ∧ (((I (438 + Int32.toNatClampNeg x3) 0) = x1 → vp_in x3 60 ∧ (((I (438 + Int32.toNatClampNeg x3) 4) = 0 → Q (.inl (some (.int 0))) (G X I L F)) ∧ (¬ (I (438 + Int32.toNatClampNeg x3) 4) = 0 → WP mX9_maySound 32 [some (.ref 0), some (.int x1), some (.int x2), some (.int (x3 + 1))] [] (G X I L F) 0 0 Q))) ∧ (¬ (I (438 + Int32.toNatClampNeg x3) 0) = x1 → WP mX9_maySound 32 [some (.ref 0), some (.int x1), some (.int x2), some (.int (x3 + 1))] [] (G X I L F) 0 0 Q)))) : WP mX9_maySound 32 [some (.ref 0), some (.int x1), some (.int x2), some (.int x3)] [] (G X I L F) 0 0 Q := by
  refine w_iload_n rX9_maySound_32 rfl ?_
  refine w_aload_n rX9_maySound_33 rfl ?_
  refine x_getI rX9_maySound_34 rfl rfl (G_is (by decide) rfl) ?_
  refine w_icmpge rX9_maySound_37 (fun h37 => ?_) (fun h37 => ?_)
  · replace q := q.1 h37
    refine w_aload_n rX9_maySound_73 rfl ?_
    refine w_getR rX9_maySound_74 rfl rfl (G_is (by decide) rfl) (x := 381) rfl ?_
    refine w_iload_n rX9_maySound_77 rfl ?_
    have h78 := q.1
    replace q := q.2
    refine w_aaload rX9_maySound_78 (G_aa (by decide) rfl rfl h78) (ga_dam h78) ?_
    refine w_astore_n rX9_maySound_79 rfl trivial ?_
    refine w_aload_n rX9_maySound_80 rfl ?_
    refine x_getI rX9_maySound_81 rfl rfl (G_isk (gi_dam h78).1) ?_
    have j84 : ∀ s84_0 : Int32, s84_0 = (if (I (423 + 5 * Int32.toNatClampNeg x1) 8) = 0 then 0 else (if (f_X9_isGoodFor x2 (423 + 5 * Int32.toNatClampNeg x1) I) = 0 then 0 else (if (Op.cmpValue (FP.fcmp (F (383 + Int32.toNatClampNeg x2) 3) (FP.i2f (I (423 + 5 * Int32.toNatClampNeg x1) 10))) .l) < 0 then 0 else 1 : Int32) : Int32) : Int32) → WP mX9_maySound 119 [some (.ref 0), some (.int x1), some (.int x2), some (.ref (423 + 5 * Int32.toNatClampNeg x1))] [.int s84_0] (G X I L F) 0 0 Q := by
      intro s84_0 es84_0
      replace q := q.2
      replace q := q s84_0 es84_0
      have z119 := q.1
      replace q := q.2
      refine w_ireturn rX9_maySound_119 z119 ?_
      exact q
    replace q := q.1
    refine w_ifeq rX9_maySound_84 (fun h84 => ?_) (fun h84 => ?_)
    · skip
      refine w_iconst rX9_maySound_118 (x := 0) (by decide) ?_
      exact j84 _ (if_pos h84).symm
    · replace q := q h84
      refine w_aload_n rX9_maySound_87 rfl ?_
      refine w_iload_n rX9_maySound_88 rfl ?_
      refine w_aload_n rX9_maySound_89 rfl ?_
      refine w_invokevirtual rX9_maySound_90 rfl rfl rfl (Nat.le_of_ble_eq_true rfl) ⟨trivial, trivial, trivial, trivial⟩ (G_is (by decide) rfl) (by decide) (by decide) ?_
      refine s_X9_isGoodFor (gi_dam h78) ?_
      show WP mX9_maySound 93 _ _ _ 0 0 _
      refine w_ifeq rX9_maySound_93 (fun h93 => ?_) (fun h93 => ?_)
      · skip
        refine w_iconst rX9_maySound_118 (x := 0) (by decide) ?_
        exact j84 _ ((if_neg h84).trans (if_pos h93)).symm
      · replace q := q h93
        refine w_aload_n rX9_maySound_96 rfl ?_
        refine w_getR rX9_maySound_97 rfl rfl (G_is (by decide) rfl) (x := 379) rfl ?_
        refine w_iload_n rX9_maySound_100 rfl ?_
        have h101 := q.1
        replace q := q.2
        refine w_aaload rX9_maySound_101 (G_aa (by decide) rfl rfl h101) (ga_run h101) ?_
        refine x_getF rX9_maySound_102 rfl rfl (G_isk (gi_run h101)) ?_
        refine w_aload_n rX9_maySound_105 rfl ?_
        refine x_getI rX9_maySound_106 rfl rfl (G_isk (gi_dam h78).1) ?_
        refine w_i2f rX9_maySound_109 ?_
        refine w_fcmp rX9_maySound_110 ?_
        refine w_iflt rX9_maySound_111 (fun h111 => ?_) (fun h111 => ?_)
        · skip
          refine w_iconst rX9_maySound_118 (x := 0) (by decide) ?_
          exact j84 _ (((if_neg h84).trans (if_neg h93)).trans (if_pos h111)).symm
        · skip
          refine w_iconst rX9_maySound_114 (x := 1) (by decide) ?_
          refine w_goto rX9_maySound_115 ?_
          exact j84 _ (((if_neg h84).trans (if_neg h93)).trans (if_neg h111)).symm
  · replace q := q.2 h37
    refine w_aload_n rX9_maySound_40 rfl ?_
    refine w_getR rX9_maySound_41 rfl rfl (G_is (by decide) rfl) (x := 382) rfl ?_
    refine w_iload_n rX9_maySound_44 rfl ?_
    have h45 := q.1
    replace q := q.2
    refine w_aaload rX9_maySound_45 (G_aa (by decide) rfl rfl h45) (ga_sir h45) ?_
    refine x_getI rX9_maySound_46 rfl rfl (G_isk (gi_sir h45)) ?_
    refine w_iload_n rX9_maySound_49 rfl ?_
    refine w_icmpne rX9_maySound_50 (fun h50 => ?_) (fun h50 => ?_)
    · replace q := q.2 h50
      refine w_iinc rX9_maySound_67 rfl rfl trivial ?_
      refine w_goto rX9_maySound_70 ?_
      exact q
    · replace q := q.1 h50
      refine w_aload_n rX9_maySound_53 rfl ?_
      refine w_getR rX9_maySound_54 rfl rfl (G_is (by decide) rfl) (x := 382) rfl ?_
      refine w_iload_n rX9_maySound_57 rfl ?_
      have h58 := q.1
      replace q := q.2
      refine w_aaload rX9_maySound_58 (G_aa (by decide) rfl rfl h58) (ga_sir h58) ?_
      refine x_getI rX9_maySound_59 rfl rfl (G_isk (gi_sir h58)) ?_
      refine w_ifne rX9_maySound_62 (fun h62 => ?_) (fun h62 => ?_)
      · replace q := q.2 h62
        refine w_iinc rX9_maySound_67 rfl rfl trivial ?_
        refine w_goto rX9_maySound_70 ?_
        exact q
      · replace q := q.1 h62
        refine w_iconst rX9_maySound_65 (x := 0) (by decide) ?_
        refine w_ireturn rX9_maySound_66 (Or.inl rfl) ?_
        exact q
theorem k_X9_passHourAt_0 {X : Nat × (Nat × (Nat → Int32))} {I : Nat → Nat → Int32} {L : Nat → Nat → Int64} {F : Nat → Nat → UInt32} {Q : AQ} {o : Nat} (ho : isDam o) (q : ((f_X6_latestOf (I o 3) I) = (-1) → WP mX9_passHourAt 33 [some (.ref 0), some (.ref o), some (.int (f_X6_latestOf (I o 3) I)), none, none, none, none, none] [.float 0] (G X I L F) 0 0 Q) ∧ (¬ (f_X6_latestOf (I o 3) I) = (-1) → WP mX6_outputOf 0 (am_ent 4 [.ref 9, .int (f_X6_latestOf (I o 3) I), .int (I 0 9)]) [] (G X I L F) 0 0 (am_kq mX9_passHourAt 30 [some (.ref 0), some (.ref o), some (.int (f_X6_latestOf (I o 3) I)), none, none, none, none, none] [] (0 + am_bc mX6_outputOf) (0 + am_bs mX6_outputOf) Q))) : WP mX9_passHourAt 0 (am_ent 8 [.ref 0, .ref o]) [] (G X I L F) 0 0 Q := by
  refine w_aload_n rX9_passHourAt_0 rfl ?_
  refine w_getR rX9_passHourAt_1 rfl rfl (G_is (by decide) rfl) (x := 9) rfl ?_
  refine w_aload_n rX9_passHourAt_4 rfl ?_
  refine x_getI rX9_passHourAt_5 rfl rfl (G_isk ho.1) ?_
  refine w_invokevirtual rX9_passHourAt_8 rfl rfl rfl (Nat.le_of_ble_eq_true rfl) ⟨trivial, trivial, trivial⟩ (G_is (by decide) rfl) (by decide) (by decide) ?_
  refine s_X6_latestOf ?_
  show WP mX9_passHourAt 11 _ _ _ 0 0 _
  refine w_istore_n rX9_passHourAt_11 rfl trivial ?_
  refine w_iload_n rX9_passHourAt_12 rfl ?_
  refine w_iconst rX9_passHourAt_13 (x := -1) (by decide) ?_
  refine w_icmpne rX9_passHourAt_14 (fun h14 => ?_) (fun h14 => ?_)
  · replace q := q.2 h14
    refine w_aload_n rX9_passHourAt_21 rfl ?_
    refine w_getR rX9_passHourAt_22 rfl rfl (G_is (by decide) rfl) (x := 9) rfl ?_
    refine w_iload_n rX9_passHourAt_25 rfl ?_
    refine w_aload_n rX9_passHourAt_26 rfl ?_
    refine x_getI rX9_passHourAt_27 rfl rfl (G_is (by decide) rfl) ?_
    refine w_invokevirtual rX9_passHourAt_30 rfl rfl rfl (Nat.le_of_ble_eq_true rfl) ⟨trivial, trivial, trivial, trivial⟩ (G_is (by decide) rfl) (by decide) (by decide) ?_
    exact q
  · replace q := q.1 h14
    refine w_fconst rX9_passHourAt_17 (x := 0) rfl ?_
    refine w_goto rX9_passHourAt_18 ?_
    exact q
theorem k_X9_passHourAt_33 {X : Nat × (Nat × (Nat → Int32))} {I : Nat → Nat → Int32} {L : Nat → Nat → Int64} {F : Nat → Nat → UInt32} {Q : AQ} {o1 : Nat} {x2 : Int32} {e0 : UInt32} (ho1 : isDam o1) (q : ∀ s37_0 : UInt32, s37_0 = (if 0 ≤ (Op.cmpValue (FP.fcmp e0 0) .g) then e0 else 0 : UInt32) → (((I o1 6) = 0 → (p_X0_letThrough o1 (I 0 9) s37_0 0 I F) ∧ (Q (.inl none) (G X I L (fF_X0_letThrough o1 (I 0 9) s37_0 0 I F)))) ∧ (¬ (I o1 6) = 0 → ∀ s65_0 : Int32, s65_0 = (if (f_X9_isRun (I o1 7) I) = 0 then 0 else (if (f_X9_reasonAgainst (I o1 7) I) = 0 then 1 else 0 : Int32) : Int32) → (((¬ s65_0 = 0 → vp_in (I o1 7) 40 ∧ (True))) ∧ (∀ s120_2 : UInt32, s120_2 = (if s65_0 = 0 then 0 else (F (383 + Int32.toNatClampNeg (I o1 7)) 3) : UInt32) → (WP mX4_workOut 0 (am_ent 5 [.ref 10, .ref (o1 + 1)]) [] (G X I L (am_u (am_u (am_u (am_u F 11 17 (F o1 5)) 11 18 s37_0) 11 19 s120_2) 11 16 (FP.i2f (I 0 9)))) 0 0 (am_kq mX9_passHourAt 161 [some (.ref 0), some (.ref o1), some (.int x2), some (.float e0), some (.float s37_0), some (.float 0), some (.int s65_0), some (.ref 11)] [] (0 + am_bc mX4_workOut) (0 + am_bs mX4_workOut) Q))))))) : WP mX9_passHourAt 33 [some (.ref 0), some (.ref o1), some (.int x2), none, none, none, none, none] [.float e0] (G X I L F) 0 0 Q := by
  refine w_fstore_n rX9_passHourAt_33 rfl trivial ?_
  refine w_fload_n rX9_passHourAt_34 rfl ?_
  refine w_fconst rX9_passHourAt_35 (x := 0) rfl ?_
  refine w_fcmp rX9_passHourAt_36 ?_
  have j37 : ∀ s37_0 : UInt32, s37_0 = (if 0 ≤ (Op.cmpValue (FP.fcmp e0 0) .g) then e0 else 0 : UInt32) → WP mX9_passHourAt 45 [some (.ref 0), some (.ref o1), some (.int x2), some (.float e0), none, none, none, none] [.float s37_0] (G X I L F) 0 0 Q := by
    intro s37_0 es37_0
    replace q := q s37_0 es37_0
    refine w_fstore rX9_passHourAt_45 rfl trivial ?_
    refine w_fconst rX9_passHourAt_47 (x := 0) rfl ?_
    refine w_fstore rX9_passHourAt_48 rfl trivial ?_
    refine w_aload_n rX9_passHourAt_50 rfl ?_
    refine x_getI rX9_passHourAt_51 rfl rfl (G_isk ho1.1) ?_
    refine w_ifeq rX9_passHourAt_54 (fun h54 => ?_) (fun h54 => ?_)
    · replace q := q.1 h54
      refine w_aload_n rX9_passHourAt_166 rfl ?_
      refine w_aload_n rX9_passHourAt_167 rfl ?_
      refine x_getI rX9_passHourAt_168 rfl rfl (G_is (by decide) rfl) ?_
      refine w_fload rX9_passHourAt_171 rfl ?_
      refine w_fload rX9_passHourAt_173 rfl ?_
      refine w_invokevirtual rX9_passHourAt_175 rfl rfl rfl (Nat.le_of_ble_eq_true rfl) ⟨trivial, trivial, trivial, trivial, trivial⟩ (G_isk ho1.1) (by decide) (by decide) ?_
      refine s_X0_letThrough ho1 q.1 ?_
      replace q := q.2
      show WP mX9_passHourAt 178 _ _ _ 0 0 _
      refine w_return rX9_passHourAt_178 ?_
      exact q
    · replace q := q.2 h54
      refine w_aload_n rX9_passHourAt_57 rfl ?_
      refine w_aload_n rX9_passHourAt_58 rfl ?_
      refine x_getI rX9_passHourAt_59 rfl rfl (G_isk ho1.1) ?_
      refine w_invokevirtual rX9_passHourAt_62 rfl rfl rfl (Nat.le_of_ble_eq_true rfl) ⟨trivial, trivial, trivial⟩ (G_is (by decide) rfl) (by decide) (by decide) ?_
      refine s_X9_isRun ?_
      show WP mX9_passHourAt 65 _ _ _ 0 0 _
      have j65 : ∀ s65_0 : Int32, s65_0 = (if (f_X9_isRun (I o1 7) I) = 0 then 0 else (if (f_X9_reasonAgainst (I o1 7) I) = 0 then 1 else 0 : Int32) : Int32) → WP mX9_passHourAt 84 [some (.ref 0), some (.ref o1), some (.int x2), some (.float e0), some (.float s37_0), some (.float 0), none, none] [.int s65_0] (G X I L F) 0 0 Q := by
        intro s65_0 es65_0
        replace q := q s65_0 es65_0
        refine w_istore rX9_passHourAt_84 rfl trivial ?_
        refine w_aload_n rX9_passHourAt_86 rfl ?_
        refine w_getR rX9_passHourAt_87 rfl rfl (G_is (by decide) rfl) (x := 9) rfl ?_
        refine w_getR rX9_passHourAt_90 rfl rfl (G_is (by decide) rfl) (x := 10) rfl ?_
        refine w_getR rX9_passHourAt_93 rfl rfl (G_is (by decide) rfl) (x := 11) rfl ?_
        refine w_astore rX9_passHourAt_96 rfl trivial ?_
        refine w_aload rX9_passHourAt_98 rfl ?_
        refine w_bipush rX9_passHourAt_100 (x := 17) (by decide) ?_
        refine w_aload_n rX9_passHourAt_102 rfl ?_
        refine x_getF rX9_passHourAt_103 rfl rfl (G_isk ho1.1) ?_
        refine xl_fastore rX9_passHourAt_106 (G_at (by decide) rfl rfl (by unfold vp_in; decide)) (i := 17) (by decide) ?_
        refine w_aload rX9_passHourAt_107 rfl ?_
        refine w_bipush rX9_passHourAt_109 (x := 18) (by decide) ?_
        refine w_fload rX9_passHourAt_111 rfl ?_
        refine xl_fastore rX9_passHourAt_113 (G_at (by decide) rfl rfl (by unfold vp_in; decide)) (i := 18) (by decide) ?_
        refine w_aload rX9_passHourAt_114 rfl ?_
        refine w_bipush rX9_passHourAt_116 (x := 19) (by decide) ?_
        refine w_iload rX9_passHourAt_118 rfl ?_
        have j120 : ∀ s120_2 : UInt32, s120_2 = (if s65_0 = 0 then 0 else (F (383 + Int32.toNatClampNeg (I o1 7)) 3) : UInt32) → WP mX9_passHourAt 139 [some (.ref 0), some (.ref o1), some (.int x2), some (.float e0), some (.float s37_0), some (.float 0), some (.int s65_0), some (.ref 11)] [.float s120_2, .int 19, .ref 11] (G X I L (am_u (am_u F 11 17 (F o1 5)) 11 18 s37_0)) 0 0 Q := by
          intro s120_2 es120_2
          replace q := q.2
          replace q := q s120_2 es120_2
          refine xl_fastore rX9_passHourAt_139 (G_at (by decide) rfl rfl (by unfold vp_in; decide)) (i := 19) (by decide) ?_
          refine w_aload rX9_passHourAt_140 rfl ?_
          refine w_bipush rX9_passHourAt_142 (x := 16) (by decide) ?_
          refine w_aload_n rX9_passHourAt_144 rfl ?_
          refine x_getI rX9_passHourAt_145 rfl rfl (G_is (by decide) rfl) ?_
          refine w_i2f rX9_passHourAt_148 ?_
          refine xl_fastore rX9_passHourAt_149 (G_at (by decide) rfl rfl (by unfold vp_in; decide)) (i := 16) (by decide) ?_
          refine w_aload_n rX9_passHourAt_150 rfl ?_
          refine w_getR rX9_passHourAt_151 rfl rfl (G_is (by decide) rfl) (x := 9) rfl ?_
          refine w_getR rX9_passHourAt_154 rfl rfl (G_is (by decide) rfl) (x := 10) rfl ?_
          refine w_aload_n rX9_passHourAt_157 rfl ?_
          refine w_getR rX9_passHourAt_158 rfl rfl (G_isk ho1.1) ho1.2.1 ?_
          refine w_invokevirtual rX9_passHourAt_161 rfl rfl rfl (Nat.le_of_ble_eq_true rfl) ⟨trivial, trivial, trivial⟩ (G_is (by decide) rfl) (by decide) (by decide) ?_
          exact q
        replace q := q.1
        refine w_ifeq rX9_passHourAt_120 (fun h120 => ?_) (fun h120 => ?_)
        · skip
          refine w_fconst rX9_passHourAt_138 (x := 0) rfl ?_
          exact j120 _ (if_pos h120).symm
        · replace q := q h120
          refine w_aload_n rX9_passHourAt_123 rfl ?_
          refine w_getR rX9_passHourAt_124 rfl rfl (G_is (by decide) rfl) (x := 379) rfl ?_
          refine w_aload_n rX9_passHourAt_127 rfl ?_
          refine x_getI rX9_passHourAt_128 rfl rfl (G_isk ho1.1) ?_
          have h131 := q.1
          replace q := q.2
          refine w_aaload rX9_passHourAt_131 (G_aa (by decide) rfl rfl h131) (ga_run h131) ?_
          refine x_getF rX9_passHourAt_132 rfl rfl (G_isk (gi_run h131)) ?_
          rw [au_ne (f := (am_u F 11 17 (F o1 5))) (o := 11) (k := 18) (a := (383 + Int32.toNatClampNeg (I o1 7))) (b := 3) (fun z => absurd z.1 (by omega))]
          rw [au_ne (f := F) (o := 11) (k := 17) (a := (383 + Int32.toNatClampNeg (I o1 7))) (b := 3) (fun z => absurd z.1 (by omega))]
          refine w_goto rX9_passHourAt_135 ?_
          exact j120 _ (if_neg h120).symm
      refine w_ifeq rX9_passHourAt_65 (fun h65 => ?_) (fun h65 => ?_)
      · skip
        refine w_iconst rX9_passHourAt_83 (x := 0) (by decide) ?_
        exact j65 _ (if_pos h65).symm
      · skip
        refine w_aload_n rX9_passHourAt_68 rfl ?_
        refine w_aload_n rX9_passHourAt_69 rfl ?_
        refine x_getI rX9_passHourAt_70 rfl rfl (G_isk ho1.1) ?_
        refine w_invokevirtual rX9_passHourAt_73 rfl rfl rfl (Nat.le_of_ble_eq_true rfl) ⟨trivial, trivial, trivial⟩ (G_is (by decide) rfl) (by decide) (by decide) ?_
        refine s_X9_reasonAgainst ?_
        show WP mX9_passHourAt 76 _ _ _ 0 0 _
        refine w_ifne rX9_passHourAt_76 (fun h76 => ?_) (fun h76 => ?_)
        · skip
          refine w_iconst rX9_passHourAt_83 (x := 0) (by decide) ?_
          exact j65 _ ((if_neg h65).trans (if_neg h76)).symm
        · skip
          refine w_iconst rX9_passHourAt_79 (x := 1) (by decide) ?_
          refine w_goto rX9_passHourAt_80 ?_
          exact j65 _ ((if_neg h65).trans (if_pos h76)).symm
  refine w_ifge rX9_passHourAt_37 (fun h37 => ?_) (fun h37 => ?_)
  · skip
    refine w_fload_n rX9_passHourAt_44 rfl ?_
    exact j37 _ (if_pos h37).symm
  · skip
    refine w_fconst rX9_passHourAt_40 (x := 0) rfl ?_
    refine w_goto rX9_passHourAt_41 ?_
    exact j37 _ (if_neg h37).symm
theorem k_X9_passHourAt_164 {X : Nat × (Nat × (Nat → Int32))} {I : Nat → Nat → Int32} {L : Nat → Nat → Int64} {F : Nat → Nat → UInt32} {Q : AQ} {o1 : Nat} {x2 : Int32} {y3 : UInt32} {y4 : UInt32} {y5 : UInt32} {x6 : Int32} {e0 : UInt32} (ho1 : isDam o1) (q : (p_X0_letThrough o1 (I 0 9) y4 e0 I F) ∧ (Q (.inl none) (G X I L (fF_X0_letThrough o1 (I 0 9) y4 e0 I F)))) : WP mX9_passHourAt 164 [some (.ref 0), some (.ref o1), some (.int x2), some (.float y3), some (.float y4), some (.float y5), some (.int x6), some (.ref 11)] [.float e0] (G X I L F) 0 0 Q := by
  refine w_fstore rX9_passHourAt_164 rfl trivial ?_
  refine w_aload_n rX9_passHourAt_166 rfl ?_
  refine w_aload_n rX9_passHourAt_167 rfl ?_
  refine x_getI rX9_passHourAt_168 rfl rfl (G_is (by decide) rfl) ?_
  refine w_fload rX9_passHourAt_171 rfl ?_
  refine w_fload rX9_passHourAt_173 rfl ?_
  refine w_invokevirtual rX9_passHourAt_175 rfl rfl rfl (Nat.le_of_ble_eq_true rfl) ⟨trivial, trivial, trivial, trivial, trivial⟩ (G_isk ho1.1) (by decide) (by decide) ?_
  refine s_X0_letThrough ho1 q.1 ?_
  replace q := q.2
  show WP mX9_passHourAt 178 _ _ _ 0 0 _
  refine w_return rX9_passHourAt_178 ?_
  exact q
theorem k_X9_bitsOf_0 {X : Nat × (Nat × (Nat → Int32))} {I : Nat → Nat → Int32} {L : Nat → Nat → Int64} {F : Nat → Nat → UInt32} {Q : AQ} {x : UInt32} (q : ((Op.cmpValue (FP.fcmp x 0) .l) = 0 → Q (.inl (some (.int 0))) (G X I L F)) ∧ (¬ (Op.cmpValue (FP.fcmp x 0) .l) = 0 → ∀ s11_0 : Int32, s11_0 = (if 0 ≤ (Op.cmpValue (FP.fcmp x 0) .g) then 0 else (-2147483648) : Int32) → (((¬ 0 ≤ (Op.cmpValue (FP.fcmp x 0) .g) → vf_n32 (FP.fsub 0 x) ∧ (True))) ∧ (∀ s25_0 : UInt32, s25_0 = (if 0 ≤ (Op.cmpValue (FP.fcmp x 0) .g) then x else (FP.fsub 0 x) : UInt32) → (WP mX9_bitsOf 39 [some (.float x), some (.int s11_0), some (.float s25_0), some (.int 127), none] [] (G X I L F) 0 0 Q))))) : WP mX9_bitsOf 0 (am_ent 5 [.float x]) [] (G X I L F) 0 0 Q := by
  refine w_fload_n rX9_bitsOf_0 rfl ?_
  refine w_fconst rX9_bitsOf_1 (x := 0) rfl ?_
  refine w_fcmp rX9_bitsOf_2 ?_
  refine w_ifne rX9_bitsOf_3 (fun h3 => ?_) (fun h3 => ?_)
  · replace q := q.2 h3
    refine w_fload_n rX9_bitsOf_8 rfl ?_
    refine w_fconst rX9_bitsOf_9 (x := 0) rfl ?_
    refine w_fcmp rX9_bitsOf_10 ?_
    have j11 : ∀ s11_0 : Int32, s11_0 = (if 0 ≤ (Op.cmpValue (FP.fcmp x 0) .g) then 0 else (-2147483648) : Int32) → WP mX9_bitsOf 21 [some (.float x), none, none, none, none] [.int s11_0] (G X I L F) 0 0 Q := by
      intro s11_0 es11_0
      replace q := q s11_0 es11_0
      refine w_istore_n rX9_bitsOf_21 rfl trivial ?_
      refine w_fload_n rX9_bitsOf_22 rfl ?_
      refine w_fconst rX9_bitsOf_23 (x := 0) rfl ?_
      refine w_fcmp rX9_bitsOf_24 ?_
      have j25 : ∀ s25_0 : UInt32, s25_0 = (if 0 ≤ (Op.cmpValue (FP.fcmp x 0) .g) then x else (FP.fsub 0 x) : UInt32) → WP mX9_bitsOf 35 [some (.float x), some (.int s11_0), none, none, none] [.float s25_0] (G X I L F) 0 0 Q := by
        intro s25_0 es25_0
        replace q := q.2
        replace q := q s25_0 es25_0
        refine w_fstore_n rX9_bitsOf_35 rfl trivial ?_
        refine w_bipush rX9_bitsOf_36 (x := 127) (by decide) ?_
        refine w_istore_n rX9_bitsOf_38 rfl trivial ?_
        exact q
      replace q := q.1
      refine w_ifge rX9_bitsOf_25 (fun h25 => ?_) (fun h25 => ?_)
      · skip
        refine w_fload_n rX9_bitsOf_34 rfl ?_
        exact j25 _ (if_pos h25).symm
      · replace q := q h25
        refine w_fconst rX9_bitsOf_28 (x := 0) rfl ?_
        refine w_fload_n rX9_bitsOf_29 rfl ?_
        refine w_fsub rX9_bitsOf_30 q.1 ?_
        replace q := q.2
        refine w_goto rX9_bitsOf_31 ?_
        exact j25 _ (if_neg h25).symm
    refine w_ifge rX9_bitsOf_11 (fun h11 => ?_) (fun h11 => ?_)
    · skip
      refine w_iconst rX9_bitsOf_20 (x := 0) (by decide) ?_
      exact j11 _ (if_pos h11).symm
    · skip
      refine w_ldc_wN rX9_bitsOf_14 (x := -2147483648) (by decide) ?_
      refine w_goto rX9_bitsOf_17 ?_
      exact j11 _ (if_neg h11).symm
  · replace q := q.1 h3
    refine w_iconst rX9_bitsOf_6 (x := 0) (by decide) ?_
    refine w_ireturn rX9_bitsOf_7 trivial ?_
    exact q
theorem k_X9_bitsOf_39 {X : Nat × (Nat × (Nat → Int32))} {I : Nat → Nat → Int32} {L : Nat → Nat → Int64} {F : Nat → Nat → UInt32} {Q : AQ} {y0 : UInt32} {x1 : Int32} {y2 : UInt32} {x3 : Int32} (q : ((Op.cmpValue (FP.fcmp y2 1073741824) .l) < 0 → WP mX9_bitsOf 62 [some (.float y0), some (.int x1), some (.float y2), some (.int x3), none] [] (G X I L F) 0 0 Q) ∧ (¬ (Op.cmpValue (FP.fcmp y2 1073741824) .l) < 0 → (254 ≤ x3 → WP mX9_bitsOf 62 [some (.float y0), some (.int x1), some (.float y2), some (.int x3), none] [] (G X I L F) 0 0 Q) ∧ (¬ 254 ≤ x3 → vf_n32 (FP.fdiv y2 1073741824) ∧ (WP mX9_bitsOf 39 [some (.float y0), some (.int x1), some (.float (FP.fdiv y2 1073741824)), some (.int (x3 + 1)), none] [] (G X I L F) 0 0 Q)))) : WP mX9_bitsOf 39 [some (.float y0), some (.int x1), some (.float y2), some (.int x3), none] [] (G X I L F) 0 0 Q := by
  refine w_fload_n rX9_bitsOf_39 rfl ?_
  refine w_fconst rX9_bitsOf_40 (x := 1073741824) rfl ?_
  refine w_fcmp rX9_bitsOf_41 ?_
  refine w_iflt rX9_bitsOf_42 (fun h42 => ?_) (fun h42 => ?_)
  · replace q := q.1 h42
    exact q
  · replace q := q.2 h42
    refine w_iload_n rX9_bitsOf_45 rfl ?_
    refine w_sipush rX9_bitsOf_46 (x := 254) (by decide) ?_
    refine w_icmpge rX9_bitsOf_49 (fun h49 => ?_) (fun h49 => ?_)
    · replace q := q.1 h49
      exact q
    · replace q := q.2 h49
      refine w_fload_n rX9_bitsOf_52 rfl ?_
      refine w_fconst rX9_bitsOf_53 (x := 1073741824) rfl ?_
      refine w_fdiv rX9_bitsOf_54 q.1 ?_
      replace q := q.2
      refine w_fstore_n rX9_bitsOf_55 rfl trivial ?_
      refine w_iinc rX9_bitsOf_56 rfl rfl trivial ?_
      refine w_goto rX9_bitsOf_59 ?_
      exact q
theorem k_X9_bitsOf_62 {X : Nat × (Nat × (Nat → Int32))} {I : Nat → Nat → Int32} {L : Nat → Nat → Int64} {F : Nat → Nat → UInt32} {Q : AQ} {y0 : UInt32} {x1 : Int32} {y2 : UInt32} {x3 : Int32} (q : (0 ≤ (Op.cmpValue (FP.fcmp y2 1065353216) .g) → vf_n32 (FP.fmul y2 1258291200) ∧ (Q (.inl (some (.int (x1 ||| ((((x3 : Int32) <<< (23 &&& 31 : Int32)) + (FP.f2i (FP.fmul y2 1258291200))) - 8388608))))) (G X I L F))) ∧ (¬ 0 ≤ (Op.cmpValue (FP.fcmp y2 1065353216) .g) → (x3 ≤ 1 → vf_n32 (FP.fmul y2 1258291200) ∧ (Q (.inl (some (.int (x1 ||| (FP.f2i (FP.fmul y2 1258291200)))))) (G X I L F))) ∧ (¬ x3 ≤ 1 → vf_n32 (FP.fmul y2 1073741824) ∧ (WP mX9_bitsOf 62 [some (.float y0), some (.int x1), some (.float (FP.fmul y2 1073741824)), some (.int (x3 + (-1))), none] [] (G X I L F) 0 0 Q)))) : WP mX9_bitsOf 62 [some (.float y0), some (.int x1), some (.float y2), some (.int x3), none] [] (G X I L F) 0 0 Q := by
  refine w_fload_n rX9_bitsOf_62 rfl ?_
  refine w_fconst rX9_bitsOf_63 (x := 1065353216) rfl ?_
  refine w_fcmp rX9_bitsOf_64 ?_
  refine w_ifge rX9_bitsOf_65 (fun h65 => ?_) (fun h65 => ?_)
  · replace q := q.1 h65
    refine w_fload_n rX9_bitsOf_83 rfl ?_
    refine w_ldc_wF rX9_bitsOf_84 (x := 1258291200) (by decide) ?_
    refine w_fmul rX9_bitsOf_87 q.1 ?_
    replace q := q.2
    refine w_f2i rX9_bitsOf_88 ?_
    refine w_istore rX9_bitsOf_89 rfl trivial ?_
    refine w_iload_n rX9_bitsOf_91 rfl ?_
    refine w_fload_n rX9_bitsOf_92 rfl ?_
    refine w_fconst rX9_bitsOf_93 (x := 1065353216) rfl ?_
    refine w_fcmp rX9_bitsOf_94 ?_
    refine w_ifge rX9_bitsOf_95 (fun _ => ?_) (fun h => absurd h65 h)
    refine w_iload_n rX9_bitsOf_103 rfl ?_
    refine w_bipush rX9_bitsOf_104 (x := 23) (by decide) ?_
    refine w_ishl rX9_bitsOf_106 ?_
    refine w_iload rX9_bitsOf_107 rfl ?_
    refine w_iadd rX9_bitsOf_109 ?_
    refine w_ldc_wI rX9_bitsOf_110 (x := 8388608) (by decide) ?_
    refine w_isub rX9_bitsOf_113 ?_
    refine w_ior rX9_bitsOf_114 ?_
    refine w_ireturn rX9_bitsOf_115 trivial ?_
    exact q
  · replace q := q.2 h65
    refine w_iload_n rX9_bitsOf_68 rfl ?_
    refine w_iconst rX9_bitsOf_69 (x := 1) (by decide) ?_
    refine w_icmple rX9_bitsOf_70 (fun h70 => ?_) (fun h70 => ?_)
    · replace q := q.1 h70
      refine w_fload_n rX9_bitsOf_83 rfl ?_
      refine w_ldc_wF rX9_bitsOf_84 (x := 1258291200) (by decide) ?_
      refine w_fmul rX9_bitsOf_87 q.1 ?_
      replace q := q.2
      refine w_f2i rX9_bitsOf_88 ?_
      refine w_istore rX9_bitsOf_89 rfl trivial ?_
      refine w_iload_n rX9_bitsOf_91 rfl ?_
      refine w_fload_n rX9_bitsOf_92 rfl ?_
      refine w_fconst rX9_bitsOf_93 (x := 1065353216) rfl ?_
      refine w_fcmp rX9_bitsOf_94 ?_
      refine w_ifge rX9_bitsOf_95 (fun h => absurd h h65) (fun _ => ?_)
      refine w_iload rX9_bitsOf_98 rfl ?_
      refine w_goto rX9_bitsOf_100 ?_
      refine w_ior rX9_bitsOf_114 ?_
      refine w_ireturn rX9_bitsOf_115 trivial ?_
      exact q
    · replace q := q.2 h70
      refine w_fload_n rX9_bitsOf_73 rfl ?_
      refine w_fconst rX9_bitsOf_74 (x := 1073741824) rfl ?_
      refine w_fmul rX9_bitsOf_75 q.1 ?_
      replace q := q.2
      refine w_fstore_n rX9_bitsOf_76 rfl trivial ?_
      refine w_iinc rX9_bitsOf_77 rfl rfl trivial ?_
      refine w_goto rX9_bitsOf_80 ?_
      exact q
theorem k_J0_indexOf_0f7a4_0 {X : Nat × (Nat × (Nat → Int32))} {I : Nat → Nat → Int32} {L : Nat → Nat → Int64} {F : Nat → Nat → UInt32} {Q : AQ} {ch : Int32} (q : WP mJ0_indexOf_7cf53 0 (am_ent 3 [.ref 1000001, .int ch, .int 0]) [] (G X I L F) 0 0 (am_kq mJ0_indexOf_0f7a4 3 [some (.ref 1000001), some (.int ch)] [] (0 + am_bc mJ0_indexOf_7cf53) (0 + am_bs mJ0_indexOf_7cf53) Q)) : WP mJ0_indexOf_0f7a4 0 (am_ent 2 [.ref 1000001, .int ch]) [] (G X I L F) 0 0 Q := by
  refine w_aload_n rJ0_indexOf_0f7a4_0 rfl ?_
  refine w_iload_n rJ0_indexOf_0f7a4_1 rfl ?_
  refine w_iconst rJ0_indexOf_0f7a4_2 (x := 0) (by decide) ?_
  refine w_invokevirtual rJ0_indexOf_0f7a4_3 rfl rfl rfl (Nat.le_of_ble_eq_true rfl) ⟨trivial, trivial, trivial, trivial⟩ rfl (by decide) (by decide) ?_
  exact q
theorem k_J0_indexOf_0f7a4_6 {X : Nat × (Nat × (Nat → Int32))} {I : Nat → Nat → Int32} {L : Nat → Nat → Int64} {F : Nat → Nat → UInt32} {Q : AQ} {x1 : Int32} {e0 : Int32} (q : Q (.inl (some (.int e0))) (G X I L F)) : WP mJ0_indexOf_0f7a4 6 [some (.ref 1000001), some (.int x1)] [.int e0] (G X I L F) 0 0 Q := by
  refine w_ireturn rJ0_indexOf_0f7a4_6 trivial ?_
  exact q
theorem k_J0_indexOf_7cf53_0 {X : Nat × (Nat × (Nat → Int32))} {I : Nat → Nat → Int32} {L : Nat → Nat → Int64} {F : Nat → Nat → UInt32} {Q : AQ} {ch : Int32} {start : Int32} (q : WP mJ1_indexOf_4cfef 0 (am_ent 4 [.ref 1000002, .int ch, .int start, .int f_J0_length_8abf5]) [] (G X I L F) 0 0 (am_kq mJ0_indexOf_7cf53 17 [some (.ref 1000001), some (.int ch), some (.int start)] [] (0 + am_bc mJ1_indexOf_4cfef) (0 + am_bs mJ1_indexOf_4cfef) Q)) : WP mJ0_indexOf_7cf53 0 (am_ent 3 [.ref 1000001, .int ch, .int start]) [] (G X I L F) 0 0 Q := by
  refine w_aload_n rJ0_indexOf_7cf53_0 rfl ?_
  refine w_invokevirtual rJ0_indexOf_7cf53_1 rfl rfl rfl (Nat.le_of_ble_eq_true rfl) ⟨trivial, trivial⟩ rfl (by decide) (by decide) ?_
  refine s_J0_isLatin1_aae02 ?_
  show WP mJ0_indexOf_7cf53 4 _ _ _ 0 0 _
  refine w_ifeq rJ0_indexOf_7cf53_4 (fun h => absurd h (show ¬ (1 : Int32) = 0 from by decide)) (fun _ => ?_)
  refine w_aload_n rJ0_indexOf_7cf53_7 rfl ?_
  refine w_getSv rJ0_indexOf_7cf53_8 ?_
  refine w_iload_n rJ0_indexOf_7cf53_11 rfl ?_
  refine w_iload_n rJ0_indexOf_7cf53_12 rfl ?_
  refine w_aload_n rJ0_indexOf_7cf53_13 rfl ?_
  refine w_invokevirtual rJ0_indexOf_7cf53_14 rfl rfl rfl (Nat.le_of_ble_eq_true rfl) ⟨trivial, trivial⟩ rfl (by decide) (by decide) ?_
  refine s_J0_length_8abf5 ?_
  show WP mJ0_indexOf_7cf53 17 _ _ _ 0 0 _
  refine w_invokestatic rJ0_indexOf_7cf53_17 rfl rfl rfl (Nat.le_of_ble_eq_true rfl) ⟨trivial, trivial, trivial, trivial, trivial⟩ trivial (by decide) (by decide) ?_
  exact q
theorem k_J0_indexOf_7cf53_20 {X : Nat × (Nat × (Nat → Int32))} {I : Nat → Nat → Int32} {L : Nat → Nat → Int64} {F : Nat → Nat → UInt32} {Q : AQ} {x1 : Int32} {x2 : Int32} {e0 : Int32} (q : Q (.inl (some (.int e0))) (G X I L F)) : WP mJ0_indexOf_7cf53 20 [some (.ref 1000001), some (.int x1), some (.int x2)] [.int e0] (G X I L F) 0 0 Q := by
  refine w_goto rJ0_indexOf_7cf53_20 ?_
  refine w_ireturn rJ0_indexOf_7cf53_36 trivial ?_
  exact q
theorem k_J1_indexOf_4cfef_0 {X : Nat × (Nat × (Nat → Int32))} {I : Nat → Nat → Int32} {L : Nat → Nat → Int64} {F : Nat → Nat → UInt32} {Q : AQ} {ch : Int32} {start : Int32} {stop : Int32} (q : ((f_J1_canEncode_9a6ad ch) = 0 → Q (.inl (some (.int (-1)))) (G X I L F)) ∧ (¬ (f_J1_canEncode_9a6ad ch) = 0 → ((f_J9_max_7cf53 start 0) < (f_J9_min_7cf53 stop 8) → WP mJ1_indexOfChar_4cfef 0 (am_ent 6 [.ref 1000002, .int ch, .int (f_J9_max_7cf53 start 0), .int (f_J9_min_7cf53 stop 8)]) [] (G X I L F) 0 0 (am_kq mJ1_indexOf_4cfef 33 [some (.ref 1000002), some (.int ch), some (.int (f_J9_max_7cf53 start 0)), some (.int (f_J9_min_7cf53 stop 8))] [] (0 + am_bc mJ1_indexOfChar_4cfef) (0 + am_bs mJ1_indexOfChar_4cfef) Q)) ∧ (¬ (f_J9_max_7cf53 start 0) < (f_J9_min_7cf53 stop 8) → Q (.inl (some (.int (-1)))) (G X I L F)))) : WP mJ1_indexOf_4cfef 0 (am_ent 4 [.ref 1000002, .int ch, .int start, .int stop]) [] (G X I L F) 0 0 Q := by
  refine w_iload_n rJ1_indexOf_4cfef_0 rfl ?_
  refine w_invokestatic rJ1_indexOf_4cfef_1 rfl rfl rfl (Nat.le_of_ble_eq_true rfl) ⟨trivial, trivial⟩ trivial (by decide) (by decide) ?_
  refine s_J1_canEncode_9a6ad ?_
  show WP mJ1_indexOf_4cfef 4 _ _ _ 0 0 _
  refine w_ifne rJ1_indexOf_4cfef_4 (fun h4 => ?_) (fun h4 => ?_)
  · replace q := q.2 h4
    refine w_iload_n rJ1_indexOf_4cfef_9 rfl ?_
    refine w_iconst rJ1_indexOf_4cfef_10 (x := 0) (by decide) ?_
    refine w_invokestatic rJ1_indexOf_4cfef_11 rfl rfl rfl (Nat.le_of_ble_eq_true rfl) ⟨trivial, trivial, trivial⟩ trivial (by decide) (by decide) ?_
    refine s_J9_max_7cf53 ?_
    show WP mJ1_indexOf_4cfef 14 _ _ _ 0 0 _
    refine w_istore_n rJ1_indexOf_4cfef_14 rfl trivial ?_
    refine w_iload_n rJ1_indexOf_4cfef_15 rfl ?_
    refine w_aload_n rJ1_indexOf_4cfef_16 rfl ?_
    refine w_lenS rJ1_indexOf_4cfef_17 ?_
    refine w_invokestatic rJ1_indexOf_4cfef_18 rfl rfl rfl (Nat.le_of_ble_eq_true rfl) ⟨trivial, trivial, trivial⟩ trivial (by decide) (by decide) ?_
    refine s_J9_min_7cf53 ?_
    show WP mJ1_indexOf_4cfef 21 _ _ _ 0 0 _
    refine w_istore_n rJ1_indexOf_4cfef_21 rfl trivial ?_
    refine w_iload_n rJ1_indexOf_4cfef_22 rfl ?_
    refine w_iload_n rJ1_indexOf_4cfef_23 rfl ?_
    refine w_icmplt rJ1_indexOf_4cfef_24 (fun h24 => ?_) (fun h24 => ?_)
    · replace q := q.1 h24
      refine w_aload_n rJ1_indexOf_4cfef_29 rfl ?_
      refine w_iload_n rJ1_indexOf_4cfef_30 rfl ?_
      refine w_iload_n rJ1_indexOf_4cfef_31 rfl ?_
      refine w_iload_n rJ1_indexOf_4cfef_32 rfl ?_
      refine w_invokestatic rJ1_indexOf_4cfef_33 rfl rfl rfl (Nat.le_of_ble_eq_true rfl) ⟨trivial, trivial, trivial, trivial, trivial⟩ trivial (by decide) (by decide) ?_
      exact q
    · replace q := q.2 h24
      refine w_iconst rJ1_indexOf_4cfef_27 (x := -1) (by decide) ?_
      refine w_ireturn rJ1_indexOf_4cfef_28 trivial ?_
      exact q
  · replace q := q.1 h4
    refine w_iconst rJ1_indexOf_4cfef_7 (x := -1) (by decide) ?_
    refine w_ireturn rJ1_indexOf_4cfef_8 trivial ?_
    exact q
theorem k_J1_indexOf_4cfef_36 {X : Nat × (Nat × (Nat → Int32))} {I : Nat → Nat → Int32} {L : Nat → Nat → Int64} {F : Nat → Nat → UInt32} {Q : AQ} {x1 : Int32} {x2 : Int32} {x3 : Int32} {e0 : Int32} (q : Q (.inl (some (.int e0))) (G X I L F)) : WP mJ1_indexOf_4cfef 36 [some (.ref 1000002), some (.int x1), some (.int x2), some (.int x3)] [.int e0] (G X I L F) 0 0 Q := by
  refine w_ireturn rJ1_indexOf_4cfef_36 trivial ?_
  exact q
theorem k_J1_indexOfChar_4cfef_0 {X : Nat × (Nat × (Nat → Int32))} {I : Nat → Nat → Int32} {L : Nat → Nat → Int64} {F : Nat → Nat → UInt32} {Q : AQ} {ch : Int32} {start : Int32} {stop : Int32} (q : WP mJ1_indexOfChar_4cfef 7 [some (.ref 1000002), some (.int ch), some (.int start), some (.int stop), some (.int (Int8.toInt32 (Int32.toInt8 ch))), some (.int start)] [] (G X I L F) 0 0 Q) : WP mJ1_indexOfChar_4cfef 0 (am_ent 6 [.ref 1000002, .int ch, .int start, .int stop]) [] (G X I L F) 0 0 Q := by
  refine w_iload_n rJ1_indexOfChar_4cfef_0 rfl ?_
  refine w_i2b rJ1_indexOfChar_4cfef_1 ?_
  refine w_istore rJ1_indexOfChar_4cfef_2 rfl trivial ?_
  refine w_iload_n rJ1_indexOfChar_4cfef_4 rfl ?_
  refine w_istore rJ1_indexOfChar_4cfef_5 rfl trivial ?_
  exact q
theorem k_J1_indexOfChar_4cfef_7 {X : Nat × (Nat × (Nat → Int32))} {I : Nat → Nat → Int32} {L : Nat → Nat → Int64} {F : Nat → Nat → UInt32} {Q : AQ} {x1 : Int32} {x2 : Int32} {x3 : Int32} {x4 : Int32} {x5 : Int32} (q : (x3 ≤ x5 → Q (.inl (some (.int (-1)))) (G X I L F)) ∧ (¬ x3 ≤ x5 → vp_in x5 8 ∧ (((am_nt [43, 45, 42, 47, 40, 41, 44, 46] (Int32.toNatClampNeg x5) 0) = x4 → Q (.inl (some (.int x5))) (G X I L F)) ∧ (¬ (am_nt [43, 45, 42, 47, 40, 41, 44, 46] (Int32.toNatClampNeg x5) 0) = x4 → WP mJ1_indexOfChar_4cfef 7 [some (.ref 1000002), some (.int x1), some (.int x2), some (.int x3), some (.int x4), some (.int (x5 + 1))] [] (G X I L F) 0 0 Q)))) : WP mJ1_indexOfChar_4cfef 7 [some (.ref 1000002), some (.int x1), some (.int x2), some (.int x3), some (.int x4), some (.int x5)] [] (G X I L F) 0 0 Q := by
  refine w_iload rJ1_indexOfChar_4cfef_7 rfl ?_
  refine w_iload_n rJ1_indexOfChar_4cfef_9 rfl ?_
  refine w_icmpge rJ1_indexOfChar_4cfef_10 (fun h10 => ?_) (fun h10 => ?_)
  · replace q := q.1 h10
    refine w_iconst rJ1_indexOfChar_4cfef_31 (x := -1) (by decide) ?_
    refine w_ireturn rJ1_indexOfChar_4cfef_32 trivial ?_
    exact q
  · replace q := q.2 h10
    refine w_aload_n rJ1_indexOfChar_4cfef_13 rfl ?_
    refine w_iload rJ1_indexOfChar_4cfef_14 rfl ?_
    refine w_baloadS rJ1_indexOfChar_4cfef_16 q.1 ?_
    replace q := q.2
    refine w_iload rJ1_indexOfChar_4cfef_17 rfl ?_
    refine w_icmpne rJ1_indexOfChar_4cfef_19 (fun h19 => ?_) (fun h19 => ?_)
    · replace q := q.2 h19
      refine w_iinc rJ1_indexOfChar_4cfef_25 rfl rfl trivial ?_
      refine w_goto rJ1_indexOfChar_4cfef_28 ?_
      exact q
    · replace q := q.1 h19
      refine w_iload rJ1_indexOfChar_4cfef_22 rfl ?_
      refine w_ireturn rJ1_indexOfChar_4cfef_24 trivial ?_
      exact q
theorem k_L_draw_0 {X : Nat × (Nat × (Nat → Int32))} {I : Nat → Nat → Int32} {L : Nat → Nat → Int64} {F : Nat → Nat → UInt32} {Q : AQ} {k : Int32} (q : ((¬ (nI X.2.1) ≤ k → vp_in k X.2.1 ∧ (True))) ∧ (∀ s3_0 : Int32, s3_0 = (if (nI X.2.1) ≤ k then ((104729 * (k + 2)) - (104729 * (k + 2)) / 65521 * 65521) else ((X.2.2 (Int32.toNatClampNeg k)) &&& 2147483647) : Int32) → (Q (.inl (some (.int s3_0))) (G X I L F)))) : WP mL_draw 0 (am_ent 2 [.ref 1000000, .int k]) [] (G X I L F) 0 0 Q := by
  refine w_iload_n rL_draw_0 rfl ?_
  refine w_aload_n rL_draw_1 rfl ?_
  refine x_lenX rL_draw_2 ?_
  have j3 : ∀ s3_0 : Int32, s3_0 = (if (nI X.2.1) ≤ k then ((104729 * (k + 2)) - (104729 * (k + 2)) / 65521 * 65521) else ((X.2.2 (Int32.toNatClampNeg k)) &&& 2147483647) : Int32) → WP mL_draw 24 [some (.ref 1000000), some (.int k)] [.int s3_0] (G X I L F) 0 0 Q := by
    intro s3_0 es3_0
    replace q := q.2
    replace q := q s3_0 es3_0
    refine w_ireturn rL_draw_24 trivial ?_
    exact q
  replace q := q.1
  refine w_icmpge rL_draw_3 (fun h3 => ?_) (fun h3 => ?_)
  · skip
    refine w_ldcI rL_draw_15 (x := 104729) (by decide) ?_
    refine w_iload_n rL_draw_17 rfl ?_
    refine w_iconst rL_draw_18 (x := 2) (by decide) ?_
    refine w_iadd rL_draw_19 ?_
    refine w_imul rL_draw_20 ?_
    refine w_ldcI rL_draw_21 (x := 65521) (by decide) ?_
    refine w_irem rL_draw_23 (by decide) ?_
    exact j3 _ (if_pos h3).symm
  · replace q := q h3
    refine w_aload_n rL_draw_6 rfl ?_
    refine w_iload_n rL_draw_7 rfl ?_
    refine x_ialoadX rL_draw_8 q.1 ?_
    replace q := q.2
    refine w_ldcI rL_draw_9 (x := 2147483647) (by decide) ?_
    refine w_iand rL_draw_11 ?_
    refine w_goto rL_draw_12 ?_
    exact j3 _ (if_neg h3).symm
theorem k_L_step_0 {X : Nat × (Nat × (Nat → Int32))} {I : Nat → Nat → Int32} {L : Nat → Nat → Int64} {F : Nat → Nat → UInt32} {Q : AQ} {what : Int32} {a : Int32} {b : Int32} (q : ((what - what / 20 * 20) = 0 → (50 < (I 498 3) → Q (.inl (some (.int 1))) (G X I L F)) ∧ (¬ 50 < (I 498 3) → WP mL_texts 0 (am_ent 17 [.ref 0, .ref 498, .ref 499, .int (a - a / 6 * 6), .int b]) [] (G X I L F) 0 0 (am_kq mL_step 122 [some (.ref 0), some (.ref 498), some (.ref 499), some (.ref 500), some (.ref 501), some (.int what), some (.int a), some (.int b), some (.int (b - b / 3 * 3)), some (.int (4 + (6 * (b - b / 3 * 3)))), none, none, none] [] 400 2500 Q))) ∧ (¬ (what - what / 20 * 20) = 0 → ((what - what / 20 * 20) = 1 → (50 < (I 498 3) → Q (.inl (some (.int 1))) (G X I L F)) ∧ (¬ 50 < (I 498 3) → WP mL_texts 0 (am_ent 17 [.ref 0, .ref 498, .ref 499, .int (a - a / 6 * 6), .int b]) [] (G X I L F) 0 0 (am_kq mL_step 122 [some (.ref 0), some (.ref 498), some (.ref 499), some (.ref 500), some (.ref 501), some (.int what), some (.int a), some (.int b), some (.int (b - b / 3 * 3)), some (.int (4 + (6 * (b - b / 3 * 3)))), none, none, none] [] 400 2500 Q))) ∧ (¬ (what - what / 20 * 20) = 1 → ((what - what / 20 * 20) = 2 → (50 < (I 498 3) → Q (.inl (some (.int 1))) (G X I L F)) ∧ (¬ 50 < (I 498 3) → WP mL_texts 0 (am_ent 17 [.ref 0, .ref 498, .ref 499, .int (a - a / 6 * 6), .int b]) [] (G X I L F) 0 0 (am_kq mL_step 122 [some (.ref 0), some (.ref 498), some (.ref 499), some (.ref 500), some (.ref 501), some (.int what), some (.int a), some (.int b), some (.int (b - b / 3 * 3)), some (.int (4 + (6 * (b - b / 3 * 3)))), none, none, none] [] 400 2500 Q))) ∧ (¬ (what - what / 20 * 20) = 2 → ((what - what / 20 * 20) = 3 → (50 < (I 498 3) → Q (.inl (some (.int 1))) (G X I L F)) ∧ (¬ 50 < (I 498 3) → WP mL_texts 0 (am_ent 17 [.ref 0, .ref 498, .ref 499, .int (a - a / 6 * 6), .int b]) [] (G X I L F) 0 0 (am_kq mL_step 122 [some (.ref 0), some (.ref 498), some (.ref 499), some (.ref 500), some (.ref 501), some (.int what), some (.int a), some (.int b), some (.int (b - b / 3 * 3)), some (.int (4 + (6 * (b - b / 3 * 3)))), none, none, none] [] 400 2500 Q))) ∧ (¬ (what - what / 20 * 20) = 3 → ((what - what / 20 * 20) = 4 → WP mL_letters 0 (am_ent 11 [.ref 0, .int a, .int b]) [] (G X I L F) 0 0 (am_kq mL_step 139 [some (.ref 0), some (.ref 498), some (.ref 499), some (.ref 500), some (.ref 501), some (.int what), some (.int a), some (.int b), some (.int (b - b / 3 * 3)), some (.int (4 + (6 * (b - b / 3 * 3)))), none, none, none] [] 20 120 Q)) ∧ (¬ (what - what / 20 * 20) = 4 → ((what - what / 20 * 20) = 5 → WP mX9_latest 0 (am_ent 2 [.ref 0, .int (a - a / 6 * 6)]) [] (G X I L F) 0 0 (am_kq mL_step 153 [some (.ref 0), some (.ref 498), some (.ref 499), some (.ref 500), some (.ref 501), some (.int what), some (.int a), some (.int b), some (.int (b - b / 3 * 3)), some (.int (4 + (6 * (b - b / 3 * 3)))), some (.int (a - a / 6 * 6)), none, none] [] 1 6 Q)) ∧ (¬ (what - what / 20 * 20) = 5 → ((what - what / 20 * 20) = 6 → WP mX9_rain 0 (am_ent 5 [.ref 0, .int (b - b / 3 * 3), .int (a - a / 60 * 60), .int ((a / 60) - (a / 60) / 501 * 501)]) [] (G X I L F) 0 0 (am_kq mL_step 241 [some (.ref 0), some (.ref 498), some (.ref 499), some (.ref 500), some (.ref 501), some (.int what), some (.int a), some (.int b), some (.int (b - b / 3 * 3)), some (.int (4 + (6 * (b - b / 3 * 3)))), none, none, some (.int (a - a / 60 * 60))] [] 1 6 Q)) ∧ (¬ (what - what / 20 * 20) = 6 → ((what - what / 20 * 20) = 7 → WP mX9_rain 0 (am_ent 5 [.ref 0, .int (b - b / 3 * 3), .int (a - a / 60 * 60), .int ((a / 60) - (a / 60) / 501 * 501)]) [] (G X I L F) 0 0 (am_kq mL_step 241 [some (.ref 0), some (.ref 498), some (.ref 499), some (.ref 500), some (.ref 501), some (.int what), some (.int a), some (.int b), some (.int (b - b / 3 * 3)), some (.int (4 + (6 * (b - b / 3 * 3)))), none, none, some (.int (a - a / 60 * 60))] [] 1 6 Q)) ∧ (¬ (what - what / 20 * 20) = 7 → ((what - what / 20 * 20) = 8 → WP mX9_rain 0 (am_ent 5 [.ref 0, .int (b - b / 3 * 3), .int (a - a / 60 * 60), .int ((a / 60) - (a / 60) / 501 * 501)]) [] (G X I L F) 0 0 (am_kq mL_step 241 [some (.ref 0), some (.ref 498), some (.ref 499), some (.ref 500), some (.ref 501), some (.int what), some (.int a), some (.int b), some (.int (b - b / 3 * 3)), some (.int (4 + (6 * (b - b / 3 * 3)))), none, none, some (.int (a - a / 60 * 60))] [] 1 6 Q)) ∧ (¬ (what - what / 20 * 20) = 8 → ((what - what / 20 * 20) = 9 → vp_in (4 + (6 * (b - b / 3 * 3))) 22 ∧ (((I 498 (Int32.toNatClampNeg (4 + (6 * (b - b / 3 * 3))))) = 1 → WP mX9_level 0 (am_ent 2 [.ref 0, .int (b - b / 3 * 3)]) [] (G X I L F) 0 0 (am_kq mL_step 298 [some (.ref 0), some (.ref 498), some (.ref 499), some (.ref 500), some (.ref 501), some (.int what), some (.int a), some (.int b), some (.int (b - b / 3 * 3)), some (.int (4 + (6 * (b - b / 3 * 3)))), none, none, none] [] 1 6 Q)) ∧ (¬ (I 498 (Int32.toNatClampNeg (4 + (6 * (b - b / 3 * 3))))) = 1 → vp_in (4 + (6 * (b - b / 3 * 3))) 22 ∧ (vp_in ((4 + (6 * (b - b / 3 * 3))) + 1) 22 ∧ (vp_in ((4 + (6 * (b - b / 3 * 3))) + 2) 22 ∧ (WP mX9_build 0 (am_ent 5 [.ref 0, .int (b - b / 3 * 3), .int (a - a / 6 * 6), .int (1 + (b - b / 1000 * 1000))]) [] (G X (am_u (am_u (am_u I 498 (Int32.toNatClampNeg (4 + (6 * (b - b / 3 * 3)))) 1) 498 (Int32.toNatClampNeg ((4 + (6 * (b - b / 3 * 3))) + 1)) (a - a / 6 * 6)) 498 (Int32.toNatClampNeg ((4 + (6 * (b - b / 3 * 3))) + 2)) (1 + (b - b / 1000 * 1000))) L F) 0 0 (am_kq mL_step 356 [some (.ref 0), some (.ref 498), some (.ref 499), some (.ref 500), some (.ref 501), some (.int what), some (.int a), some (.int b), some (.int (b - b / 3 * 3)), some (.int (4 + (6 * (b - b / 3 * 3)))), none, none, none] [] 1 6 Q))))))) ∧ (¬ (what - what / 20 * 20) = 9 → ((what - what / 20 * 20) = 10 → vp_in (4 + (6 * (b - b / 3 * 3))) 22 ∧ (((I 498 (Int32.toNatClampNeg (4 + (6 * (b - b / 3 * 3))))) = 0 → Q (.inl (some (.int 1))) (G X I L F)) ∧ (¬ (I 498 (Int32.toNatClampNeg (4 + (6 * (b - b / 3 * 3))))) = 0 → WP mL_rules 0 (am_ent 7 [.ref 0, .int (b - b / 3 * 3), .int a, .int b]) [] (G X I L F) 0 0 (am_kq mL_step 399 [some (.ref 0), some (.ref 498), some (.ref 499), some (.ref 500), some (.ref 501), some (.int what), some (.int a), some (.int b), some (.int (b - b / 3 * 3)), some (.int (4 + (6 * (b - b / 3 * 3)))), none, none, none] [] 10 60 Q)))) ∧ (¬ (what - what / 20 * 20) = 10 → ((what - what / 20 * 20) = 11 → vp_in (4 + (6 * (b - b / 3 * 3))) 22 ∧ (((I 498 (Int32.toNatClampNeg (4 + (6 * (b - b / 3 * 3))))) = 0 → WP mX9_saved 0 (am_ent 2 [.ref 0, .int (b - b / 3 * 3)]) [] (G X I L F) 0 0 (am_kq mL_step 421 [some (.ref 0), some (.ref 498), some (.ref 499), some (.ref 500), some (.ref 501), some (.int what), some (.int a), some (.int b), some (.int (b - b / 3 * 3)), some (.int (4 + (6 * (b - b / 3 * 3)))), none, none, none] [] 1 6 Q)) ∧ (¬ (I 498 (Int32.toNatClampNeg (4 + (6 * (b - b / 3 * 3))))) = 0 → vp_in ((4 + (6 * (b - b / 3 * 3))) + 3) 22 ∧ (vp_in ((4 + (6 * (b - b / 3 * 3))) + 4) 22 ∧ (vp_in ((4 + (6 * (b - b / 3 * 3))) + 5) 22 ∧ (vp_in ((4 + (6 * (b - b / 3 * 3))) + 4) 22 ∧ (vp_in ((4 + (6 * (b - b / 3 * 3))) + 5) 22 ∧ (WP mX9_valley 0 (am_ent 6 [.ref 0, .int (b - b / 3 * 3), .int ((am_u (am_u (am_u I 498 (Int32.toNatClampNeg ((4 + (6 * (b - b / 3 * 3))) + 3)) 1) 498 (Int32.toNatClampNeg ((4 + (6 * (b - b / 3 * 3))) + 4)) (a - a / 10001 * 10001)) 498 (Int32.toNatClampNeg ((4 + (6 * (b - b / 3 * 3))) + 5)) (1 + (b - b / 500 * 500))) 498 (Int32.toNatClampNeg ((4 + (6 * (b - b / 3 * 3))) + 4))), .int (1 + (b - b / 500 * 500)), .int (a - a / 13 * 13)]) [] (G X (am_u (am_u (am_u I 498 (Int32.toNatClampNeg ((4 + (6 * (b - b / 3 * 3))) + 3)) 1) 498 (Int32.toNatClampNeg ((4 + (6 * (b - b / 3 * 3))) + 4)) (a - a / 10001 * 10001)) 498 (Int32.toNatClampNeg ((4 + (6 * (b - b / 3 * 3))) + 5)) (1 + (b - b / 500 * 500))) L F) 0 0 (am_kq mL_step 486 [some (.ref 0), some (.ref 498), some (.ref 499), some (.ref 500), some (.ref 501), some (.int what), some (.int a), some (.int b), some (.int (b - b / 3 * 3)), some (.int (4 + (6 * (b - b / 3 * 3)))), none, none, none] [] 1 6 Q))))))))) ∧ (¬ (what - what / 20 * 20) = 11 → ((what - what / 20 * 20) = 12 → ((I 498 1) = 12 → Q (.inl (some (.int 1))) (G X I L F)) ∧ (¬ (I 498 1) = 12 → WP mX9_latest 0 (am_ent 2 [.ref 0, .int (a - a / 6 * 6)]) [] (G X I L F) 0 0 (am_kq mL_step 505 [some (.ref 0), some (.ref 498), some (.ref 499), some (.ref 500), some (.ref 501), some (.int what), some (.int a), some (.int b), some (.int (b - b / 3 * 3)), some (.int (4 + (6 * (b - b / 3 * 3)))), none, none, none] [] 1 6 Q))) ∧ (¬ (what - what / 20 * 20) = 12 → ((what - what / 20 * 20) = 13 → ((I 498 1) = 12 → Q (.inl (some (.int 1))) (G X I L F)) ∧ (¬ (I 498 1) = 12 → WP mX9_latest 0 (am_ent 2 [.ref 0, .int (a - a / 6 * 6)]) [] (G X I L F) 0 0 (am_kq mL_step 505 [some (.ref 0), some (.ref 498), some (.ref 499), some (.ref 500), some (.ref 501), some (.int what), some (.int a), some (.int b), some (.int (b - b / 3 * 3)), some (.int (4 + (6 * (b - b / 3 * 3)))), none, none, none] [] 1 6 Q))) ∧ (¬ (what - what / 20 * 20) = 13 → ((what - what / 20 * 20) = 14 → ((I 498 1) = 0 → Q (.inl (some (.int 1))) (G X I L F)) ∧ (¬ (I 498 1) = 0 → vp_in (4 + (6 * (b - b / 3 * 3))) 22 ∧ (((I 498 (Int32.toNatClampNeg (4 + (6 * (b - b / 3 * 3))))) = 0 → Q (.inl (some (.int 1))) (G X I L F)) ∧ (¬ (I 498 (Int32.toNatClampNeg (4 + (6 * (b - b / 3 * 3))))) = 0 → (¬ (I 498 1) = 0) ∧ (WP mL_goes 0 (am_ent 7 [.ref 0, .ref 498, .ref 499, .ref 500, .int (b - b / 3 * 3), .int (a - a / (I 498 1) * (I 498 1))]) [] (G X I L F) 0 0 (am_kq mL_step 573 [some (.ref 0), some (.ref 498), some (.ref 499), some (.ref 500), some (.ref 501), some (.int what), some (.int a), some (.int b), some (.int (b - b / 3 * 3)), some (.int (4 + (6 * (b - b / 3 * 3)))), none, none, none] [] 10 60 Q)))))) ∧ (¬ (what - what / 20 * 20) = 14 → ((what - what / 20 * 20) = 15 → ((I 498 1) = 0 → Q (.inl (some (.int 1))) (G X I L F)) ∧ (¬ (I 498 1) = 0 → ((I 498 2) = 12 → Q (.inl (some (.int 1))) (G X I L F)) ∧ (¬ (I 498 2) = 12 → (¬ (I 498 1) = 0) ∧ (WP mL_sounds 0 (am_ent 11 [.ref 0, .ref 498, .ref 499, .ref 500, .ref 501, .int (b - b / 3 * 3), .int (a - a / (I 498 1) * (I 498 1))]) [] (G X I L F) 0 0 (am_kq mL_step 613 [some (.ref 0), some (.ref 498), some (.ref 499), some (.ref 500), some (.ref 501), some (.int what), some (.int a), some (.int b), some (.int (b - b / 3 * 3)), some (.int (4 + (6 * (b - b / 3 * 3)))), none, none, none] [] 10 60 Q))))) ∧ (¬ (what - what / 20 * 20) = 15 → ((what - what / 20 * 20) = 16 → ((I 498 1) = 0 → Q (.inl (some (.int 1))) (G X I L F)) ∧ (¬ (I 498 1) = 0 → ((I 498 2) = 12 → Q (.inl (some (.int 1))) (G X I L F)) ∧ (¬ (I 498 2) = 12 → (¬ (I 498 1) = 0) ∧ (WP mL_sounds 0 (am_ent 11 [.ref 0, .ref 498, .ref 499, .ref 500, .ref 501, .int (b - b / 3 * 3), .int (a - a / (I 498 1) * (I 498 1))]) [] (G X I L F) 0 0 (am_kq mL_step 613 [some (.ref 0), some (.ref 498), some (.ref 499), some (.ref 500), some (.ref 501), some (.int what), some (.int a), some (.int b), some (.int (b - b / 3 * 3)), some (.int (4 + (6 * (b - b / 3 * 3)))), none, none, none] [] 10 60 Q))))) ∧ (¬ (what - what / 20 * 20) = 16 → (190 < (I 498 0) → Q (.inl (some (.int 1))) (G X I L F)) ∧ (¬ 190 < (I 498 0) → WP mL_passes 0 (am_ent 7 [.ref 0, .ref 498, .ref 501, .int (1 + (a - a / 4 * 4))]) [] (G X I L F) 0 0 (am_kq mL_step 644 [some (.ref 0), some (.ref 498), some (.ref 499), some (.ref 500), some (.ref 501), some (.int what), some (.int a), some (.int b), some (.int (b - b / 3 * 3)), some (.int (4 + (6 * (b - b / 3 * 3)))), none, none, none] [] 40 240 Q)))))))))))))))))))) : WP mL_step 0 (am_ent 13 [.ref 0, .ref 498, .ref 499, .ref 500, .ref 501, .int what, .int a, .int b]) [] (G X I L F) 0 0 Q := by
  refine w_iload rL_step_0 rfl ?_
  refine w_iconst rL_step_2 (x := 3) (by decide) ?_
  refine w_irem rL_step_3 (by decide) ?_
  refine w_istore rL_step_4 rfl trivial ?_
  refine w_iconst rL_step_6 (x := 4) (by decide) ?_
  refine w_bipush rL_step_7 (x := 6) (by decide) ?_
  refine w_iload rL_step_9 rfl ?_
  refine w_imul rL_step_11 ?_
  refine w_iadd rL_step_12 ?_
  refine w_istore rL_step_13 rfl trivial ?_
  refine w_iload rL_step_15 rfl ?_
  refine w_bipush rL_step_17 (x := 20) (by decide) ?_
  refine w_irem rL_step_19 (by decide) ?_
  refine w_tsw rL_step_20 ?_
  refine ⟨fun h20_0 => ?_, fun h20_0 => ?_⟩
  · replace q := q.1 h20_0
    refine w_aload_n rL_step_104 rfl ?_
    refine w_iconst rL_step_105 (x := 3) (by decide) ?_
    refine xl_iaload rL_step_106 (G_at (by decide) rfl rfl (by unfold vp_in; decide)) (i := 3) (by decide) ?_
    refine w_bipush rL_step_107 (x := 50) (by decide) ?_
    refine w_icmpgt rL_step_109 (fun h109 => ?_) (fun h109 => ?_)
    · replace q := q.1 h109
      refine w_iconst rL_step_128 (x := 1) (by decide) ?_
      refine w_goto rL_step_129 ?_
      refine w_ireturn rL_step_133 (Or.inr rfl) ?_
      exact q
    · replace q := q.2 h109
      refine w_aload_n rL_step_112 rfl ?_
      refine w_aload_n rL_step_113 rfl ?_
      refine w_aload_n rL_step_114 rfl ?_
      refine w_iload rL_step_115 rfl ?_
      refine w_bipush rL_step_117 (x := 6) (by decide) ?_
      refine w_irem rL_step_119 (by decide) ?_
      refine w_iload rL_step_120 rfl ?_
      refine w_invokestatic rL_step_122 rfl rfl rfl (Nat.le_of_ble_eq_true rfl) ⟨trivial, trivial, trivial, trivial, trivial, trivial⟩ trivial (by decide) (by decide) ?_
      exact q
  · replace q := q.2 h20_0
    refine ⟨fun h20_1 => ?_, fun h20_1 => ?_⟩
    · replace q := q.1 h20_1
      refine w_aload_n rL_step_104 rfl ?_
      refine w_iconst rL_step_105 (x := 3) (by decide) ?_
      refine xl_iaload rL_step_106 (G_at (by decide) rfl rfl (by unfold vp_in; decide)) (i := 3) (by decide) ?_
      refine w_bipush rL_step_107 (x := 50) (by decide) ?_
      refine w_icmpgt rL_step_109 (fun h109 => ?_) (fun h109 => ?_)
      · replace q := q.1 h109
        refine w_iconst rL_step_128 (x := 1) (by decide) ?_
        refine w_goto rL_step_129 ?_
        refine w_ireturn rL_step_133 (Or.inr rfl) ?_
        exact q
      · replace q := q.2 h109
        refine w_aload_n rL_step_112 rfl ?_
        refine w_aload_n rL_step_113 rfl ?_
        refine w_aload_n rL_step_114 rfl ?_
        refine w_iload rL_step_115 rfl ?_
        refine w_bipush rL_step_117 (x := 6) (by decide) ?_
        refine w_irem rL_step_119 (by decide) ?_
        refine w_iload rL_step_120 rfl ?_
        refine w_invokestatic rL_step_122 rfl rfl rfl (Nat.le_of_ble_eq_true rfl) ⟨trivial, trivial, trivial, trivial, trivial, trivial⟩ trivial (by decide) (by decide) ?_
        exact q
    · replace q := q.2 h20_1
      refine ⟨fun h20_2 => ?_, fun h20_2 => ?_⟩
      · replace q := q.1 h20_2
        refine w_aload_n rL_step_104 rfl ?_
        refine w_iconst rL_step_105 (x := 3) (by decide) ?_
        refine xl_iaload rL_step_106 (G_at (by decide) rfl rfl (by unfold vp_in; decide)) (i := 3) (by decide) ?_
        refine w_bipush rL_step_107 (x := 50) (by decide) ?_
        refine w_icmpgt rL_step_109 (fun h109 => ?_) (fun h109 => ?_)
        · replace q := q.1 h109
          refine w_iconst rL_step_128 (x := 1) (by decide) ?_
          refine w_goto rL_step_129 ?_
          refine w_ireturn rL_step_133 (Or.inr rfl) ?_
          exact q
        · replace q := q.2 h109
          refine w_aload_n rL_step_112 rfl ?_
          refine w_aload_n rL_step_113 rfl ?_
          refine w_aload_n rL_step_114 rfl ?_
          refine w_iload rL_step_115 rfl ?_
          refine w_bipush rL_step_117 (x := 6) (by decide) ?_
          refine w_irem rL_step_119 (by decide) ?_
          refine w_iload rL_step_120 rfl ?_
          refine w_invokestatic rL_step_122 rfl rfl rfl (Nat.le_of_ble_eq_true rfl) ⟨trivial, trivial, trivial, trivial, trivial, trivial⟩ trivial (by decide) (by decide) ?_
          exact q
      · replace q := q.2 h20_2
        refine ⟨fun h20_3 => ?_, fun h20_3 => ?_⟩
        · replace q := q.1 h20_3
          refine w_aload_n rL_step_104 rfl ?_
          refine w_iconst rL_step_105 (x := 3) (by decide) ?_
          refine xl_iaload rL_step_106 (G_at (by decide) rfl rfl (by unfold vp_in; decide)) (i := 3) (by decide) ?_
          refine w_bipush rL_step_107 (x := 50) (by decide) ?_
          refine w_icmpgt rL_step_109 (fun h109 => ?_) (fun h109 => ?_)
          · replace q := q.1 h109
            refine w_iconst rL_step_128 (x := 1) (by decide) ?_
            refine w_goto rL_step_129 ?_
            refine w_ireturn rL_step_133 (Or.inr rfl) ?_
            exact q
          · replace q := q.2 h109
            refine w_aload_n rL_step_112 rfl ?_
            refine w_aload_n rL_step_113 rfl ?_
            refine w_aload_n rL_step_114 rfl ?_
            refine w_iload rL_step_115 rfl ?_
            refine w_bipush rL_step_117 (x := 6) (by decide) ?_
            refine w_irem rL_step_119 (by decide) ?_
            refine w_iload rL_step_120 rfl ?_
            refine w_invokestatic rL_step_122 rfl rfl rfl (Nat.le_of_ble_eq_true rfl) ⟨trivial, trivial, trivial, trivial, trivial, trivial⟩ trivial (by decide) (by decide) ?_
            exact q
        · replace q := q.2 h20_3
          refine ⟨fun h20_4 => ?_, fun h20_4 => ?_⟩
          · replace q := q.1 h20_4
            refine w_aload_n rL_step_134 rfl ?_
            refine w_iload rL_step_135 rfl ?_
            refine w_iload rL_step_137 rfl ?_
            refine w_invokestatic rL_step_139 rfl rfl rfl (Nat.le_of_ble_eq_true rfl) ⟨trivial, trivial, trivial, trivial⟩ trivial (by decide) (by decide) ?_
            exact q
          · replace q := q.2 h20_4
            refine ⟨fun h20_5 => ?_, fun h20_5 => ?_⟩
            · replace q := q.1 h20_5
              refine w_iload rL_step_143 rfl ?_
              refine w_bipush rL_step_145 (x := 6) (by decide) ?_
              refine w_irem rL_step_147 (by decide) ?_
              refine w_istore rL_step_148 rfl trivial ?_
              refine w_aload_n rL_step_150 rfl ?_
              refine w_iload rL_step_151 rfl ?_
              refine w_invokevirtual rL_step_153 rfl rfl rfl (Nat.le_of_ble_eq_true rfl) ⟨trivial, trivial, trivial⟩ (G_is (by decide) rfl) (by decide) (by decide) ?_
              exact q
            · replace q := q.2 h20_5
              refine ⟨fun h20_6 => ?_, fun h20_6 => ?_⟩
              · replace q := q.1 h20_6
                refine w_iload rL_step_218 rfl ?_
                refine w_bipush rL_step_220 (x := 60) (by decide) ?_
                refine w_irem rL_step_222 (by decide) ?_
                refine w_istore rL_step_223 rfl trivial ?_
                refine w_aload_n rL_step_225 rfl ?_
                refine w_iload rL_step_226 rfl ?_
                refine w_iconst rL_step_228 (x := 3) (by decide) ?_
                refine w_irem rL_step_229 (by decide) ?_
                refine w_iload rL_step_230 rfl ?_
                refine w_iload rL_step_232 rfl ?_
                refine w_bipush rL_step_234 (x := 60) (by decide) ?_
                refine w_idiv rL_step_236 (by decide) ?_
                refine w_sipush rL_step_237 (x := 501) (by decide) ?_
                refine w_irem rL_step_240 (by decide) ?_
                refine w_invokevirtual rL_step_241 rfl rfl rfl (Nat.le_of_ble_eq_true rfl) ⟨trivial, trivial, trivial, trivial, trivial⟩ (G_is (by decide) rfl) (by decide) (by decide) ?_
                exact q
              · replace q := q.2 h20_6
                refine ⟨fun h20_7 => ?_, fun h20_7 => ?_⟩
                · replace q := q.1 h20_7
                  refine w_iload rL_step_218 rfl ?_
                  refine w_bipush rL_step_220 (x := 60) (by decide) ?_
                  refine w_irem rL_step_222 (by decide) ?_
                  refine w_istore rL_step_223 rfl trivial ?_
                  refine w_aload_n rL_step_225 rfl ?_
                  refine w_iload rL_step_226 rfl ?_
                  refine w_iconst rL_step_228 (x := 3) (by decide) ?_
                  refine w_irem rL_step_229 (by decide) ?_
                  refine w_iload rL_step_230 rfl ?_
                  refine w_iload rL_step_232 rfl ?_
                  refine w_bipush rL_step_234 (x := 60) (by decide) ?_
                  refine w_idiv rL_step_236 (by decide) ?_
                  refine w_sipush rL_step_237 (x := 501) (by decide) ?_
                  refine w_irem rL_step_240 (by decide) ?_
                  refine w_invokevirtual rL_step_241 rfl rfl rfl (Nat.le_of_ble_eq_true rfl) ⟨trivial, trivial, trivial, trivial, trivial⟩ (G_is (by decide) rfl) (by decide) (by decide) ?_
                  exact q
                · replace q := q.2 h20_7
                  refine ⟨fun h20_8 => ?_, fun h20_8 => ?_⟩
                  · replace q := q.1 h20_8
                    refine w_iload rL_step_218 rfl ?_
                    refine w_bipush rL_step_220 (x := 60) (by decide) ?_
                    refine w_irem rL_step_222 (by decide) ?_
                    refine w_istore rL_step_223 rfl trivial ?_
                    refine w_aload_n rL_step_225 rfl ?_
                    refine w_iload rL_step_226 rfl ?_
                    refine w_iconst rL_step_228 (x := 3) (by decide) ?_
                    refine w_irem rL_step_229 (by decide) ?_
                    refine w_iload rL_step_230 rfl ?_
                    refine w_iload rL_step_232 rfl ?_
                    refine w_bipush rL_step_234 (x := 60) (by decide) ?_
                    refine w_idiv rL_step_236 (by decide) ?_
                    refine w_sipush rL_step_237 (x := 501) (by decide) ?_
                    refine w_irem rL_step_240 (by decide) ?_
                    refine w_invokevirtual rL_step_241 rfl rfl rfl (Nat.le_of_ble_eq_true rfl) ⟨trivial, trivial, trivial, trivial, trivial⟩ (G_is (by decide) rfl) (by decide) (by decide) ?_
                    exact q
                  · replace q := q.2 h20_8
                    refine ⟨fun h20_9 => ?_, fun h20_9 => ?_⟩
                    · replace q := q.1 h20_9
                      refine w_aload_n rL_step_287 rfl ?_
                      refine w_iload rL_step_288 rfl ?_
                      have h290 := q.1
                      replace q := q.2
                      refine x_iaload rL_step_290 (G_at (by decide) rfl rfl h290) ?_
                      refine w_iconst rL_step_291 (x := 1) (by decide) ?_
                      refine w_icmpne rL_step_292 (fun h292 => ?_) (fun h292 => ?_)
                      · replace q := q.2 h292
                        refine w_aload_n rL_step_310 rfl ?_
                        refine w_iload rL_step_311 rfl ?_
                        refine w_iconst rL_step_313 (x := 1) (by decide) ?_
                        have h314 := q.1
                        replace q := q.2
                        refine x_iastore rL_step_314 (G_at (by decide) rfl rfl h314) ?_
                        refine w_aload_n rL_step_315 rfl ?_
                        refine w_iload rL_step_316 rfl ?_
                        refine w_iconst rL_step_318 (x := 1) (by decide) ?_
                        refine w_iadd rL_step_319 ?_
                        refine w_iload rL_step_320 rfl ?_
                        refine w_bipush rL_step_322 (x := 6) (by decide) ?_
                        refine w_irem rL_step_324 (by decide) ?_
                        have h325 := q.1
                        replace q := q.2
                        refine x_iastore rL_step_325 (G_at (by decide) rfl rfl h325) ?_
                        refine w_aload_n rL_step_326 rfl ?_
                        refine w_iload rL_step_327 rfl ?_
                        refine w_iconst rL_step_329 (x := 2) (by decide) ?_
                        refine w_iadd rL_step_330 ?_
                        refine w_iconst rL_step_331 (x := 1) (by decide) ?_
                        refine w_iload rL_step_332 rfl ?_
                        refine w_sipush rL_step_334 (x := 1000) (by decide) ?_
                        refine w_irem rL_step_337 (by decide) ?_
                        refine w_iadd rL_step_338 ?_
                        have h339 := q.1
                        replace q := q.2
                        refine x_iastore rL_step_339 (G_at (by decide) rfl rfl h339) ?_
                        refine w_aload_n rL_step_340 rfl ?_
                        refine w_iload rL_step_341 rfl ?_
                        refine w_iload rL_step_343 rfl ?_
                        refine w_bipush rL_step_345 (x := 6) (by decide) ?_
                        refine w_irem rL_step_347 (by decide) ?_
                        refine w_iconst rL_step_348 (x := 1) (by decide) ?_
                        refine w_iload rL_step_349 rfl ?_
                        refine w_sipush rL_step_351 (x := 1000) (by decide) ?_
                        refine w_irem rL_step_354 (by decide) ?_
                        refine w_iadd rL_step_355 ?_
                        refine w_invokevirtual rL_step_356 rfl rfl rfl (Nat.le_of_ble_eq_true rfl) ⟨trivial, trivial, trivial, trivial, trivial⟩ (G_is (by decide) rfl) (by decide) (by decide) ?_
                        exact q
                      · replace q := q.1 h292
                        refine w_aload_n rL_step_295 rfl ?_
                        refine w_iload rL_step_296 rfl ?_
                        refine w_invokevirtual rL_step_298 rfl rfl rfl (Nat.le_of_ble_eq_true rfl) ⟨trivial, trivial, trivial⟩ (G_is (by decide) rfl) (by decide) (by decide) ?_
                        exact q
                    · replace q := q.2 h20_9
                      refine ⟨fun h20_10 => ?_, fun h20_10 => ?_⟩
                      · replace q := q.1 h20_10
                        refine w_aload_n rL_step_385 rfl ?_
                        refine w_iload rL_step_386 rfl ?_
                        have h388 := q.1
                        replace q := q.2
                        refine x_iaload rL_step_388 (G_at (by decide) rfl rfl h388) ?_
                        refine w_ifeq rL_step_389 (fun h389 => ?_) (fun h389 => ?_)
                        · replace q := q.1 h389
                          refine w_iconst rL_step_405 (x := 1) (by decide) ?_
                          refine w_goto rL_step_406 ?_
                          refine w_ireturn rL_step_410 (Or.inr rfl) ?_
                          exact q
                        · replace q := q.2 h389
                          refine w_aload_n rL_step_392 rfl ?_
                          refine w_iload rL_step_393 rfl ?_
                          refine w_iload rL_step_395 rfl ?_
                          refine w_iload rL_step_397 rfl ?_
                          refine w_invokestatic rL_step_399 rfl rfl rfl (Nat.le_of_ble_eq_true rfl) ⟨trivial, trivial, trivial, trivial, trivial⟩ trivial (by decide) (by decide) ?_
                          exact q
                      · replace q := q.2 h20_10
                        refine ⟨fun h20_11 => ?_, fun h20_11 => ?_⟩
                        · replace q := q.1 h20_11
                          refine w_aload_n rL_step_411 rfl ?_
                          refine w_iload rL_step_412 rfl ?_
                          have h414 := q.1
                          replace q := q.2
                          refine x_iaload rL_step_414 (G_at (by decide) rfl rfl h414) ?_
                          refine w_ifne rL_step_415 (fun h415 => ?_) (fun h415 => ?_)
                          · replace q := q.2 h415
                            refine w_aload_n rL_step_433 rfl ?_
                            refine w_iload rL_step_434 rfl ?_
                            refine w_iconst rL_step_436 (x := 3) (by decide) ?_
                            refine w_iadd rL_step_437 ?_
                            refine w_iconst rL_step_438 (x := 1) (by decide) ?_
                            have h439 := q.1
                            replace q := q.2
                            refine x_iastore rL_step_439 (G_at (by decide) rfl rfl h439) ?_
                            refine w_aload_n rL_step_440 rfl ?_
                            refine w_iload rL_step_441 rfl ?_
                            refine w_iconst rL_step_443 (x := 4) (by decide) ?_
                            refine w_iadd rL_step_444 ?_
                            refine w_iload rL_step_445 rfl ?_
                            refine w_sipush rL_step_447 (x := 10001) (by decide) ?_
                            refine w_irem rL_step_450 (by decide) ?_
                            have h451 := q.1
                            replace q := q.2
                            refine x_iastore rL_step_451 (G_at (by decide) rfl rfl h451) ?_
                            refine w_aload_n rL_step_452 rfl ?_
                            refine w_iload rL_step_453 rfl ?_
                            refine w_iconst rL_step_455 (x := 5) (by decide) ?_
                            refine w_iadd rL_step_456 ?_
                            refine w_iconst rL_step_457 (x := 1) (by decide) ?_
                            refine w_iload rL_step_458 rfl ?_
                            refine w_sipush rL_step_460 (x := 500) (by decide) ?_
                            refine w_irem rL_step_463 (by decide) ?_
                            refine w_iadd rL_step_464 ?_
                            have h465 := q.1
                            replace q := q.2
                            refine x_iastore rL_step_465 (G_at (by decide) rfl rfl h465) ?_
                            refine w_aload_n rL_step_466 rfl ?_
                            refine w_iload rL_step_467 rfl ?_
                            refine w_aload_n rL_step_469 rfl ?_
                            refine w_iload rL_step_470 rfl ?_
                            refine w_iconst rL_step_472 (x := 4) (by decide) ?_
                            refine w_iadd rL_step_473 ?_
                            have h474 := q.1
                            replace q := q.2
                            refine x_iaload rL_step_474 (G_at (by decide) rfl rfl h474) ?_
                            refine w_aload_n rL_step_475 rfl ?_
                            refine w_iload rL_step_476 rfl ?_
                            refine w_iconst rL_step_478 (x := 5) (by decide) ?_
                            refine w_iadd rL_step_479 ?_
                            have h480 := q.1
                            replace q := q.2
                            refine x_iaload rL_step_480 (G_at (by decide) rfl rfl h480) ?_
                            rw [am_u_eq (f := (am_u (am_u I 498 (Int32.toNatClampNeg ((4 + (6 * (b - b / 3 * 3))) + 3)) 1) 498 (Int32.toNatClampNeg ((4 + (6 * (b - b / 3 * 3))) + 4)) (a - a / 10001 * 10001))) (o := 498) (k := (Int32.toNatClampNeg ((4 + (6 * (b - b / 3 * 3))) + 5)))]
                            refine w_iload rL_step_481 rfl ?_
                            refine w_bipush rL_step_483 (x := 13) (by decide) ?_
                            refine w_irem rL_step_485 (by decide) ?_
                            refine w_invokevirtual rL_step_486 rfl rfl rfl (Nat.le_of_ble_eq_true rfl) ⟨trivial, trivial, trivial, trivial, trivial, trivial⟩ (G_is (by decide) rfl) (by decide) (by decide) ?_
                            exact q
                          · replace q := q.1 h415
                            refine w_aload_n rL_step_418 rfl ?_
                            refine w_iload rL_step_419 rfl ?_
                            refine w_invokevirtual rL_step_421 rfl rfl rfl (Nat.le_of_ble_eq_true rfl) ⟨trivial, trivial, trivial⟩ (G_is (by decide) rfl) (by decide) (by decide) ?_
                            exact q
                        · replace q := q.2 h20_11
                          refine ⟨fun h20_12 => ?_, fun h20_12 => ?_⟩
                          · replace q := q.1 h20_12
                            refine w_aload_n rL_step_491 rfl ?_
                            refine w_iconst rL_step_492 (x := 1) (by decide) ?_
                            refine xl_iaload rL_step_493 (G_at (by decide) rfl rfl (by unfold vp_in; decide)) (i := 1) (by decide) ?_
                            refine w_bipush rL_step_494 (x := 12) (by decide) ?_
                            refine w_icmpeq rL_step_496 (fun h496 => ?_) (fun h496 => ?_)
                            · replace q := q.1 h496
                              refine w_iconst rL_step_542 (x := 1) (by decide) ?_
                              refine w_goto rL_step_543 ?_
                              refine w_ireturn rL_step_547 (Or.inr rfl) ?_
                              exact q
                            · replace q := q.2 h496
                              refine w_aload_n rL_step_499 rfl ?_
                              refine w_iload rL_step_500 rfl ?_
                              refine w_bipush rL_step_502 (x := 6) (by decide) ?_
                              refine w_irem rL_step_504 (by decide) ?_
                              refine w_invokevirtual rL_step_505 rfl rfl rfl (Nat.le_of_ble_eq_true rfl) ⟨trivial, trivial, trivial⟩ (G_is (by decide) rfl) (by decide) (by decide) ?_
                              exact q
                          · replace q := q.2 h20_12
                            refine ⟨fun h20_13 => ?_, fun h20_13 => ?_⟩
                            · replace q := q.1 h20_13
                              refine w_aload_n rL_step_491 rfl ?_
                              refine w_iconst rL_step_492 (x := 1) (by decide) ?_
                              refine xl_iaload rL_step_493 (G_at (by decide) rfl rfl (by unfold vp_in; decide)) (i := 1) (by decide) ?_
                              refine w_bipush rL_step_494 (x := 12) (by decide) ?_
                              refine w_icmpeq rL_step_496 (fun h496 => ?_) (fun h496 => ?_)
                              · replace q := q.1 h496
                                refine w_iconst rL_step_542 (x := 1) (by decide) ?_
                                refine w_goto rL_step_543 ?_
                                refine w_ireturn rL_step_547 (Or.inr rfl) ?_
                                exact q
                              · replace q := q.2 h496
                                refine w_aload_n rL_step_499 rfl ?_
                                refine w_iload rL_step_500 rfl ?_
                                refine w_bipush rL_step_502 (x := 6) (by decide) ?_
                                refine w_irem rL_step_504 (by decide) ?_
                                refine w_invokevirtual rL_step_505 rfl rfl rfl (Nat.le_of_ble_eq_true rfl) ⟨trivial, trivial, trivial⟩ (G_is (by decide) rfl) (by decide) (by decide) ?_
                                exact q
                            · replace q := q.2 h20_13
                              refine ⟨fun h20_14 => ?_, fun h20_14 => ?_⟩
                              · replace q := q.1 h20_14
                                refine w_aload_n rL_step_548 rfl ?_
                                refine w_iconst rL_step_549 (x := 1) (by decide) ?_
                                refine xl_iaload rL_step_550 (G_at (by decide) rfl rfl (by unfold vp_in; decide)) (i := 1) (by decide) ?_
                                refine w_ifeq rL_step_551 (fun h551 => ?_) (fun h551 => ?_)
                                · replace q := q.1 h551
                                  refine w_iconst rL_step_579 (x := 1) (by decide) ?_
                                  refine w_goto rL_step_580 ?_
                                  refine w_ireturn rL_step_584 (Or.inr rfl) ?_
                                  exact q
                                · replace q := q.2 h551
                                  refine w_aload_n rL_step_554 rfl ?_
                                  refine w_iload rL_step_555 rfl ?_
                                  have h557 := q.1
                                  replace q := q.2
                                  refine x_iaload rL_step_557 (G_at (by decide) rfl rfl h557) ?_
                                  refine w_ifeq rL_step_558 (fun h558 => ?_) (fun h558 => ?_)
                                  · replace q := q.1 h558
                                    refine w_iconst rL_step_579 (x := 1) (by decide) ?_
                                    refine w_goto rL_step_580 ?_
                                    refine w_ireturn rL_step_584 (Or.inr rfl) ?_
                                    exact q
                                  · replace q := q.2 h558
                                    refine w_aload_n rL_step_561 rfl ?_
                                    refine w_aload_n rL_step_562 rfl ?_
                                    refine w_aload_n rL_step_563 rfl ?_
                                    refine w_aload_n rL_step_564 rfl ?_
                                    refine w_iload rL_step_565 rfl ?_
                                    refine w_iload rL_step_567 rfl ?_
                                    refine w_aload_n rL_step_569 rfl ?_
                                    refine w_iconst rL_step_570 (x := 1) (by decide) ?_
                                    refine xl_iaload rL_step_571 (G_at (by decide) rfl rfl (by unfold vp_in; decide)) (i := 1) (by decide) ?_
                                    refine w_irem rL_step_572 q.1 ?_
                                    replace q := q.2
                                    refine w_invokestatic rL_step_573 rfl rfl rfl (Nat.le_of_ble_eq_true rfl) ⟨trivial, trivial, trivial, trivial, trivial, trivial, trivial⟩ trivial (by decide) (by decide) ?_
                                    exact q
                              · replace q := q.2 h20_14
                                refine ⟨fun h20_15 => ?_, fun h20_15 => ?_⟩
                                · replace q := q.1 h20_15
                                  refine w_aload_n rL_step_585 rfl ?_
                                  refine w_iconst rL_step_586 (x := 1) (by decide) ?_
                                  refine xl_iaload rL_step_587 (G_at (by decide) rfl rfl (by unfold vp_in; decide)) (i := 1) (by decide) ?_
                                  refine w_ifeq rL_step_588 (fun h588 => ?_) (fun h588 => ?_)
                                  · replace q := q.1 h588
                                    refine w_iconst rL_step_619 (x := 1) (by decide) ?_
                                    refine w_goto rL_step_620 ?_
                                    refine w_ireturn rL_step_624 (Or.inr rfl) ?_
                                    exact q
                                  · replace q := q.2 h588
                                    refine w_aload_n rL_step_591 rfl ?_
                                    refine w_iconst rL_step_592 (x := 2) (by decide) ?_
                                    refine xl_iaload rL_step_593 (G_at (by decide) rfl rfl (by unfold vp_in; decide)) (i := 2) (by decide) ?_
                                    refine w_bipush rL_step_594 (x := 12) (by decide) ?_
                                    refine w_icmpeq rL_step_596 (fun h596 => ?_) (fun h596 => ?_)
                                    · replace q := q.1 h596
                                      refine w_iconst rL_step_619 (x := 1) (by decide) ?_
                                      refine w_goto rL_step_620 ?_
                                      refine w_ireturn rL_step_624 (Or.inr rfl) ?_
                                      exact q
                                    · replace q := q.2 h596
                                      refine w_aload_n rL_step_599 rfl ?_
                                      refine w_aload_n rL_step_600 rfl ?_
                                      refine w_aload_n rL_step_601 rfl ?_
                                      refine w_aload_n rL_step_602 rfl ?_
                                      refine w_aload rL_step_603 rfl ?_
                                      refine w_iload rL_step_605 rfl ?_
                                      refine w_iload rL_step_607 rfl ?_
                                      refine w_aload_n rL_step_609 rfl ?_
                                      refine w_iconst rL_step_610 (x := 1) (by decide) ?_
                                      refine xl_iaload rL_step_611 (G_at (by decide) rfl rfl (by unfold vp_in; decide)) (i := 1) (by decide) ?_
                                      refine w_irem rL_step_612 q.1 ?_
                                      replace q := q.2
                                      refine w_invokestatic rL_step_613 rfl rfl rfl (Nat.le_of_ble_eq_true rfl) ⟨trivial, trivial, trivial, trivial, trivial, trivial, trivial, trivial⟩ trivial (by decide) (by decide) ?_
                                      exact q
                                · replace q := q.2 h20_15
                                  refine ⟨fun h20_16 => ?_, fun h20_16 => ?_⟩
                                  · replace q := q.1 h20_16
                                    refine w_aload_n rL_step_585 rfl ?_
                                    refine w_iconst rL_step_586 (x := 1) (by decide) ?_
                                    refine xl_iaload rL_step_587 (G_at (by decide) rfl rfl (by unfold vp_in; decide)) (i := 1) (by decide) ?_
                                    refine w_ifeq rL_step_588 (fun h588 => ?_) (fun h588 => ?_)
                                    · replace q := q.1 h588
                                      refine w_iconst rL_step_619 (x := 1) (by decide) ?_
                                      refine w_goto rL_step_620 ?_
                                      refine w_ireturn rL_step_624 (Or.inr rfl) ?_
                                      exact q
                                    · replace q := q.2 h588
                                      refine w_aload_n rL_step_591 rfl ?_
                                      refine w_iconst rL_step_592 (x := 2) (by decide) ?_
                                      refine xl_iaload rL_step_593 (G_at (by decide) rfl rfl (by unfold vp_in; decide)) (i := 2) (by decide) ?_
                                      refine w_bipush rL_step_594 (x := 12) (by decide) ?_
                                      refine w_icmpeq rL_step_596 (fun h596 => ?_) (fun h596 => ?_)
                                      · replace q := q.1 h596
                                        refine w_iconst rL_step_619 (x := 1) (by decide) ?_
                                        refine w_goto rL_step_620 ?_
                                        refine w_ireturn rL_step_624 (Or.inr rfl) ?_
                                        exact q
                                      · replace q := q.2 h596
                                        refine w_aload_n rL_step_599 rfl ?_
                                        refine w_aload_n rL_step_600 rfl ?_
                                        refine w_aload_n rL_step_601 rfl ?_
                                        refine w_aload_n rL_step_602 rfl ?_
                                        refine w_aload rL_step_603 rfl ?_
                                        refine w_iload rL_step_605 rfl ?_
                                        refine w_iload rL_step_607 rfl ?_
                                        refine w_aload_n rL_step_609 rfl ?_
                                        refine w_iconst rL_step_610 (x := 1) (by decide) ?_
                                        refine xl_iaload rL_step_611 (G_at (by decide) rfl rfl (by unfold vp_in; decide)) (i := 1) (by decide) ?_
                                        refine w_irem rL_step_612 q.1 ?_
                                        replace q := q.2
                                        refine w_invokestatic rL_step_613 rfl rfl rfl (Nat.le_of_ble_eq_true rfl) ⟨trivial, trivial, trivial, trivial, trivial, trivial, trivial, trivial⟩ trivial (by decide) (by decide) ?_
                                        exact q
                                  · replace q := q.2 h20_16
                                    refine w_aload_n rL_step_625 rfl ?_
                                    refine w_iconst rL_step_626 (x := 0) (by decide) ?_
                                    refine xl_iaload rL_step_627 (G_at (by decide) rfl rfl (by unfold vp_in; decide)) (i := 0) (by decide) ?_
                                    refine w_sipush rL_step_628 (x := 190) (by decide) ?_
                                    refine w_icmpgt rL_step_631 (fun h631 => ?_) (fun h631 => ?_)
                                    · replace q := q.1 h631
                                      refine w_iconst rL_step_650 (x := 1) (by decide) ?_
                                      refine w_goto rL_step_651 ?_
                                      refine w_ireturn rL_step_655 (Or.inr rfl) ?_
                                      exact q
                                    · replace q := q.2 h631
                                      refine w_aload_n rL_step_634 rfl ?_
                                      refine w_aload_n rL_step_635 rfl ?_
                                      refine w_aload rL_step_636 rfl ?_
                                      refine w_iconst rL_step_638 (x := 1) (by decide) ?_
                                      refine w_iload rL_step_639 rfl ?_
                                      refine w_iconst rL_step_641 (x := 4) (by decide) ?_
                                      refine w_irem rL_step_642 (by decide) ?_
                                      refine w_iadd rL_step_643 ?_
                                      refine w_invokestatic rL_step_644 rfl rfl rfl (Nat.le_of_ble_eq_true rfl) ⟨trivial, trivial, trivial, trivial, trivial⟩ trivial (by decide) (by decide) ?_
                                      exact q
theorem k_L_step_125 {X : Nat × (Nat × (Nat → Int32))} {I : Nat → Nat → Int32} {L : Nat → Nat → Int64} {F : Nat → Nat → UInt32} {Q : AQ} {c s : Nat} {x5 : Int32} {x6 : Int32} {x7 : Int32} {x8 : Int32} {x9 : Int32} {e0 : Int32} (q : ∀ s125_0 : Int32, s125_0 = (if e0 = 0 then 0 else 1 : Int32) → ((s125_0 = 0 ∨ s125_0 = 1) ∧ (Q (.inl (some (.int s125_0))) (G X I L F)))) : WP mL_step 125 [some (.ref 0), some (.ref 498), some (.ref 499), some (.ref 500), some (.ref 501), some (.int x5), some (.int x6), some (.int x7), some (.int x8), some (.int x9), none, none, none] [.int e0] (G X I L F) c s Q := by
  have j125 : ∀ s125_0 : Int32, s125_0 = (if e0 = 0 then 0 else 1 : Int32) → WP mL_step 133 [some (.ref 0), some (.ref 498), some (.ref 499), some (.ref 500), some (.ref 501), some (.int x5), some (.int x6), some (.int x7), some (.int x8), some (.int x9), none, none, none] [.int s125_0] (G X I L F) c s Q := by
    intro s125_0 es125_0
    replace q := q s125_0 es125_0
    have z133 := q.1
    replace q := q.2
    refine w_ireturn rL_step_133 z133 ?_
    exact q
  refine w_ifeq rL_step_125 (fun h125 => ?_) (fun h125 => ?_)
  · skip
    refine w_iconst rL_step_132 (x := 0) (by decide) ?_
    exact j125 _ (if_pos h125).symm
  · skip
    refine w_iconst rL_step_128 (x := 1) (by decide) ?_
    refine w_goto rL_step_129 ?_
    exact j125 _ (if_neg h125).symm
theorem k_L_step_142 {X : Nat × (Nat × (Nat → Int32))} {I : Nat → Nat → Int32} {L : Nat → Nat → Int64} {F : Nat → Nat → UInt32} {Q : AQ} {c s : Nat} {x5 : Int32} {x6 : Int32} {x7 : Int32} {x8 : Int32} {x9 : Int32} {e0 : Int32} (q : (e0 = 0 ∨ e0 = 1) ∧ (Q (.inl (some (.int e0))) (G X I L F))) : WP mL_step 142 [some (.ref 0), some (.ref 498), some (.ref 499), some (.ref 500), some (.ref 501), some (.int x5), some (.int x6), some (.int x7), some (.int x8), some (.int x9), none, none, none] [.int e0] (G X I L F) c s Q := by
  have z142 := q.1
  replace q := q.2
  refine w_ireturn rL_step_142 z142 ?_
  exact q
theorem k_L_step_156 {X : Nat × (Nat × (Nat → Int32))} {I : Nat → Nat → Int32} {L : Nat → Nat → Int64} {F : Nat → Nat → UInt32} {Q : AQ} {c s : Nat} {x5 : Int32} {x6 : Int32} {x7 : Int32} {x8 : Int32} {x9 : Int32} {x10 : Int32} {e0 : Int32} (q : ((x7 - x7 / 3 * 3) ≤ 0 → (c + 1 ≤ 500 ∧ s + 6 ≤ 3200) ∧ (WP mL_ofRetire 0 (am_ent 3 [.ref 0, .int x10]) [] (G X I L F) 0 0 (am_kq mL_step 184 [some (.ref 0), some (.ref 498), some (.ref 499), some (.ref 500), some (.ref 501), some (.int x5), some (.int x6), some (.int x7), some (.int x8), some (.int x9), some (.int x10), some (.int e0), none] [] (c + 1) (s + 6) Q))) ∧ (¬ (x7 - x7 / 3 * 3) ≤ 0 → ∀ s170_0 : Int32, s170_0 = (if (I 498 3) ≤ e0 then 0 else 1 : Int32) → ((s170_0 = 0 ∨ s170_0 = 1) ∧ (Q (.inl (some (.int s170_0))) (G X I L F))))) : WP mL_step 156 [some (.ref 0), some (.ref 498), some (.ref 499), some (.ref 500), some (.ref 501), some (.int x5), some (.int x6), some (.int x7), some (.int x8), some (.int x9), some (.int x10), none, none] [.int e0] (G X I L F) c s Q := by
  refine w_istore rL_step_156 rfl trivial ?_
  refine w_iload rL_step_158 rfl ?_
  refine w_iconst rL_step_160 (x := 3) (by decide) ?_
  refine w_irem rL_step_161 (by decide) ?_
  refine w_ifle rL_step_162 (fun h162 => ?_) (fun h162 => ?_)
  · replace q := q.1 h162
    refine w_aload_n rL_step_181 rfl ?_
    refine w_iload rL_step_182 rfl ?_
    refine w_invokestatic rL_step_184 rfl rfl rfl (Nat.le_of_ble_eq_true rfl) ⟨trivial, trivial, trivial⟩ trivial q.1.1 q.1.2 ?_
    replace q := q.2
    exact q
  · replace q := q.2 h162
    refine w_iload rL_step_165 rfl ?_
    refine w_aload_n rL_step_167 rfl ?_
    refine w_iconst rL_step_168 (x := 3) (by decide) ?_
    refine xl_iaload rL_step_169 (G_at (by decide) rfl rfl (by unfold vp_in; decide)) (i := 3) (by decide) ?_
    have j170 : ∀ s170_0 : Int32, s170_0 = (if (I 498 3) ≤ e0 then 0 else 1 : Int32) → WP mL_step 217 [some (.ref 0), some (.ref 498), some (.ref 499), some (.ref 500), some (.ref 501), some (.int x5), some (.int x6), some (.int x7), some (.int x8), some (.int x9), some (.int x10), some (.int e0), none] [.int s170_0] (G X I L F) c s Q := by
      intro s170_0 es170_0
      replace q := q s170_0 es170_0
      have z217 := q.1
      replace q := q.2
      refine w_ireturn rL_step_217 z217 ?_
      exact q
    refine w_icmpge rL_step_170 (fun h170 => ?_) (fun h170 => ?_)
    · skip
      refine w_iconst rL_step_177 (x := 0) (by decide) ?_
      refine w_goto rL_step_178 ?_
      exact j170 _ (if_pos h170).symm
    · skip
      refine w_iconst rL_step_173 (x := 1) (by decide) ?_
      refine w_goto rL_step_174 ?_
      exact j170 _ (if_neg h170).symm
theorem k_L_step_187 {X : Nat × (Nat × (Nat → Int32))} {I : Nat → Nat → Int32} {L : Nat → Nat → Int64} {F : Nat → Nat → UInt32} {Q : AQ} {c s : Nat} {x5 : Int32} {x6 : Int32} {x7 : Int32} {x8 : Int32} {x9 : Int32} {x10 : Int32} {x11 : Int32} {e0 : Int32} (q : (x11 = (-1) → ∀ s209_0 : Int32, s209_0 = (if e0 = (-2) then 1 else 0 : Int32) → ((s209_0 = 0 ∨ s209_0 = 1) ∧ (Q (.inl (some (.int s209_0))) (G X I L F)))) ∧ (¬ x11 = (-1) → (c + 30 ≤ 500 ∧ s + 180 ≤ 3200) ∧ (WP mL_isNamed 0 (am_ent 4 [.ref 0, .int x10]) [] (G X I L F) 0 0 (am_kq mL_step 196 [some (.ref 0), some (.ref 498), some (.ref 499), some (.ref 500), some (.ref 501), some (.int x5), some (.int x6), some (.int x7), some (.int x8), some (.int x9), some (.int x10), some (.int x11), none] [.int e0] (c + 30) (s + 180) Q)))) : WP mL_step 187 [some (.ref 0), some (.ref 498), some (.ref 499), some (.ref 500), some (.ref 501), some (.int x5), some (.int x6), some (.int x7), some (.int x8), some (.int x9), some (.int x10), some (.int x11), none] [.int e0] (G X I L F) c s Q := by
  refine w_iload rL_step_187 rfl ?_
  refine w_iconst rL_step_189 (x := -1) (by decide) ?_
  refine w_icmpeq rL_step_190 (fun h190 => ?_) (fun h190 => ?_)
  · replace q := q.1 h190
    refine w_bipush rL_step_202 (x := -2) (by decide) ?_
    refine w_goto rL_step_204 ?_
    have j209 : ∀ s209_0 : Int32, s209_0 = (if e0 = (-2) then 1 else 0 : Int32) → WP mL_step 217 [some (.ref 0), some (.ref 498), some (.ref 499), some (.ref 500), some (.ref 501), some (.int x5), some (.int x6), some (.int x7), some (.int x8), some (.int x9), some (.int x10), some (.int x11), none] [.int s209_0] (G X I L F) c s Q := by
      intro s209_0 es209_0
      replace q := q s209_0 es209_0
      have z217 := q.1
      replace q := q.2
      refine w_ireturn rL_step_217 z217 ?_
      exact q
    refine w_icmpne rL_step_209 (fun h209 => ?_) (fun h209 => ?_)
    · skip
      refine w_iconst rL_step_216 (x := 0) (by decide) ?_
      exact j209 _ (if_neg h209).symm
    · skip
      refine w_iconst rL_step_212 (x := 1) (by decide) ?_
      refine w_goto rL_step_213 ?_
      exact j209 _ (if_pos h209).symm
  · replace q := q.2 h190
    refine w_aload_n rL_step_193 rfl ?_
    refine w_iload rL_step_194 rfl ?_
    refine w_invokestatic rL_step_196 rfl rfl rfl (Nat.le_of_ble_eq_true rfl) ⟨trivial, trivial, trivial⟩ trivial q.1.1 q.1.2 ?_
    replace q := q.2
    exact q
theorem k_L_step_199 {X : Nat × (Nat × (Nat → Int32))} {I : Nat → Nat → Int32} {L : Nat → Nat → Int64} {F : Nat → Nat → UInt32} {Q : AQ} {c s : Nat} {x5 : Int32} {x6 : Int32} {x7 : Int32} {x8 : Int32} {x9 : Int32} {x10 : Int32} {x11 : Int32} {e0 : Int32} {e1 : Int32} (q : ∀ s199_1 : Int32, s199_1 = (if e1 = 0 then x11 else (-2) : Int32) → (∀ s209_0 : Int32, s209_0 = (if e0 = s199_1 then 1 else 0 : Int32) → ((s209_0 = 0 ∨ s209_0 = 1) ∧ (Q (.inl (some (.int s209_0))) (G X I L F))))) : WP mL_step 199 [some (.ref 0), some (.ref 498), some (.ref 499), some (.ref 500), some (.ref 501), some (.int x5), some (.int x6), some (.int x7), some (.int x8), some (.int x9), some (.int x10), some (.int x11), none] [.int e1, .int e0] (G X I L F) c s Q := by
  have j199 : ∀ s199_1 : Int32, s199_1 = (if e1 = 0 then x11 else (-2) : Int32) → WP mL_step 209 [some (.ref 0), some (.ref 498), some (.ref 499), some (.ref 500), some (.ref 501), some (.int x5), some (.int x6), some (.int x7), some (.int x8), some (.int x9), some (.int x10), some (.int x11), none] [.int s199_1, .int e0] (G X I L F) c s Q := by
    intro s199_1 es199_1
    replace q := q s199_1 es199_1
    have j209 : ∀ s209_0 : Int32, s209_0 = (if e0 = s199_1 then 1 else 0 : Int32) → WP mL_step 217 [some (.ref 0), some (.ref 498), some (.ref 499), some (.ref 500), some (.ref 501), some (.int x5), some (.int x6), some (.int x7), some (.int x8), some (.int x9), some (.int x10), some (.int x11), none] [.int s209_0] (G X I L F) c s Q := by
      intro s209_0 es209_0
      replace q := q s209_0 es209_0
      have z217 := q.1
      replace q := q.2
      refine w_ireturn rL_step_217 z217 ?_
      exact q
    refine w_icmpne rL_step_209 (fun h209 => ?_) (fun h209 => ?_)
    · skip
      refine w_iconst rL_step_216 (x := 0) (by decide) ?_
      exact j209 _ (if_neg h209).symm
    · skip
      refine w_iconst rL_step_212 (x := 1) (by decide) ?_
      refine w_goto rL_step_213 ?_
      exact j209 _ (if_pos h209).symm
  refine w_ifeq rL_step_199 (fun h199 => ?_) (fun h199 => ?_)
  · skip
    refine w_iload rL_step_207 rfl ?_
    exact j199 _ (if_pos h199).symm
  · skip
    refine w_bipush rL_step_202 (x := -2) (by decide) ?_
    refine w_goto rL_step_204 ?_
    exact j199 _ (if_neg h199).symm
theorem k_L_step_244 {X : Nat × (Nat × (Nat → Int32))} {I : Nat → Nat → Int32} {L : Nat → Nat → Int64} {F : Nat → Nat → UInt32} {Q : AQ} {c s : Nat} {x5 : Int32} {x6 : Int32} {x7 : Int32} {x8 : Int32} {x9 : Int32} {x12 : Int32} {e0 : Int32} (q : (500 < e0 → Q (.inl (some (.int 0))) (G X I L F)) ∧ (¬ 500 < e0 → (c + 1 ≤ 500 ∧ s + 6 ≤ 3200) ∧ (WP mX9_rain 0 (am_ent 5 [.ref 0, .int (x7 - x7 / 3 * 3), .int x12, .int ((x6 / 60) - (x6 / 60) / 501 * 501)]) [] (G X I L F) 0 0 (am_kq mL_step 266 [some (.ref 0), some (.ref 498), some (.ref 499), some (.ref 500), some (.ref 501), some (.int x5), some (.int x6), some (.int x7), some (.int x8), some (.int x9), none, none, some (.int x12)] [] (c + 1) (s + 6) Q)))) : WP mL_step 244 [some (.ref 0), some (.ref 498), some (.ref 499), some (.ref 500), some (.ref 501), some (.int x5), some (.int x6), some (.int x7), some (.int x8), some (.int x9), none, none, some (.int x12)] [.int e0] (G X I L F) c s Q := by
  refine w_sipush rL_step_244 (x := 500) (by decide) ?_
  refine w_icmpgt rL_step_247 (fun h247 => ?_) (fun h247 => ?_)
  · replace q := q.1 h247
    refine w_iconst rL_step_285 (x := 0) (by decide) ?_
    refine w_ireturn rL_step_286 (Or.inl rfl) ?_
    exact q
  · replace q := q.2 h247
    refine w_aload_n rL_step_250 rfl ?_
    refine w_iload rL_step_251 rfl ?_
    refine w_iconst rL_step_253 (x := 3) (by decide) ?_
    refine w_irem rL_step_254 (by decide) ?_
    refine w_iload rL_step_255 rfl ?_
    refine w_iload rL_step_257 rfl ?_
    refine w_bipush rL_step_259 (x := 60) (by decide) ?_
    refine w_idiv rL_step_261 (by decide) ?_
    refine w_sipush rL_step_262 (x := 501) (by decide) ?_
    refine w_irem rL_step_265 (by decide) ?_
    refine w_invokevirtual rL_step_266 rfl rfl rfl (Nat.le_of_ble_eq_true rfl) ⟨trivial, trivial, trivial, trivial, trivial⟩ (G_is (by decide) rfl) q.1.1 q.1.2 ?_
    replace q := q.2
    exact q
theorem k_L_step_269 {X : Nat × (Nat × (Nat → Int32))} {I : Nat → Nat → Int32} {L : Nat → Nat → Int64} {F : Nat → Nat → UInt32} {Q : AQ} {c s : Nat} {x5 : Int32} {x6 : Int32} {x7 : Int32} {x8 : Int32} {x9 : Int32} {x12 : Int32} {e0 : Int32} (q : ∀ s278_0 : Int32, s278_0 = (if e0 = ((x6 / 60) - (x6 / 60) / 501 * 501) then 1 else 0 : Int32) → ((s278_0 = 0 ∨ s278_0 = 1) ∧ (Q (.inl (some (.int s278_0))) (G X I L F)))) : WP mL_step 269 [some (.ref 0), some (.ref 498), some (.ref 499), some (.ref 500), some (.ref 501), some (.int x5), some (.int x6), some (.int x7), some (.int x8), some (.int x9), none, none, some (.int x12)] [.int e0] (G X I L F) c s Q := by
  refine w_iload rL_step_269 rfl ?_
  refine w_bipush rL_step_271 (x := 60) (by decide) ?_
  refine w_idiv rL_step_273 (by decide) ?_
  refine w_sipush rL_step_274 (x := 501) (by decide) ?_
  refine w_irem rL_step_277 (by decide) ?_
  have j278 : ∀ s278_0 : Int32, s278_0 = (if e0 = ((x6 / 60) - (x6 / 60) / 501 * 501) then 1 else 0 : Int32) → WP mL_step 286 [some (.ref 0), some (.ref 498), some (.ref 499), some (.ref 500), some (.ref 501), some (.int x5), some (.int x6), some (.int x7), some (.int x8), some (.int x9), none, none, some (.int x12)] [.int s278_0] (G X I L F) c s Q := by
    intro s278_0 es278_0
    replace q := q s278_0 es278_0
    have z286 := q.1
    replace q := q.2
    refine w_ireturn rL_step_286 z286 ?_
    exact q
  refine w_icmpne rL_step_278 (fun h278 => ?_) (fun h278 => ?_)
  · skip
    refine w_iconst rL_step_285 (x := 0) (by decide) ?_
    exact j278 _ (if_neg h278).symm
  · skip
    refine w_iconst rL_step_281 (x := 1) (by decide) ?_
    refine w_goto rL_step_282 ?_
    exact j278 _ (if_pos h278).symm
theorem k_L_step_301 {X : Nat × (Nat × (Nat → Int32))} {I : Nat → Nat → Int32} {L : Nat → Nat → Int64} {F : Nat → Nat → UInt32} {Q : AQ} {c s : Nat} {x5 : Int32} {x6 : Int32} {x7 : Int32} {x8 : Int32} {x9 : Int32} {e0 : Int32} (q : ∀ s301_0 : Int32, s301_0 = (if e0 < 0 then 0 else 1 : Int32) → ((s301_0 = 0 ∨ s301_0 = 1) ∧ (Q (.inl (some (.int s301_0))) (G X I L F)))) : WP mL_step 301 [some (.ref 0), some (.ref 498), some (.ref 499), some (.ref 500), some (.ref 501), some (.int x5), some (.int x6), some (.int x7), some (.int x8), some (.int x9), none, none, none] [.int e0] (G X I L F) c s Q := by
  have j301 : ∀ s301_0 : Int32, s301_0 = (if e0 < 0 then 0 else 1 : Int32) → WP mL_step 309 [some (.ref 0), some (.ref 498), some (.ref 499), some (.ref 500), some (.ref 501), some (.int x5), some (.int x6), some (.int x7), some (.int x8), some (.int x9), none, none, none] [.int s301_0] (G X I L F) c s Q := by
    intro s301_0 es301_0
    replace q := q s301_0 es301_0
    have z309 := q.1
    replace q := q.2
    refine w_ireturn rL_step_309 z309 ?_
    exact q
  refine w_iflt rL_step_301 (fun h301 => ?_) (fun h301 => ?_)
  · skip
    refine w_iconst rL_step_308 (x := 0) (by decide) ?_
    exact j301 _ (if_pos h301).symm
  · skip
    refine w_iconst rL_step_304 (x := 1) (by decide) ?_
    refine w_goto rL_step_305 ?_
    exact j301 _ (if_neg h301).symm
theorem k_L_step_359 {X : Nat × (Nat × (Nat → Int32))} {I : Nat → Nat → Int32} {L : Nat → Nat → Int64} {F : Nat → Nat → UInt32} {Q : AQ} {c s : Nat} {x5 : Int32} {x6 : Int32} {x7 : Int32} {x8 : Int32} {x9 : Int32} (q : (c + 1 ≤ 500 ∧ s + 6 ≤ 3200) ∧ (WP mX9_level 0 (am_ent 2 [.ref 0, .int x8]) [] (G X I L F) 0 0 (am_kq mL_step 362 [some (.ref 0), some (.ref 498), some (.ref 499), some (.ref 500), some (.ref 501), some (.int x5), some (.int x6), some (.int x7), some (.int x8), some (.int x9), none, none, none] [] (c + 1) (s + 6) Q))) : WP mL_step 359 [some (.ref 0), some (.ref 498), some (.ref 499), some (.ref 500), some (.ref 501), some (.int x5), some (.int x6), some (.int x7), some (.int x8), some (.int x9), none, none, none] [] (G X I L F) c s Q := by
  refine w_aload_n rL_step_359 rfl ?_
  refine w_iload rL_step_360 rfl ?_
  refine w_invokevirtual rL_step_362 rfl rfl rfl (Nat.le_of_ble_eq_true rfl) ⟨trivial, trivial, trivial⟩ (G_is (by decide) rfl) q.1.1 q.1.2 ?_
  replace q := q.2
  exact q
theorem k_L_step_365 {X : Nat × (Nat × (Nat → Int32))} {I : Nat → Nat → Int32} {L : Nat → Nat → Int64} {F : Nat → Nat → UInt32} {Q : AQ} {c s : Nat} {x5 : Int32} {x6 : Int32} {x7 : Int32} {x8 : Int32} {x9 : Int32} {e0 : Int32} (q : (e0 = 0 → (c + 1 ≤ 500 ∧ s + 6 ≤ 3200) ∧ (WP mX9_trust 0 (am_ent 2 [.ref 0, .int x8]) [] (G X I L F) 0 0 (am_kq mL_step 371 [some (.ref 0), some (.ref 498), some (.ref 499), some (.ref 500), some (.ref 501), some (.int x5), some (.int x6), some (.int x7), some (.int x8), some (.int x9), none, none, none] [] (c + 1) (s + 6) Q))) ∧ (¬ e0 = 0 → Q (.inl (some (.int 0))) (G X I L F))) : WP mL_step 365 [some (.ref 0), some (.ref 498), some (.ref 499), some (.ref 500), some (.ref 501), some (.int x5), some (.int x6), some (.int x7), some (.int x8), some (.int x9), none, none, none] [.int e0] (G X I L F) c s Q := by
  refine w_ifne rL_step_365 (fun h365 => ?_) (fun h365 => ?_)
  · replace q := q.2 h365
    refine w_iconst rL_step_383 (x := 0) (by decide) ?_
    refine w_ireturn rL_step_384 (Or.inl rfl) ?_
    exact q
  · replace q := q.1 h365
    refine w_aload_n rL_step_368 rfl ?_
    refine w_iload rL_step_369 rfl ?_
    refine w_invokevirtual rL_step_371 rfl rfl rfl (Nat.le_of_ble_eq_true rfl) ⟨trivial, trivial, trivial⟩ (G_is (by decide) rfl) q.1.1 q.1.2 ?_
    replace q := q.2
    exact q
theorem k_L_step_374 {X : Nat × (Nat × (Nat → Int32))} {I : Nat → Nat → Int32} {L : Nat → Nat → Int64} {F : Nat → Nat → UInt32} {Q : AQ} {c s : Nat} {x5 : Int32} {x6 : Int32} {x7 : Int32} {x8 : Int32} {x9 : Int32} {e0 : Int32} (q : ∀ s376_0 : Int32, s376_0 = (if e0 = 1065353216 then 1 else 0 : Int32) → ((s376_0 = 0 ∨ s376_0 = 1) ∧ (Q (.inl (some (.int s376_0))) (G X I L F)))) : WP mL_step 374 [some (.ref 0), some (.ref 498), some (.ref 499), some (.ref 500), some (.ref 501), some (.int x5), some (.int x6), some (.int x7), some (.int x8), some (.int x9), none, none, none] [.int e0] (G X I L F) c s Q := by
  refine w_ldcI rL_step_374 (x := 1065353216) (by decide) ?_
  have j376 : ∀ s376_0 : Int32, s376_0 = (if e0 = 1065353216 then 1 else 0 : Int32) → WP mL_step 384 [some (.ref 0), some (.ref 498), some (.ref 499), some (.ref 500), some (.ref 501), some (.int x5), some (.int x6), some (.int x7), some (.int x8), some (.int x9), none, none, none] [.int s376_0] (G X I L F) c s Q := by
    intro s376_0 es376_0
    replace q := q s376_0 es376_0
    have z384 := q.1
    replace q := q.2
    refine w_ireturn rL_step_384 z384 ?_
    exact q
  refine w_icmpne rL_step_376 (fun h376 => ?_) (fun h376 => ?_)
  · skip
    refine w_iconst rL_step_383 (x := 0) (by decide) ?_
    exact j376 _ (if_neg h376).symm
  · skip
    refine w_iconst rL_step_379 (x := 1) (by decide) ?_
    refine w_goto rL_step_380 ?_
    exact j376 _ (if_pos h376).symm
theorem k_L_step_402 {X : Nat × (Nat × (Nat → Int32))} {I : Nat → Nat → Int32} {L : Nat → Nat → Int64} {F : Nat → Nat → UInt32} {Q : AQ} {c s : Nat} {x5 : Int32} {x6 : Int32} {x7 : Int32} {x8 : Int32} {x9 : Int32} {e0 : Int32} (q : ∀ s402_0 : Int32, s402_0 = (if e0 = 0 then 0 else 1 : Int32) → ((s402_0 = 0 ∨ s402_0 = 1) ∧ (Q (.inl (some (.int s402_0))) (G X I L F)))) : WP mL_step 402 [some (.ref 0), some (.ref 498), some (.ref 499), some (.ref 500), some (.ref 501), some (.int x5), some (.int x6), some (.int x7), some (.int x8), some (.int x9), none, none, none] [.int e0] (G X I L F) c s Q := by
  have j402 : ∀ s402_0 : Int32, s402_0 = (if e0 = 0 then 0 else 1 : Int32) → WP mL_step 410 [some (.ref 0), some (.ref 498), some (.ref 499), some (.ref 500), some (.ref 501), some (.int x5), some (.int x6), some (.int x7), some (.int x8), some (.int x9), none, none, none] [.int s402_0] (G X I L F) c s Q := by
    intro s402_0 es402_0
    replace q := q s402_0 es402_0
    have z410 := q.1
    replace q := q.2
    refine w_ireturn rL_step_410 z410 ?_
    exact q
  refine w_ifeq rL_step_402 (fun h402 => ?_) (fun h402 => ?_)
  · skip
    refine w_iconst rL_step_409 (x := 0) (by decide) ?_
    exact j402 _ (if_pos h402).symm
  · skip
    refine w_iconst rL_step_405 (x := 1) (by decide) ?_
    refine w_goto rL_step_406 ?_
    exact j402 _ (if_neg h402).symm
theorem k_L_step_424 {X : Nat × (Nat × (Nat → Int32))} {I : Nat → Nat → Int32} {L : Nat → Nat → Int64} {F : Nat → Nat → UInt32} {Q : AQ} {c s : Nat} {x5 : Int32} {x6 : Int32} {x7 : Int32} {x8 : Int32} {x9 : Int32} {e0 : Int32} (q : ∀ s424_0 : Int32, s424_0 = (if e0 = 0 then 1 else 0 : Int32) → ((s424_0 = 0 ∨ s424_0 = 1) ∧ (Q (.inl (some (.int s424_0))) (G X I L F)))) : WP mL_step 424 [some (.ref 0), some (.ref 498), some (.ref 499), some (.ref 500), some (.ref 501), some (.int x5), some (.int x6), some (.int x7), some (.int x8), some (.int x9), none, none, none] [.int e0] (G X I L F) c s Q := by
  have j424 : ∀ s424_0 : Int32, s424_0 = (if e0 = 0 then 1 else 0 : Int32) → WP mL_step 432 [some (.ref 0), some (.ref 498), some (.ref 499), some (.ref 500), some (.ref 501), some (.int x5), some (.int x6), some (.int x7), some (.int x8), some (.int x9), none, none, none] [.int s424_0] (G X I L F) c s Q := by
    intro s424_0 es424_0
    replace q := q s424_0 es424_0
    have z432 := q.1
    replace q := q.2
    refine w_ireturn rL_step_432 z432 ?_
    exact q
  refine w_ifne rL_step_424 (fun h424 => ?_) (fun h424 => ?_)
  · skip
    refine w_iconst rL_step_431 (x := 0) (by decide) ?_
    exact j424 _ (if_neg h424).symm
  · skip
    refine w_iconst rL_step_427 (x := 1) (by decide) ?_
    refine w_goto rL_step_428 ?_
    exact j424 _ (if_pos h424).symm
theorem k_L_step_489 {X : Nat × (Nat × (Nat → Int32))} {I : Nat → Nat → Int32} {L : Nat → Nat → Int64} {F : Nat → Nat → UInt32} {Q : AQ} {c s : Nat} {x5 : Int32} {x6 : Int32} {x7 : Int32} {x8 : Int32} {x9 : Int32} (q : Q (.inl (some (.int 1))) (G X I L F)) : WP mL_step 489 [some (.ref 0), some (.ref 498), some (.ref 499), some (.ref 500), some (.ref 501), some (.int x5), some (.int x6), some (.int x7), some (.int x8), some (.int x9), none, none, none] [] (G X I L F) c s Q := by
  refine w_iconst rL_step_489 (x := 1) (by decide) ?_
  refine w_ireturn rL_step_490 (Or.inr rfl) ?_
  exact q
theorem k_L_step_508 {X : Nat × (Nat × (Nat → Int32))} {I : Nat → Nat → Int32} {L : Nat → Nat → Int64} {F : Nat → Nat → UInt32} {Q : AQ} {c s : Nat} {x5 : Int32} {x6 : Int32} {x7 : Int32} {x8 : Int32} {x9 : Int32} {e0 : Int32} (q : (e0 = (-1) → Q (.inl (some (.int 1))) (G X I L F)) ∧ (¬ e0 = (-1) → (150 < (I 498 0) → Q (.inl (some (.int 1))) (G X I L F)) ∧ (¬ 150 < (I 498 0) → (c + 100 ≤ 500 ∧ s + 600 ≤ 3200) ∧ (WP mL_runs 0 (am_ent 7 [.ref 0, .ref 498, .ref 500, .int (x6 - x6 / 6 * 6), .int (1 + (x7 - x7 / 48 * 48))]) [] (G X I L F) 0 0 (am_kq mL_step 536 [some (.ref 0), some (.ref 498), some (.ref 499), some (.ref 500), some (.ref 501), some (.int x5), some (.int x6), some (.int x7), some (.int x8), some (.int x9), none, none, none] [] (c + 100) (s + 600) Q))))) : WP mL_step 508 [some (.ref 0), some (.ref 498), some (.ref 499), some (.ref 500), some (.ref 501), some (.int x5), some (.int x6), some (.int x7), some (.int x8), some (.int x9), none, none, none] [.int e0] (G X I L F) c s Q := by
  refine w_iconst rL_step_508 (x := -1) (by decide) ?_
  refine w_icmpeq rL_step_509 (fun h509 => ?_) (fun h509 => ?_)
  · replace q := q.1 h509
    refine w_iconst rL_step_542 (x := 1) (by decide) ?_
    refine w_goto rL_step_543 ?_
    refine w_ireturn rL_step_547 (Or.inr rfl) ?_
    exact q
  · replace q := q.2 h509
    refine w_aload_n rL_step_512 rfl ?_
    refine w_iconst rL_step_513 (x := 0) (by decide) ?_
    refine xl_iaload rL_step_514 (G_at (by decide) rfl rfl (by unfold vp_in; decide)) (i := 0) (by decide) ?_
    refine w_sipush rL_step_515 (x := 150) (by decide) ?_
    refine w_icmpgt rL_step_518 (fun h518 => ?_) (fun h518 => ?_)
    · replace q := q.1 h518
      refine w_iconst rL_step_542 (x := 1) (by decide) ?_
      refine w_goto rL_step_543 ?_
      refine w_ireturn rL_step_547 (Or.inr rfl) ?_
      exact q
    · replace q := q.2 h518
      refine w_aload_n rL_step_521 rfl ?_
      refine w_aload_n rL_step_522 rfl ?_
      refine w_aload_n rL_step_523 rfl ?_
      refine w_iload rL_step_524 rfl ?_
      refine w_bipush rL_step_526 (x := 6) (by decide) ?_
      refine w_irem rL_step_528 (by decide) ?_
      refine w_iconst rL_step_529 (x := 1) (by decide) ?_
      refine w_iload rL_step_530 rfl ?_
      refine w_bipush rL_step_532 (x := 48) (by decide) ?_
      refine w_irem rL_step_534 (by decide) ?_
      refine w_iadd rL_step_535 ?_
      refine w_invokestatic rL_step_536 rfl rfl rfl (Nat.le_of_ble_eq_true rfl) ⟨trivial, trivial, trivial, trivial, trivial, trivial⟩ trivial q.1.1 q.1.2 ?_
      replace q := q.2
      exact q
theorem k_L_step_539 {X : Nat × (Nat × (Nat → Int32))} {I : Nat → Nat → Int32} {L : Nat → Nat → Int64} {F : Nat → Nat → UInt32} {Q : AQ} {c s : Nat} {x5 : Int32} {x6 : Int32} {x7 : Int32} {x8 : Int32} {x9 : Int32} {e0 : Int32} (q : ∀ s539_0 : Int32, s539_0 = (if e0 = 0 then 0 else 1 : Int32) → ((s539_0 = 0 ∨ s539_0 = 1) ∧ (Q (.inl (some (.int s539_0))) (G X I L F)))) : WP mL_step 539 [some (.ref 0), some (.ref 498), some (.ref 499), some (.ref 500), some (.ref 501), some (.int x5), some (.int x6), some (.int x7), some (.int x8), some (.int x9), none, none, none] [.int e0] (G X I L F) c s Q := by
  have j539 : ∀ s539_0 : Int32, s539_0 = (if e0 = 0 then 0 else 1 : Int32) → WP mL_step 547 [some (.ref 0), some (.ref 498), some (.ref 499), some (.ref 500), some (.ref 501), some (.int x5), some (.int x6), some (.int x7), some (.int x8), some (.int x9), none, none, none] [.int s539_0] (G X I L F) c s Q := by
    intro s539_0 es539_0
    replace q := q s539_0 es539_0
    have z547 := q.1
    replace q := q.2
    refine w_ireturn rL_step_547 z547 ?_
    exact q
  refine w_ifeq rL_step_539 (fun h539 => ?_) (fun h539 => ?_)
  · skip
    refine w_iconst rL_step_546 (x := 0) (by decide) ?_
    exact j539 _ (if_pos h539).symm
  · skip
    refine w_iconst rL_step_542 (x := 1) (by decide) ?_
    refine w_goto rL_step_543 ?_
    exact j539 _ (if_neg h539).symm
theorem k_L_step_576 {X : Nat × (Nat × (Nat → Int32))} {I : Nat → Nat → Int32} {L : Nat → Nat → Int64} {F : Nat → Nat → UInt32} {Q : AQ} {c s : Nat} {x5 : Int32} {x6 : Int32} {x7 : Int32} {x8 : Int32} {x9 : Int32} {e0 : Int32} (q : ∀ s576_0 : Int32, s576_0 = (if e0 = 0 then 0 else 1 : Int32) → ((s576_0 = 0 ∨ s576_0 = 1) ∧ (Q (.inl (some (.int s576_0))) (G X I L F)))) : WP mL_step 576 [some (.ref 0), some (.ref 498), some (.ref 499), some (.ref 500), some (.ref 501), some (.int x5), some (.int x6), some (.int x7), some (.int x8), some (.int x9), none, none, none] [.int e0] (G X I L F) c s Q := by
  have j576 : ∀ s576_0 : Int32, s576_0 = (if e0 = 0 then 0 else 1 : Int32) → WP mL_step 584 [some (.ref 0), some (.ref 498), some (.ref 499), some (.ref 500), some (.ref 501), some (.int x5), some (.int x6), some (.int x7), some (.int x8), some (.int x9), none, none, none] [.int s576_0] (G X I L F) c s Q := by
    intro s576_0 es576_0
    replace q := q s576_0 es576_0
    have z584 := q.1
    replace q := q.2
    refine w_ireturn rL_step_584 z584 ?_
    exact q
  refine w_ifeq rL_step_576 (fun h576 => ?_) (fun h576 => ?_)
  · skip
    refine w_iconst rL_step_583 (x := 0) (by decide) ?_
    exact j576 _ (if_pos h576).symm
  · skip
    refine w_iconst rL_step_579 (x := 1) (by decide) ?_
    refine w_goto rL_step_580 ?_
    exact j576 _ (if_neg h576).symm
theorem k_L_step_616 {X : Nat × (Nat × (Nat → Int32))} {I : Nat → Nat → Int32} {L : Nat → Nat → Int64} {F : Nat → Nat → UInt32} {Q : AQ} {c s : Nat} {x5 : Int32} {x6 : Int32} {x7 : Int32} {x8 : Int32} {x9 : Int32} {e0 : Int32} (q : ∀ s616_0 : Int32, s616_0 = (if e0 = 0 then 0 else 1 : Int32) → ((s616_0 = 0 ∨ s616_0 = 1) ∧ (Q (.inl (some (.int s616_0))) (G X I L F)))) : WP mL_step 616 [some (.ref 0), some (.ref 498), some (.ref 499), some (.ref 500), some (.ref 501), some (.int x5), some (.int x6), some (.int x7), some (.int x8), some (.int x9), none, none, none] [.int e0] (G X I L F) c s Q := by
  have j616 : ∀ s616_0 : Int32, s616_0 = (if e0 = 0 then 0 else 1 : Int32) → WP mL_step 624 [some (.ref 0), some (.ref 498), some (.ref 499), some (.ref 500), some (.ref 501), some (.int x5), some (.int x6), some (.int x7), some (.int x8), some (.int x9), none, none, none] [.int s616_0] (G X I L F) c s Q := by
    intro s616_0 es616_0
    replace q := q s616_0 es616_0
    have z624 := q.1
    replace q := q.2
    refine w_ireturn rL_step_624 z624 ?_
    exact q
  refine w_ifeq rL_step_616 (fun h616 => ?_) (fun h616 => ?_)
  · skip
    refine w_iconst rL_step_623 (x := 0) (by decide) ?_
    exact j616 _ (if_pos h616).symm
  · skip
    refine w_iconst rL_step_619 (x := 1) (by decide) ?_
    refine w_goto rL_step_620 ?_
    exact j616 _ (if_neg h616).symm
theorem k_L_step_647 {X : Nat × (Nat × (Nat → Int32))} {I : Nat → Nat → Int32} {L : Nat → Nat → Int64} {F : Nat → Nat → UInt32} {Q : AQ} {c s : Nat} {x5 : Int32} {x6 : Int32} {x7 : Int32} {x8 : Int32} {x9 : Int32} {e0 : Int32} (q : ∀ s647_0 : Int32, s647_0 = (if e0 = 0 then 0 else 1 : Int32) → ((s647_0 = 0 ∨ s647_0 = 1) ∧ (Q (.inl (some (.int s647_0))) (G X I L F)))) : WP mL_step 647 [some (.ref 0), some (.ref 498), some (.ref 499), some (.ref 500), some (.ref 501), some (.int x5), some (.int x6), some (.int x7), some (.int x8), some (.int x9), none, none, none] [.int e0] (G X I L F) c s Q := by
  have j647 : ∀ s647_0 : Int32, s647_0 = (if e0 = 0 then 0 else 1 : Int32) → WP mL_step 655 [some (.ref 0), some (.ref 498), some (.ref 499), some (.ref 500), some (.ref 501), some (.int x5), some (.int x6), some (.int x7), some (.int x8), some (.int x9), none, none, none] [.int s647_0] (G X I L F) c s Q := by
    intro s647_0 es647_0
    replace q := q s647_0 es647_0
    have z655 := q.1
    replace q := q.2
    refine w_ireturn rL_step_655 z655 ?_
    exact q
  refine w_ifeq rL_step_647 (fun h647 => ?_) (fun h647 => ?_)
  · skip
    refine w_iconst rL_step_654 (x := 0) (by decide) ?_
    exact j647 _ (if_pos h647).symm
  · skip
    refine w_iconst rL_step_650 (x := 1) (by decide) ?_
    refine w_goto rL_step_651 ?_
    exact j647 _ (if_neg h647).symm
theorem k_L_bits_0 {X : Nat × (Nat × (Nat → Int32))} {I : Nat → Nat → Int32} {L : Nat → Nat → Int64} {F : Nat → Nat → UInt32} {Q : AQ} {its : Int32} (q : WP mL_bits 2 [some (.int its), some (.int 0)] [] (G X I L F) 0 0 Q) : WP mL_bits 0 (am_ent 2 [.int its]) [] (G X I L F) 0 0 Q := by
  refine w_iconst rL_bits_0 (x := 0) (by decide) ?_
  refine w_istore_n rL_bits_1 rfl trivial ?_
  exact q
theorem k_L_bits_2 {X : Nat × (Nat × (Nat → Int32))} {I : Nat → Nat → Int32} {L : Nat → Nat → Int64} {F : Nat → Nat → UInt32} {Q : AQ} {c s : Nat} {x0 : Int32} {x1 : Int32} (q : (((x0 : Int32) >>> (x1 &&& 31 : Int32)) ≤ 1 → Q (.inl (some (.int ((((127 + x1) : Int32) <<< (23 &&& 31 : Int32)) + (((x0 : Int32) <<< ((23 - x1) &&& 31 : Int32)) &&& 8388607))))) (G X I L F)) ∧ (¬ ((x0 : Int32) >>> (x1 &&& 31 : Int32)) ≤ 1 → WP mL_bits 2 [some (.int x0), some (.int (x1 + 1))] [] (G X I L F) c s Q)) : WP mL_bits 2 [some (.int x0), some (.int x1)] [] (G X I L F) c s Q := by
  refine w_iload_n rL_bits_2 rfl ?_
  refine w_iload_n rL_bits_3 rfl ?_
  refine w_ishr rL_bits_4 ?_
  refine w_iconst rL_bits_5 (x := 1) (by decide) ?_
  refine w_icmple rL_bits_6 (fun h6 => ?_) (fun h6 => ?_)
  · replace q := q.1 h6
    refine w_bipush rL_bits_15 (x := 127) (by decide) ?_
    refine w_iload_n rL_bits_17 rfl ?_
    refine w_iadd rL_bits_18 ?_
    refine w_bipush rL_bits_19 (x := 23) (by decide) ?_
    refine w_ishl rL_bits_21 ?_
    refine w_iload_n rL_bits_22 rfl ?_
    refine w_bipush rL_bits_23 (x := 23) (by decide) ?_
    refine w_iload_n rL_bits_25 rfl ?_
    refine w_isub rL_bits_26 ?_
    refine w_ishl rL_bits_27 ?_
    refine w_ldcI rL_bits_28 (x := 8388607) (by decide) ?_
    refine w_iand rL_bits_30 ?_
    refine w_iadd rL_bits_31 ?_
    refine w_ireturn rL_bits_32 trivial ?_
    exact q
  · replace q := q.2 h6
    refine w_iinc rL_bits_9 rfl rfl trivial ?_
    refine w_goto rL_bits_12 ?_
    exact q
theorem k_L_types_0 {X : Nat × (Nat × (Nat → Int32))} {I : Nat → Nat → Int32} {L : Nat → Nat → Int64} {F : Nat → Nat → UInt32} {Q : AQ} {n : Nat} {letter : Int32} {isWhole : Int32} (hn : isT X n 1) (q : WP mX9_type 0 (am_ent 2 [.ref 0, .int (UInt32.toInt32 ((Int32.toUInt32 letter) % 65536))]) [] (G X (am_u I n 0 ((I n 0) + 1)) L F) 0 0 (am_kq mL_types 10 [some (.ref 0), some (.ref n), some (.int letter), some (.int isWhole)] [] 1 6 Q)) : WP mL_types 0 (am_ent 4 [.ref 0, .ref n, .int letter, .int isWhole]) [] (G X I L F) 0 0 Q := by
  refine w_aload_n rL_types_0 rfl ?_
  refine w_iconst rL_types_1 (x := 0) (by decide) ?_
  refine w_dup2 rL_types_2 trivial trivial ?_
  refine xl_iaload rL_types_3 (G_att hn (by unfold vp_in; decide)) (i := 0) (by decide) ?_
  refine w_iconst rL_types_4 (x := 1) (by decide) ?_
  refine w_iadd rL_types_5 ?_
  refine xl_iastore rL_types_6 (G_att hn (by unfold vp_in; decide)) (i := 0) (by decide) ?_
  refine w_aload_n rL_types_7 rfl ?_
  refine w_iload_n rL_types_8 rfl ?_
  refine w_i2c rL_types_9 ?_
  refine w_invokevirtual rL_types_10 rfl rfl rfl (Nat.le_of_ble_eq_true rfl) ⟨trivial, trivial, trivial⟩ (G_is (by decide) rfl) (by decide) (by decide) ?_
  exact q
theorem k_L_types_13 {X : Nat × (Nat × (Nat → Int32))} {I : Nat → Nat → Int32} {L : Nat → Nat → Int64} {F : Nat → Nat → UInt32} {Q : AQ} {c s : Nat} {o1 : Nat} {x2 : Int32} {x3 : Int32} {e0 : Int32} (ho1 : isT X o1 1) (q : (e0 = (I o1 0) → (c + 0 ≤ 1 ∧ s + 0 ≤ 6) ∧ (WP mX9_fault 0 (am_ent 2 [.ref 0, .int 0]) [] (G X I L F) 0 0 (am_kq mL_types 21 [some (.ref 0), some (.ref o1), some (.int x2), some (.int x3)] [] (c + 0) (s + 0) Q))) ∧ (¬ e0 = (I o1 0) → Q (.inl (some (.int 0))) (G X I L F))) : WP mL_types 13 [some (.ref 0), some (.ref o1), some (.int x2), some (.int x3)] [.int e0] (G X I L F) c s Q := by
  refine w_aload_n rL_types_13 rfl ?_
  refine w_iconst rL_types_14 (x := 0) (by decide) ?_
  refine xl_iaload rL_types_15 (G_att ho1 (by unfold vp_in; decide)) (i := 0) (by decide) ?_
  refine w_icmpne rL_types_16 (fun h16 => ?_) (fun h16 => ?_)
  · replace q := q.2 h16
    refine w_iconst rL_types_42 (x := 0) (by decide) ?_
    refine w_ireturn rL_types_43 (Or.inl rfl) ?_
    exact q
  · replace q := q.1 h16
    refine w_aload_n rL_types_19 rfl ?_
    refine w_iconst rL_types_20 (x := 0) (by decide) ?_
    refine w_invokevirtual rL_types_21 rfl rfl rfl (Nat.le_of_ble_eq_true rfl) ⟨trivial, trivial, trivial⟩ (G_is (by decide) rfl) q.1.1 q.1.2 ?_
    replace q := q.2
    exact q
theorem k_L_types_24 {X : Nat × (Nat × (Nat → Int32))} {I : Nat → Nat → Int32} {L : Nat → Nat → Int64} {F : Nat → Nat → UInt32} {Q : AQ} {c s : Nat} {o1 : Nat} {x2 : Int32} {x3 : Int32} {e0 : Int32} (ho1 : isT X o1 1) (q : ∀ s25_1 : Int32, s25_1 = (if x3 = 0 then (I o1 0) else (-1) : Int32) → (∀ s35_0 : Int32, s35_0 = (if e0 = s25_1 then 1 else 0 : Int32) → ((s35_0 = 0 ∨ s35_0 = 1) ∧ (Q (.inl (some (.int s35_0))) (G X I L F))))) : WP mL_types 24 [some (.ref 0), some (.ref o1), some (.int x2), some (.int x3)] [.int e0] (G X I L F) c s Q := by
  refine w_iload_n rL_types_24 rfl ?_
  have j25 : ∀ s25_1 : Int32, s25_1 = (if x3 = 0 then (I o1 0) else (-1) : Int32) → WP mL_types 35 [some (.ref 0), some (.ref o1), some (.int x2), some (.int x3)] [.int s25_1, .int e0] (G X I L F) c s Q := by
    intro s25_1 es25_1
    replace q := q s25_1 es25_1
    have j35 : ∀ s35_0 : Int32, s35_0 = (if e0 = s25_1 then 1 else 0 : Int32) → WP mL_types 43 [some (.ref 0), some (.ref o1), some (.int x2), some (.int x3)] [.int s35_0] (G X I L F) c s Q := by
      intro s35_0 es35_0
      replace q := q s35_0 es35_0
      have z43 := q.1
      replace q := q.2
      refine w_ireturn rL_types_43 z43 ?_
      exact q
    refine w_icmpne rL_types_35 (fun h35 => ?_) (fun h35 => ?_)
    · skip
      refine w_iconst rL_types_42 (x := 0) (by decide) ?_
      exact j35 _ (if_neg h35).symm
    · skip
      refine w_iconst rL_types_38 (x := 1) (by decide) ?_
      refine w_goto rL_types_39 ?_
      exact j35 _ (if_pos h35).symm
  refine w_ifeq rL_types_25 (fun h25 => ?_) (fun h25 => ?_)
  · skip
    refine w_aload_n rL_types_32 rfl ?_
    refine w_iconst rL_types_33 (x := 0) (by decide) ?_
    refine xl_iaload rL_types_34 (G_att ho1 (by unfold vp_in; decide)) (i := 0) (by decide) ?_
    exact j25 _ (if_pos h25).symm
  · skip
    refine w_iconst rL_types_28 (x := -1) (by decide) ?_
    refine w_goto rL_types_29 ?_
    exact j25 _ (if_neg h25).symm
theorem k_L_factor_0 {X : Nat × (Nat × (Nat → Int32))} {I : Nat → Nat → Int32} {L : Nat → Nat → Int64} {F : Nat → Nat → UInt32} {Q : AQ} {n : Nat} {model : Int32} {kind : Int32} {which : Int32} {isWhole : Int32} (hn : isT X n 1) (q : (kind = 0 → WP mL_types 0 (am_ent 4 [.ref 0, .ref n, .int (48 + (which - which / 10 * 10)), .int isWhole]) [] (G X I L F) 0 0 (am_kq mL_factor 17 [some (.ref 0), some (.ref n), some (.ref 499), some (.int model), some (.int kind), some (.int which), some (.int isWhole), none] [] 1 6 Q)) ∧ (¬ kind = 0 → (kind = 1 → WP mL_types 0 (am_ent 4 [.ref 0, .ref n, .int 103, .int 0]) [] (G X I L F) 0 0 (am_kq mL_factor 68 [some (.ref 0), some (.ref n), some (.ref 499), some (.int model), some (.int kind), some (.int which), some (.int isWhole), none] [] 1 6 Q)) ∧ (¬ kind = 1 → (kind = 2 → ∀ s109_2 : Int32, s109_2 = (if (which - which / 2 * 2) = 0 then 112 else 104 : Int32) → (WP mL_types 0 (am_ent 4 [.ref 0, .ref n, .int s109_2, .int isWhole]) [] (G X I L F) 0 0 (am_kq mL_factor 121 [some (.ref 0), some (.ref n), some (.ref 499), some (.int model), some (.int kind), some (.int which), some (.int isWhole), none] [] 1 6 Q))) ∧ (¬ kind = 2 → ((¬ model = 0 → (¬ model = 0) ∧ (True))) ∧ (∀ s126_0 : Int32, s126_0 = (if model = 0 then 0 else (which - which / model * model) : Int32) → ((kind = 3 → (model ≤ 0 → WP mL_types 0 (am_ent 4 [.ref 0, .ref n, .int (48 + (which - which / 10 * 10)), .int isWhole]) [] (G X I L F) 0 0 (am_kq mL_factor 218 [some (.ref 0), some (.ref n), some (.ref 499), some (.int model), some (.int kind), some (.int which), some (.int isWhole), some (.int s126_0)] [] 1 6 Q)) ∧ (¬ model ≤ 0 → WP mX9_latest 0 (am_ent 2 [.ref 0, .int s126_0]) [] (G X I L F) 0 0 (am_kq mL_factor 152 [some (.ref 0), some (.ref n), some (.ref 499), some (.int model), some (.int kind), some (.int which), some (.int isWhole), some (.int s126_0)] [] 1 6 Q))) ∧ (¬ kind = 3 → WP mL_types 0 (am_ent 4 [.ref 0, .ref n, .int (48 + (which - which / 10 * 10)), .int isWhole]) [] (G X I L F) 0 0 (am_kq mL_factor 218 [some (.ref 0), some (.ref n), some (.ref 499), some (.int model), some (.int kind), some (.int which), some (.int isWhole), some (.int s126_0)] [] 1 6 Q)))))))) : WP mL_factor 0 (am_ent 8 [.ref 0, .ref n, .ref 499, .int model, .int kind, .int which, .int isWhole]) [] (G X I L F) 0 0 Q := by
  refine w_iload rL_factor_0 rfl ?_
  refine w_ifne rL_factor_2 (fun h2 => ?_) (fun h2 => ?_)
  · replace q := q.2 h2
    refine w_iload rL_factor_57 rfl ?_
    refine w_iconst rL_factor_59 (x := 1) (by decide) ?_
    refine w_icmpne rL_factor_60 (fun h60 => ?_) (fun h60 => ?_)
    · replace q := q.2 h60
      refine w_iload rL_factor_97 rfl ?_
      refine w_iconst rL_factor_99 (x := 2) (by decide) ?_
      refine w_icmpne rL_factor_100 (fun h100 => ?_) (fun h100 => ?_)
      · replace q := q.2 h100
        refine w_iload_n rL_factor_125 rfl ?_
        have j126 : ∀ s126_0 : Int32, s126_0 = (if model = 0 then 0 else (which - which / model * model) : Int32) → WP mL_factor 137 [some (.ref 0), some (.ref n), some (.ref 499), some (.int model), some (.int kind), some (.int which), some (.int isWhole), none] [.int s126_0] (G X I L F) 0 0 Q := by
          intro s126_0 es126_0
          replace q := q.2
          replace q := q s126_0 es126_0
          refine w_istore rL_factor_137 rfl trivial ?_
          refine w_iload rL_factor_139 rfl ?_
          refine w_iconst rL_factor_141 (x := 3) (by decide) ?_
          refine w_icmpne rL_factor_142 (fun h142 => ?_) (fun h142 => ?_)
          · replace q := q.2 h142
            refine w_aload_n rL_factor_206 rfl ?_
            refine w_aload_n rL_factor_207 rfl ?_
            refine w_bipush rL_factor_208 (x := 48) (by decide) ?_
            refine w_iload rL_factor_210 rfl ?_
            refine w_bipush rL_factor_212 (x := 10) (by decide) ?_
            refine w_irem rL_factor_214 (by decide) ?_
            refine w_iadd rL_factor_215 ?_
            refine w_iload rL_factor_216 rfl ?_
            refine w_invokestatic rL_factor_218 rfl rfl rfl (Nat.le_of_ble_eq_true rfl) ⟨trivial, trivial, trivial, trivial, trivial⟩ trivial (by decide) (by decide) ?_
            exact q
          · replace q := q.1 h142
            refine w_iload_n rL_factor_145 rfl ?_
            refine w_ifle rL_factor_146 (fun h146 => ?_) (fun h146 => ?_)
            · replace q := q.1 h146
              refine w_aload_n rL_factor_206 rfl ?_
              refine w_aload_n rL_factor_207 rfl ?_
              refine w_bipush rL_factor_208 (x := 48) (by decide) ?_
              refine w_iload rL_factor_210 rfl ?_
              refine w_bipush rL_factor_212 (x := 10) (by decide) ?_
              refine w_irem rL_factor_214 (by decide) ?_
              refine w_iadd rL_factor_215 ?_
              refine w_iload rL_factor_216 rfl ?_
              refine w_invokestatic rL_factor_218 rfl rfl rfl (Nat.le_of_ble_eq_true rfl) ⟨trivial, trivial, trivial, trivial, trivial⟩ trivial (by decide) (by decide) ?_
              exact q
            · replace q := q.2 h146
              refine w_aload_n rL_factor_149 rfl ?_
              refine w_iload rL_factor_150 rfl ?_
              refine w_invokevirtual rL_factor_152 rfl rfl rfl (Nat.le_of_ble_eq_true rfl) ⟨trivial, trivial, trivial⟩ (G_is (by decide) rfl) (by decide) (by decide) ?_
              exact q
        replace q := q.1
        refine w_ifne rL_factor_126 (fun h126 => ?_) (fun h126 => ?_)
        · replace q := q h126
          refine w_iload rL_factor_133 rfl ?_
          refine w_iload_n rL_factor_135 rfl ?_
          refine w_irem rL_factor_136 q.1 ?_
          replace q := q.2
          exact j126 _ (if_neg h126).symm
        · skip
          refine w_iconst rL_factor_129 (x := 0) (by decide) ?_
          refine w_goto rL_factor_130 ?_
          exact j126 _ (if_pos h126).symm
      · replace q := q.1 h100
        refine w_aload_n rL_factor_103 rfl ?_
        refine w_aload_n rL_factor_104 rfl ?_
        refine w_iload rL_factor_105 rfl ?_
        refine w_iconst rL_factor_107 (x := 2) (by decide) ?_
        refine w_irem rL_factor_108 (by decide) ?_
        have j109 : ∀ s109_2 : Int32, s109_2 = (if (which - which / 2 * 2) = 0 then 112 else 104 : Int32) → WP mL_factor 119 [some (.ref 0), some (.ref n), some (.ref 499), some (.int model), some (.int kind), some (.int which), some (.int isWhole), none] [.int s109_2, .ref n, .ref 0] (G X I L F) 0 0 Q := by
          intro s109_2 es109_2
          replace q := q s109_2 es109_2
          refine w_iload rL_factor_119 rfl ?_
          refine w_invokestatic rL_factor_121 rfl rfl rfl (Nat.le_of_ble_eq_true rfl) ⟨trivial, trivial, trivial, trivial, trivial⟩ trivial (by decide) (by decide) ?_
          exact q
        refine w_ifne rL_factor_109 (fun h109 => ?_) (fun h109 => ?_)
        · skip
          refine w_bipush rL_factor_117 (x := 104) (by decide) ?_
          exact j109 _ (if_neg h109).symm
        · skip
          refine w_bipush rL_factor_112 (x := 112) (by decide) ?_
          refine w_goto rL_factor_114 ?_
          exact j109 _ (if_pos h109).symm
    · replace q := q.1 h60
      refine w_aload_n rL_factor_63 rfl ?_
      refine w_aload_n rL_factor_64 rfl ?_
      refine w_bipush rL_factor_65 (x := 103) (by decide) ?_
      refine w_iconst rL_factor_67 (x := 0) (by decide) ?_
      refine w_invokestatic rL_factor_68 rfl rfl rfl (Nat.le_of_ble_eq_true rfl) ⟨trivial, trivial, trivial, trivial, trivial⟩ trivial (by decide) (by decide) ?_
      exact q
  · replace q := q.1 h2
    refine w_aload_n rL_factor_5 rfl ?_
    refine w_aload_n rL_factor_6 rfl ?_
    refine w_bipush rL_factor_7 (x := 48) (by decide) ?_
    refine w_iload rL_factor_9 rfl ?_
    refine w_bipush rL_factor_11 (x := 10) (by decide) ?_
    refine w_irem rL_factor_13 (by decide) ?_
    refine w_iadd rL_factor_14 ?_
    refine w_iload rL_factor_15 rfl ?_
    refine w_invokestatic rL_factor_17 rfl rfl rfl (Nat.le_of_ble_eq_true rfl) ⟨trivial, trivial, trivial, trivial, trivial⟩ trivial (by decide) (by decide) ?_
    exact q
theorem k_L_factor_20 {X : Nat × (Nat × (Nat → Int32))} {I : Nat → Nat → Int32} {L : Nat → Nat → Int64} {F : Nat → Nat → UInt32} {Q : AQ} {c s : Nat} {o1 : Nat} {x3 : Int32} {x4 : Int32} {x5 : Int32} {x6 : Int32} {e0 : Int32} (ho1 : isT X o1 1) (q : (e0 = 0 → Q (.inl (some (.int 0))) (G X I L F)) ∧ (¬ e0 = 0 → (0 < (x5 - x5 / 3 * 3) → Q (.inl (some (.int 1))) (G X I L F)) ∧ (¬ 0 < (x5 - x5 / 3 * 3) → (c + 1 ≤ 5 ∧ s + 6 ≤ 30) ∧ (WP mL_types 0 (am_ent 4 [.ref 0, .ref o1, .int (48 + ((x5 / 10) - (x5 / 10) / 10 * 10)), .int x6]) [] (G X I L F) 0 0 (am_kq mL_factor 45 [some (.ref 0), some (.ref o1), some (.ref 499), some (.int x3), some (.int x4), some (.int x5), some (.int x6), none] [] (c + 1) (s + 6) Q))))) : WP mL_factor 20 [some (.ref 0), some (.ref o1), some (.ref 499), some (.int x3), some (.int x4), some (.int x5), some (.int x6), none] [.int e0] (G X I L F) c s Q := by
  refine w_ifeq rL_factor_20 (fun h20 => ?_) (fun h20 => ?_)
  · replace q := q.1 h20
    refine w_iconst rL_factor_55 (x := 0) (by decide) ?_
    refine w_ireturn rL_factor_56 (Or.inl rfl) ?_
    exact q
  · replace q := q.2 h20
    refine w_iload rL_factor_23 rfl ?_
    refine w_iconst rL_factor_25 (x := 3) (by decide) ?_
    refine w_irem rL_factor_26 (by decide) ?_
    refine w_ifgt rL_factor_27 (fun h27 => ?_) (fun h27 => ?_)
    · replace q := q.1 h27
      refine w_iconst rL_factor_51 (x := 1) (by decide) ?_
      refine w_goto rL_factor_52 ?_
      refine w_ireturn rL_factor_56 (Or.inr rfl) ?_
      exact q
    · replace q := q.2 h27
      refine w_aload_n rL_factor_30 rfl ?_
      refine w_aload_n rL_factor_31 rfl ?_
      refine w_bipush rL_factor_32 (x := 48) (by decide) ?_
      refine w_iload rL_factor_34 rfl ?_
      refine w_bipush rL_factor_36 (x := 10) (by decide) ?_
      refine w_idiv rL_factor_38 (by decide) ?_
      refine w_bipush rL_factor_39 (x := 10) (by decide) ?_
      refine w_irem rL_factor_41 (by decide) ?_
      refine w_iadd rL_factor_42 ?_
      refine w_iload rL_factor_43 rfl ?_
      refine w_invokestatic rL_factor_45 rfl rfl rfl (Nat.le_of_ble_eq_true rfl) ⟨trivial, trivial, trivial, trivial, trivial⟩ trivial q.1.1 q.1.2 ?_
      replace q := q.2
      exact q
theorem k_L_factor_48 {X : Nat × (Nat × (Nat → Int32))} {I : Nat → Nat → Int32} {L : Nat → Nat → Int64} {F : Nat → Nat → UInt32} {Q : AQ} {c s : Nat} {o1 : Nat} {x3 : Int32} {x4 : Int32} {x5 : Int32} {x6 : Int32} {e0 : Int32} (ho1 : isT X o1 1) (q : ∀ s48_0 : Int32, s48_0 = (if e0 = 0 then 0 else 1 : Int32) → ((s48_0 = 0 ∨ s48_0 = 1) ∧ (Q (.inl (some (.int s48_0))) (G X I L F)))) : WP mL_factor 48 [some (.ref 0), some (.ref o1), some (.ref 499), some (.int x3), some (.int x4), some (.int x5), some (.int x6), none] [.int e0] (G X I L F) c s Q := by
  have j48 : ∀ s48_0 : Int32, s48_0 = (if e0 = 0 then 0 else 1 : Int32) → WP mL_factor 56 [some (.ref 0), some (.ref o1), some (.ref 499), some (.int x3), some (.int x4), some (.int x5), some (.int x6), none] [.int s48_0] (G X I L F) c s Q := by
    intro s48_0 es48_0
    replace q := q s48_0 es48_0
    have z56 := q.1
    replace q := q.2
    refine w_ireturn rL_factor_56 z56 ?_
    exact q
  refine w_ifeq rL_factor_48 (fun h48 => ?_) (fun h48 => ?_)
  · skip
    refine w_iconst rL_factor_55 (x := 0) (by decide) ?_
    exact j48 _ (if_pos h48).symm
  · skip
    refine w_iconst rL_factor_51 (x := 1) (by decide) ?_
    refine w_goto rL_factor_52 ?_
    exact j48 _ (if_neg h48).symm
theorem k_L_factor_71 {X : Nat × (Nat × (Nat → Int32))} {I : Nat → Nat → Int32} {L : Nat → Nat → Int64} {F : Nat → Nat → UInt32} {Q : AQ} {c s : Nat} {o1 : Nat} {x3 : Int32} {x4 : Int32} {x5 : Int32} {x6 : Int32} {e0 : Int32} (ho1 : isT X o1 1) (q : (e0 = 0 → Q (.inl (some (.int 0))) (G X I L F)) ∧ (¬ e0 = 0 → (c + 1 ≤ 5 ∧ s + 6 ≤ 30) ∧ (WP mL_types 0 (am_ent 4 [.ref 0, .ref o1, .int (48 + (x5 - x5 / 3 * 3)), .int x6]) [] (G X I L F) 0 0 (am_kq mL_factor 85 [some (.ref 0), some (.ref o1), some (.ref 499), some (.int x3), some (.int x4), some (.int x5), some (.int x6), none] [] (c + 1) (s + 6) Q)))) : WP mL_factor 71 [some (.ref 0), some (.ref o1), some (.ref 499), some (.int x3), some (.int x4), some (.int x5), some (.int x6), none] [.int e0] (G X I L F) c s Q := by
  refine w_ifeq rL_factor_71 (fun h71 => ?_) (fun h71 => ?_)
  · replace q := q.1 h71
    refine w_iconst rL_factor_95 (x := 0) (by decide) ?_
    refine w_ireturn rL_factor_96 (Or.inl rfl) ?_
    exact q
  · replace q := q.2 h71
    refine w_aload_n rL_factor_74 rfl ?_
    refine w_aload_n rL_factor_75 rfl ?_
    refine w_bipush rL_factor_76 (x := 48) (by decide) ?_
    refine w_iload rL_factor_78 rfl ?_
    refine w_iconst rL_factor_80 (x := 3) (by decide) ?_
    refine w_irem rL_factor_81 (by decide) ?_
    refine w_iadd rL_factor_82 ?_
    refine w_iload rL_factor_83 rfl ?_
    refine w_invokestatic rL_factor_85 rfl rfl rfl (Nat.le_of_ble_eq_true rfl) ⟨trivial, trivial, trivial, trivial, trivial⟩ trivial q.1.1 q.1.2 ?_
    replace q := q.2
    exact q
theorem k_L_factor_88 {X : Nat × (Nat × (Nat → Int32))} {I : Nat → Nat → Int32} {L : Nat → Nat → Int64} {F : Nat → Nat → UInt32} {Q : AQ} {c s : Nat} {o1 : Nat} {x3 : Int32} {x4 : Int32} {x5 : Int32} {x6 : Int32} {e0 : Int32} (ho1 : isT X o1 1) (q : ∀ s88_0 : Int32, s88_0 = (if e0 = 0 then 0 else 1 : Int32) → ((s88_0 = 0 ∨ s88_0 = 1) ∧ (Q (.inl (some (.int s88_0))) (G X I L F)))) : WP mL_factor 88 [some (.ref 0), some (.ref o1), some (.ref 499), some (.int x3), some (.int x4), some (.int x5), some (.int x6), none] [.int e0] (G X I L F) c s Q := by
  have j88 : ∀ s88_0 : Int32, s88_0 = (if e0 = 0 then 0 else 1 : Int32) → WP mL_factor 96 [some (.ref 0), some (.ref o1), some (.ref 499), some (.int x3), some (.int x4), some (.int x5), some (.int x6), none] [.int s88_0] (G X I L F) c s Q := by
    intro s88_0 es88_0
    replace q := q s88_0 es88_0
    have z96 := q.1
    replace q := q.2
    refine w_ireturn rL_factor_96 z96 ?_
    exact q
  refine w_ifeq rL_factor_88 (fun h88 => ?_) (fun h88 => ?_)
  · skip
    refine w_iconst rL_factor_95 (x := 0) (by decide) ?_
    exact j88 _ (if_pos h88).symm
  · skip
    refine w_iconst rL_factor_91 (x := 1) (by decide) ?_
    refine w_goto rL_factor_92 ?_
    exact j88 _ (if_neg h88).symm
theorem k_L_factor_124 {X : Nat × (Nat × (Nat → Int32))} {I : Nat → Nat → Int32} {L : Nat → Nat → Int64} {F : Nat → Nat → UInt32} {Q : AQ} {c s : Nat} {o1 : Nat} {x3 : Int32} {x4 : Int32} {x5 : Int32} {x6 : Int32} {e0 : Int32} (ho1 : isT X o1 1) (q : (e0 = 0 ∨ e0 = 1) ∧ (Q (.inl (some (.int e0))) (G X I L F))) : WP mL_factor 124 [some (.ref 0), some (.ref o1), some (.ref 499), some (.int x3), some (.int x4), some (.int x5), some (.int x6), none] [.int e0] (G X I L F) c s Q := by
  have z124 := q.1
  replace q := q.2
  refine w_ireturn rL_factor_124 z124 ?_
  exact q
theorem k_L_factor_155 {X : Nat × (Nat × (Nat → Int32))} {I : Nat → Nat → Int32} {L : Nat → Nat → Int64} {F : Nat → Nat → UInt32} {Q : AQ} {c s : Nat} {o1 : Nat} {x3 : Int32} {x4 : Int32} {x5 : Int32} {x6 : Int32} {x7 : Int32} {e0 : Int32} (ho1 : isT X o1 1) (q : (e0 = (-1) → (c + 1 ≤ 5 ∧ s + 6 ≤ 30) ∧ (WP mL_types 0 (am_ent 4 [.ref 0, .ref o1, .int (48 + (x5 - x5 / 10 * 10)), .int x6]) [] (G X I L F) 0 0 (am_kq mL_factor 218 [some (.ref 0), some (.ref o1), some (.ref 499), some (.int x3), some (.int x4), some (.int x5), some (.int x6), some (.int x7)] [] (c + 1) (s + 6) Q))) ∧ (¬ e0 = (-1) → ∀ s168_2 : Int32, s168_2 = (if ((x5 / 6) - (x5 / 6) / 2 * 2) = 0 then 109 else 113 : Int32) → ((c + 1 ≤ 5 ∧ s + 6 ≤ 30) ∧ (WP mL_types 0 (am_ent 4 [.ref 0, .ref o1, .int s168_2, .int 0]) [] (G X I L F) 0 0 (am_kq mL_factor 179 [some (.ref 0), some (.ref o1), some (.ref 499), some (.int x3), some (.int x4), some (.int x5), some (.int x6), some (.int x7)] [] (c + 1) (s + 6) Q))))) : WP mL_factor 155 [some (.ref 0), some (.ref o1), some (.ref 499), some (.int x3), some (.int x4), some (.int x5), some (.int x6), some (.int x7)] [.int e0] (G X I L F) c s Q := by
  refine w_iconst rL_factor_155 (x := -1) (by decide) ?_
  refine w_icmpeq rL_factor_156 (fun h156 => ?_) (fun h156 => ?_)
  · replace q := q.1 h156
    refine w_aload_n rL_factor_206 rfl ?_
    refine w_aload_n rL_factor_207 rfl ?_
    refine w_bipush rL_factor_208 (x := 48) (by decide) ?_
    refine w_iload rL_factor_210 rfl ?_
    refine w_bipush rL_factor_212 (x := 10) (by decide) ?_
    refine w_irem rL_factor_214 (by decide) ?_
    refine w_iadd rL_factor_215 ?_
    refine w_iload rL_factor_216 rfl ?_
    refine w_invokestatic rL_factor_218 rfl rfl rfl (Nat.le_of_ble_eq_true rfl) ⟨trivial, trivial, trivial, trivial, trivial⟩ trivial q.1.1 q.1.2 ?_
    replace q := q.2
    exact q
  · replace q := q.2 h156
    refine w_aload_n rL_factor_159 rfl ?_
    refine w_aload_n rL_factor_160 rfl ?_
    refine w_iload rL_factor_161 rfl ?_
    refine w_bipush rL_factor_163 (x := 6) (by decide) ?_
    refine w_idiv rL_factor_165 (by decide) ?_
    refine w_iconst rL_factor_166 (x := 2) (by decide) ?_
    refine w_irem rL_factor_167 (by decide) ?_
    have j168 : ∀ s168_2 : Int32, s168_2 = (if ((x5 / 6) - (x5 / 6) / 2 * 2) = 0 then 109 else 113 : Int32) → WP mL_factor 178 [some (.ref 0), some (.ref o1), some (.ref 499), some (.int x3), some (.int x4), some (.int x5), some (.int x6), some (.int x7)] [.int s168_2, .ref o1, .ref 0] (G X I L F) c s Q := by
      intro s168_2 es168_2
      replace q := q s168_2 es168_2
      refine w_iconst rL_factor_178 (x := 0) (by decide) ?_
      refine w_invokestatic rL_factor_179 rfl rfl rfl (Nat.le_of_ble_eq_true rfl) ⟨trivial, trivial, trivial, trivial, trivial⟩ trivial q.1.1 q.1.2 ?_
      replace q := q.2
      exact q
    refine w_ifne rL_factor_168 (fun h168 => ?_) (fun h168 => ?_)
    · skip
      refine w_bipush rL_factor_176 (x := 113) (by decide) ?_
      exact j168 _ (if_neg h168).symm
    · skip
      refine w_bipush rL_factor_171 (x := 109) (by decide) ?_
      refine w_goto rL_factor_173 ?_
      exact j168 _ (if_pos h168).symm
theorem k_L_factor_182 {X : Nat × (Nat × (Nat → Int32))} {I : Nat → Nat → Int32} {L : Nat → Nat → Int64} {F : Nat → Nat → UInt32} {Q : AQ} {c s : Nat} {o1 : Nat} {x3 : Int32} {x4 : Int32} {x5 : Int32} {x6 : Int32} {x7 : Int32} {e0 : Int32} (ho1 : isT X o1 1) (q : (e0 = 0 → Q (.inl (some (.int 0))) (G X I L F)) ∧ (¬ e0 = 0 → (c + 1 ≤ 5 ∧ s + 6 ≤ 30) ∧ (WP mL_types 0 (am_ent 4 [.ref 0, .ref o1, .int (48 + x7), .int x6]) [] (G X I L F) 0 0 (am_kq mL_factor 194 [some (.ref 0), some (.ref o1), some (.ref 499), some (.int x3), some (.int x4), some (.int x5), some (.int x6), some (.int x7)] [] (c + 1) (s + 6) Q)))) : WP mL_factor 182 [some (.ref 0), some (.ref o1), some (.ref 499), some (.int x3), some (.int x4), some (.int x5), some (.int x6), some (.int x7)] [.int e0] (G X I L F) c s Q := by
  refine w_ifeq rL_factor_182 (fun h182 => ?_) (fun h182 => ?_)
  · replace q := q.1 h182
    refine w_iconst rL_factor_204 (x := 0) (by decide) ?_
    refine w_ireturn rL_factor_205 (Or.inl rfl) ?_
    exact q
  · replace q := q.2 h182
    refine w_aload_n rL_factor_185 rfl ?_
    refine w_aload_n rL_factor_186 rfl ?_
    refine w_bipush rL_factor_187 (x := 48) (by decide) ?_
    refine w_iload rL_factor_189 rfl ?_
    refine w_iadd rL_factor_191 ?_
    refine w_iload rL_factor_192 rfl ?_
    refine w_invokestatic rL_factor_194 rfl rfl rfl (Nat.le_of_ble_eq_true rfl) ⟨trivial, trivial, trivial, trivial, trivial⟩ trivial q.1.1 q.1.2 ?_
    replace q := q.2
    exact q
theorem k_L_factor_197 {X : Nat × (Nat × (Nat → Int32))} {I : Nat → Nat → Int32} {L : Nat → Nat → Int64} {F : Nat → Nat → UInt32} {Q : AQ} {c s : Nat} {o1 : Nat} {x3 : Int32} {x4 : Int32} {x5 : Int32} {x6 : Int32} {x7 : Int32} {e0 : Int32} (ho1 : isT X o1 1) (q : ∀ s197_0 : Int32, s197_0 = (if e0 = 0 then 0 else 1 : Int32) → ((s197_0 = 0 ∨ s197_0 = 1) ∧ (Q (.inl (some (.int s197_0))) (G X I L F)))) : WP mL_factor 197 [some (.ref 0), some (.ref o1), some (.ref 499), some (.int x3), some (.int x4), some (.int x5), some (.int x6), some (.int x7)] [.int e0] (G X I L F) c s Q := by
  have j197 : ∀ s197_0 : Int32, s197_0 = (if e0 = 0 then 0 else 1 : Int32) → WP mL_factor 205 [some (.ref 0), some (.ref o1), some (.ref 499), some (.int x3), some (.int x4), some (.int x5), some (.int x6), some (.int x7)] [.int s197_0] (G X I L F) c s Q := by
    intro s197_0 es197_0
    replace q := q s197_0 es197_0
    have z205 := q.1
    replace q := q.2
    refine w_ireturn rL_factor_205 z205 ?_
    exact q
  refine w_ifeq rL_factor_197 (fun h197 => ?_) (fun h197 => ?_)
  · skip
    refine w_iconst rL_factor_204 (x := 0) (by decide) ?_
    exact j197 _ (if_pos h197).symm
  · skip
    refine w_iconst rL_factor_200 (x := 1) (by decide) ?_
    refine w_goto rL_factor_201 ?_
    exact j197 _ (if_neg h197).symm
theorem k_L_factor_221 {X : Nat × (Nat × (Nat → Int32))} {I : Nat → Nat → Int32} {L : Nat → Nat → Int64} {F : Nat → Nat → UInt32} {Q : AQ} {c s : Nat} {o1 : Nat} {x3 : Int32} {x4 : Int32} {x5 : Int32} {x6 : Int32} {x7 : Int32} {e0 : Int32} (ho1 : isT X o1 1) (q : (e0 = 0 → Q (.inl (some (.int 0))) (G X I L F)) ∧ (¬ e0 = 0 → (c + 1 ≤ 5 ∧ s + 6 ≤ 30) ∧ (WP mL_types 0 (am_ent 4 [.ref 0, .ref o1, .int 46, .int 0]) [] (G X I L F) 0 0 (am_kq mL_factor 229 [some (.ref 0), some (.ref o1), some (.ref 499), some (.int x3), some (.int x4), some (.int x5), some (.int x6), some (.int x7)] [] (c + 1) (s + 6) Q)))) : WP mL_factor 221 [some (.ref 0), some (.ref o1), some (.ref 499), some (.int x3), some (.int x4), some (.int x5), some (.int x6), some (.int x7)] [.int e0] (G X I L F) c s Q := by
  refine w_ifeq rL_factor_221 (fun h221 => ?_) (fun h221 => ?_)
  · replace q := q.1 h221
    refine w_iconst rL_factor_279 (x := 0) (by decide) ?_
    refine w_ireturn rL_factor_280 (Or.inl rfl) ?_
    exact q
  · replace q := q.2 h221
    refine w_aload_n rL_factor_224 rfl ?_
    refine w_aload_n rL_factor_225 rfl ?_
    refine w_bipush rL_factor_226 (x := 46) (by decide) ?_
    refine w_iconst rL_factor_228 (x := 0) (by decide) ?_
    refine w_invokestatic rL_factor_229 rfl rfl rfl (Nat.le_of_ble_eq_true rfl) ⟨trivial, trivial, trivial, trivial, trivial⟩ trivial q.1.1 q.1.2 ?_
    replace q := q.2
    exact q
theorem k_L_factor_232 {X : Nat × (Nat × (Nat → Int32))} {I : Nat → Nat → Int32} {L : Nat → Nat → Int64} {F : Nat → Nat → UInt32} {Q : AQ} {c s : Nat} {o1 : Nat} {x3 : Int32} {x4 : Int32} {x5 : Int32} {x6 : Int32} {x7 : Int32} {e0 : Int32} (ho1 : isT X o1 1) (q : (e0 = 0 → Q (.inl (some (.int 0))) (G X I L F)) ∧ (¬ e0 = 0 → (c + 1 ≤ 5 ∧ s + 6 ≤ 30) ∧ (WP mL_types 0 (am_ent 4 [.ref 0, .ref o1, .int (48 + ((x5 / 10) - (x5 / 10) / 10 * 10)), .int x6]) [] (G X I L F) 0 0 (am_kq mL_factor 250 [some (.ref 0), some (.ref o1), some (.ref 499), some (.int x3), some (.int x4), some (.int x5), some (.int x6), some (.int x7)] [] (c + 1) (s + 6) Q)))) : WP mL_factor 232 [some (.ref 0), some (.ref o1), some (.ref 499), some (.int x3), some (.int x4), some (.int x5), some (.int x6), some (.int x7)] [.int e0] (G X I L F) c s Q := by
  refine w_ifeq rL_factor_232 (fun h232 => ?_) (fun h232 => ?_)
  · replace q := q.1 h232
    refine w_iconst rL_factor_279 (x := 0) (by decide) ?_
    refine w_ireturn rL_factor_280 (Or.inl rfl) ?_
    exact q
  · replace q := q.2 h232
    refine w_aload_n rL_factor_235 rfl ?_
    refine w_aload_n rL_factor_236 rfl ?_
    refine w_bipush rL_factor_237 (x := 48) (by decide) ?_
    refine w_iload rL_factor_239 rfl ?_
    refine w_bipush rL_factor_241 (x := 10) (by decide) ?_
    refine w_idiv rL_factor_243 (by decide) ?_
    refine w_bipush rL_factor_244 (x := 10) (by decide) ?_
    refine w_irem rL_factor_246 (by decide) ?_
    refine w_iadd rL_factor_247 ?_
    refine w_iload rL_factor_248 rfl ?_
    refine w_invokestatic rL_factor_250 rfl rfl rfl (Nat.le_of_ble_eq_true rfl) ⟨trivial, trivial, trivial, trivial, trivial⟩ trivial q.1.1 q.1.2 ?_
    replace q := q.2
    exact q
theorem k_L_factor_253 {X : Nat × (Nat × (Nat → Int32))} {I : Nat → Nat → Int32} {L : Nat → Nat → Int64} {F : Nat → Nat → UInt32} {Q : AQ} {c s : Nat} {o1 : Nat} {x3 : Int32} {x4 : Int32} {x5 : Int32} {x6 : Int32} {x7 : Int32} {e0 : Int32} (ho1 : isT X o1 1) (q : (e0 = 0 → Q (.inl (some (.int 0))) (G X I L F)) ∧ (¬ e0 = 0 → ((x5 - x5 / 2 * 2) = 0 → Q (.inl (some (.int 1))) (G X I L F)) ∧ (¬ (x5 - x5 / 2 * 2) = 0 → (c + 1 ≤ 5 ∧ s + 6 ≤ 30) ∧ (WP mL_types 0 (am_ent 4 [.ref 0, .ref o1, .int 53, .int x6]) [] (G X I L F) 0 0 (am_kq mL_factor 269 [some (.ref 0), some (.ref o1), some (.ref 499), some (.int x3), some (.int x4), some (.int x5), some (.int x6), some (.int x7)] [] (c + 1) (s + 6) Q))))) : WP mL_factor 253 [some (.ref 0), some (.ref o1), some (.ref 499), some (.int x3), some (.int x4), some (.int x5), some (.int x6), some (.int x7)] [.int e0] (G X I L F) c s Q := by
  refine w_ifeq rL_factor_253 (fun h253 => ?_) (fun h253 => ?_)
  · replace q := q.1 h253
    refine w_iconst rL_factor_279 (x := 0) (by decide) ?_
    refine w_ireturn rL_factor_280 (Or.inl rfl) ?_
    exact q
  · replace q := q.2 h253
    refine w_iload rL_factor_256 rfl ?_
    refine w_iconst rL_factor_258 (x := 2) (by decide) ?_
    refine w_irem rL_factor_259 (by decide) ?_
    refine w_ifeq rL_factor_260 (fun h260 => ?_) (fun h260 => ?_)
    · replace q := q.1 h260
      refine w_iconst rL_factor_275 (x := 1) (by decide) ?_
      refine w_goto rL_factor_276 ?_
      refine w_ireturn rL_factor_280 (Or.inr rfl) ?_
      exact q
    · replace q := q.2 h260
      refine w_aload_n rL_factor_263 rfl ?_
      refine w_aload_n rL_factor_264 rfl ?_
      refine w_bipush rL_factor_265 (x := 53) (by decide) ?_
      refine w_iload rL_factor_267 rfl ?_
      refine w_invokestatic rL_factor_269 rfl rfl rfl (Nat.le_of_ble_eq_true rfl) ⟨trivial, trivial, trivial, trivial, trivial⟩ trivial q.1.1 q.1.2 ?_
      replace q := q.2
      exact q
theorem k_L_factor_272 {X : Nat × (Nat × (Nat → Int32))} {I : Nat → Nat → Int32} {L : Nat → Nat → Int64} {F : Nat → Nat → UInt32} {Q : AQ} {c s : Nat} {o1 : Nat} {x3 : Int32} {x4 : Int32} {x5 : Int32} {x6 : Int32} {x7 : Int32} {e0 : Int32} (ho1 : isT X o1 1) (q : ∀ s272_0 : Int32, s272_0 = (if e0 = 0 then 0 else 1 : Int32) → ((s272_0 = 0 ∨ s272_0 = 1) ∧ (Q (.inl (some (.int s272_0))) (G X I L F)))) : WP mL_factor 272 [some (.ref 0), some (.ref o1), some (.ref 499), some (.int x3), some (.int x4), some (.int x5), some (.int x6), some (.int x7)] [.int e0] (G X I L F) c s Q := by
  have j272 : ∀ s272_0 : Int32, s272_0 = (if e0 = 0 then 0 else 1 : Int32) → WP mL_factor 280 [some (.ref 0), some (.ref o1), some (.ref 499), some (.int x3), some (.int x4), some (.int x5), some (.int x6), some (.int x7)] [.int s272_0] (G X I L F) c s Q := by
    intro s272_0 es272_0
    replace q := q s272_0 es272_0
    have z280 := q.1
    replace q := q.2
    refine w_ireturn rL_factor_280 z280 ?_
    exact q
  refine w_ifeq rL_factor_272 (fun h272 => ?_) (fun h272 => ?_)
  · skip
    refine w_iconst rL_factor_279 (x := 0) (by decide) ?_
    exact j272 _ (if_pos h272).symm
  · skip
    refine w_iconst rL_factor_275 (x := 1) (by decide) ?_
    refine w_goto rL_factor_276 ?_
    exact j272 _ (if_neg h272).symm
