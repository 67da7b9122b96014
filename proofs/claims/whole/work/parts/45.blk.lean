/-! own: the blocks of the methods that go round or call on, written by a program -/
set_option maxRecDepth 100000
theorem k_X10_alarm_0 {X : Nat × (Nat → Int32)} {I : Nat → Nat → Int32} {L : Nat → Nat → Int64} {F : Nat → Nat → UInt32} {Q : AQ}  (q : ∀ s15_0 : Int32, s15_0 = (if ((I 498 1) + 24) ≤ 200 then ((I 498 1) + 24) else 200 : Int32) → (WP mX10_alarm 36 [some (.ref 498), some (.int s15_0), some (.int 0), some (.int 0), none, none] [] (G X (am_u I 498 0 0) L F) 0 0 Q)) : WP mX10_alarm 0 (am_ent 6 [.ref 498]) [] (G X I L F) 0 0 Q := by
  refine w_aload_n rX10_alarm_0 rfl ?_
  refine w_iconst rX10_alarm_1 (x := 0) (by decide) ?_
  refine x_putI rX10_alarm_2 rfl (G_is (by decide) rfl) trivial ?_
  refine w_aload_n rX10_alarm_5 rfl ?_
  refine x_getI rX10_alarm_6 rfl rfl (G_is (by decide) rfl) ?_
  rw [au_ne (f := I) (o := 498) (k := 0) (a := 498) (b := 1) (fun z => absurd z.2 (by decide))]
  refine w_bipush rX10_alarm_9 (x := 24) (by decide) ?_
  refine w_iadd rX10_alarm_11 ?_
  refine w_sipush rX10_alarm_12 (x := 200) (by decide) ?_
  have j15 : ∀ s15_0 : Int32, s15_0 = (if ((I 498 1) + 24) ≤ 200 then ((I 498 1) + 24) else 200 : Int32) → WP mX10_alarm 31 [some (.ref 498), none, none, none, none, none] [.int s15_0] (G X (am_u I 498 0 0) L F) 0 0 Q := by
    intro s15_0 es15_0
    replace q := q s15_0 es15_0
    refine w_istore_n rX10_alarm_31 rfl trivial ?_
    refine w_iconst rX10_alarm_32 (x := 0) (by decide) ?_
    refine w_istore_n rX10_alarm_33 rfl trivial ?_
    refine w_iconst rX10_alarm_34 (x := 0) (by decide) ?_
    refine w_istore_n rX10_alarm_35 rfl trivial ?_
    exact q
  refine w_icmple rX10_alarm_15 (fun h15 => ?_) (fun h15 => ?_)
  · skip
    refine w_aload_n rX10_alarm_24 rfl ?_
    refine x_getI rX10_alarm_25 rfl rfl (G_is (by decide) rfl) ?_
    rw [au_ne (f := I) (o := 498) (k := 0) (a := 498) (b := 1) (fun z => absurd z.2 (by decide))]
    refine w_bipush rX10_alarm_28 (x := 24) (by decide) ?_
    refine w_iadd rX10_alarm_30 ?_
    exact j15 _ (if_pos h15).symm
  · skip
    refine w_sipush rX10_alarm_18 (x := 200) (by decide) ?_
    refine w_goto rX10_alarm_21 ?_
    exact j15 _ (if_neg h15).symm
theorem k_X10_alarm_36 {X : Nat × (Nat → Int32)} {I : Nat → Nat → Int32} {L : Nat → Nat → Int64} {F : Nat → Nat → UInt32} {Q : AQ} {x1 : Int32} {x2 : Int32} {x3 : Int32} {d4 : Option Value} {d5 : Option Value} (q : (3 ≤ x3 → Q (.inl (some (.int x2))) (G X I L F)) ∧ (¬ 3 ≤ x3 → vp_in x3 3 ∧ (((¬ (I 526 (Int32.toNatClampNeg x3)) = 0 → vp_in x3 3 ∧ (vp_in (I 518 (Int32.toNatClampNeg x3)) 6 ∧ (True)))) ∧ (∀ s47_0 : Int32, s47_0 = (if (I 526 (Int32.toNatClampNeg x3)) = 0 then (-1) else (I 505 (Int32.toNatClampNeg (I 518 (Int32.toNatClampNeg x3)))) : Int32) → ((s47_0 = (-1) → WP mX10_alarm 36 [some (.ref 498), some (.int x1), some (.int (x2 ||| 0)), some (.int (x3 + 1)), some (.int s47_0), some (.int 0)] [] (G X I L F) 0 0 Q) ∧ (¬ s47_0 = (-1) → WP mX10_greatest 0 (am_ent 6 [.ref 498, .int s47_0, .int (I 498 1), .int x1]) [] (G X I L F) 0 0 (am_kq mX10_alarm 84 [some (.ref 498), some (.int x1), some (.int x2), some (.int x3), some (.int s47_0), d5] [.int s47_0, .ref 498] (0 + am_bc mX10_greatest) (0 + am_bs mX10_greatest) Q))))))) : WP mX10_alarm 36 [some (.ref 498), some (.int x1), some (.int x2), some (.int x3), d4, d5] [] (G X I L F) 0 0 Q := by
  refine w_iload_n rX10_alarm_36 rfl ?_
  refine w_iconst rX10_alarm_37 (x := 3) (by decide) ?_
  refine w_icmpge rX10_alarm_38 (fun h38 => ?_) (fun h38 => ?_)
  · replace q := q.1 h38
    refine w_iload_n rX10_alarm_129 rfl ?_
    refine w_ireturn rX10_alarm_130 trivial ?_
    exact q
  · replace q := q.2 h38
    refine w_aload_n rX10_alarm_41 rfl ?_
    refine w_getR rX10_alarm_42 rfl rfl (G_is (by decide) rfl) (x := 526) rfl ?_
    refine w_iload_n rX10_alarm_45 rfl ?_
    have h46 := q.1
    replace q := q.2
    refine x_baload rX10_alarm_46 (G_at (by decide) rfl rfl h46) ?_
    have j47 : ∀ s47_0 : Int32, s47_0 = (if (I 526 (Int32.toNatClampNeg x3)) = 0 then (-1) else (I 505 (Int32.toNatClampNeg (I 518 (Int32.toNatClampNeg x3)))) : Int32) → WP mX10_alarm 65 [some (.ref 498), some (.int x1), some (.int x2), some (.int x3), d4, d5] [.int s47_0] (G X I L F) 0 0 Q := by
      intro s47_0 es47_0
      replace q := q.2
      replace q := q s47_0 es47_0
      refine w_istore rX10_alarm_65 rfl trivial ?_
      refine w_iload rX10_alarm_67 rfl ?_
      refine w_iconst rX10_alarm_69 (x := -1) (by decide) ?_
      refine w_icmpeq rX10_alarm_70 (fun h70 => ?_) (fun h70 => ?_)
      · replace q := q.1 h70
        refine w_iconst rX10_alarm_105 (x := 0) (by decide) ?_
        refine w_istore rX10_alarm_106 rfl trivial ?_
        refine w_iload_n rX10_alarm_108 rfl ?_
        refine w_iload rX10_alarm_109 rfl ?_
        refine w_ifeq rX10_alarm_111 (fun _ => ?_) (fun h => absurd (show (0 : Int32) = 0 from by decide) h)
        refine w_iconst rX10_alarm_120 (x := 0) (by decide) ?_
        refine w_ior rX10_alarm_121 ?_
        refine w_istore_n rX10_alarm_122 rfl trivial ?_
        refine w_iinc rX10_alarm_123 rfl rfl trivial ?_
        refine w_goto rX10_alarm_126 ?_
        exact q
      · replace q := q.2 h70
        refine w_aload_n rX10_alarm_73 rfl ?_
        refine w_iload rX10_alarm_74 rfl ?_
        refine w_aload_n rX10_alarm_76 rfl ?_
        refine w_iload rX10_alarm_77 rfl ?_
        refine w_aload_n rX10_alarm_79 rfl ?_
        refine x_getI rX10_alarm_80 rfl rfl (G_is (by decide) rfl) ?_
        refine w_iload_n rX10_alarm_83 rfl ?_
        refine w_invokevirtual rX10_alarm_84 rfl rfl rfl (Nat.le_of_ble_eq_true rfl) ⟨trivial, trivial, trivial, trivial, trivial⟩ (G_is (by decide) rfl) (by decide) (by decide) ?_
        exact q
    replace q := q.1
    refine w_ifeq rX10_alarm_47 (fun h47 => ?_) (fun h47 => ?_)
    · skip
      refine w_iconst rX10_alarm_64 (x := -1) (by decide) ?_
      exact j47 _ (if_pos h47).symm
    · replace q := q h47
      refine w_aload_n rX10_alarm_50 rfl ?_
      refine w_getR rX10_alarm_51 rfl rfl (G_is (by decide) rfl) (x := 505) rfl ?_
      refine w_aload_n rX10_alarm_54 rfl ?_
      refine w_getR rX10_alarm_55 rfl rfl (G_is (by decide) rfl) (x := 518) rfl ?_
      refine w_iload_n rX10_alarm_58 rfl ?_
      have h59 := q.1
      replace q := q.2
      refine x_iaload rX10_alarm_59 (G_at (by decide) rfl rfl h59) ?_
      have h60 := q.1
      replace q := q.2
      refine x_iaload rX10_alarm_60 (G_at (by decide) rfl rfl h60) ?_
      refine w_goto rX10_alarm_61 ?_
      exact j47 _ (if_neg h47).symm
theorem k_X10_alarm_87 {X : Nat × (Nat → Int32)} {I : Nat → Nat → Int32} {L : Nat → Nat → Int64} {F : Nat → Nat → UInt32} {Q : AQ} {x1 : Int32} {x2 : Int32} {x3 : Int32} {x4 : Int32} {d5 : Option Value} {e1 : Int32} {e2 : Int32} (q : WP mX10_outOf 0 (am_ent 7 [.ref 498, .int e1, .int e2]) [] (G X I L F) 0 0 (am_kq mX10_alarm 87 [some (.ref 498), some (.int x1), some (.int x2), some (.int x3), some (.int x4), d5] [] (0 + am_bc mX10_outOf) (0 + am_bs mX10_outOf) Q)) : WP mX10_alarm 87 [some (.ref 498), some (.int x1), some (.int x2), some (.int x3), some (.int x4), d5] [.int e2, .int e1, .ref 498] (G X I L F) 0 0 Q := by
  refine w_invokevirtual rX10_alarm_87 rfl rfl rfl (Nat.le_of_ble_eq_true rfl) ⟨trivial, trivial, trivial, trivial⟩ (G_is (by decide) rfl) (by decide) (by decide) ?_
  exact q
theorem k_X10_alarm_90 {X : Nat × (Nat → Int32)} {I : Nat → Nat → Int32} {L : Nat → Nat → Int64} {F : Nat → Nat → UInt32} {Q : AQ} {x1 : Int32} {x2 : Int32} {x3 : Int32} {x4 : Int32} {d5 : Option Value} {e0 : UInt32} (q : vp_in x3 3 ∧ (∀ s98_0 : Int32, s98_0 = (if (Op.cmpValue (FP.fcmp e0 (FP.i2f (I 528 (Int32.toNatClampNeg x3)))) .l) < 0 then 0 else 1 : Int32) → (∀ s111_1 : Int32, s111_1 = (if s98_0 = 0 then 0 else ((1 : Int32) <<< (x3 &&& 31 : Int32)) : Int32) → (WP mX10_alarm 36 [some (.ref 498), some (.int x1), some (.int (x2 ||| s111_1)), some (.int (x3 + 1)), some (.int x4), some (.int s98_0)] [] (G X I L F) 0 0 Q)))) : WP mX10_alarm 90 [some (.ref 498), some (.int x1), some (.int x2), some (.int x3), some (.int x4), d5] [.float e0] (G X I L F) 0 0 Q := by
  refine w_aload_n rX10_alarm_90 rfl ?_
  refine w_getR rX10_alarm_91 rfl rfl (G_is (by decide) rfl) (x := 528) rfl ?_
  refine w_iload_n rX10_alarm_94 rfl ?_
  have h95 := q.1
  replace q := q.2
  refine x_iaload rX10_alarm_95 (G_at (by decide) rfl rfl h95) ?_
  refine w_i2f rX10_alarm_96 ?_
  refine w_fcmp rX10_alarm_97 ?_
  have j98 : ∀ s98_0 : Int32, s98_0 = (if (Op.cmpValue (FP.fcmp e0 (FP.i2f (I 528 (Int32.toNatClampNeg x3)))) .l) < 0 then 0 else 1 : Int32) → WP mX10_alarm 106 [some (.ref 498), some (.int x1), some (.int x2), some (.int x3), some (.int x4), d5] [.int s98_0] (G X I L F) 0 0 Q := by
    intro s98_0 es98_0
    replace q := q s98_0 es98_0
    refine w_istore rX10_alarm_106 rfl trivial ?_
    refine w_iload_n rX10_alarm_108 rfl ?_
    refine w_iload rX10_alarm_109 rfl ?_
    have j111 : ∀ s111_1 : Int32, s111_1 = (if s98_0 = 0 then 0 else ((1 : Int32) <<< (x3 &&& 31 : Int32)) : Int32) → WP mX10_alarm 121 [some (.ref 498), some (.int x1), some (.int x2), some (.int x3), some (.int x4), some (.int s98_0)] [.int s111_1, .int x2] (G X I L F) 0 0 Q := by
      intro s111_1 es111_1
      replace q := q s111_1 es111_1
      refine w_ior rX10_alarm_121 ?_
      refine w_istore_n rX10_alarm_122 rfl trivial ?_
      refine w_iinc rX10_alarm_123 rfl rfl trivial ?_
      refine w_goto rX10_alarm_126 ?_
      exact q
    refine w_ifeq rX10_alarm_111 (fun h111 => ?_) (fun h111 => ?_)
    · skip
      refine w_iconst rX10_alarm_120 (x := 0) (by decide) ?_
      exact j111 _ (if_pos h111).symm
    · skip
      refine w_iconst rX10_alarm_114 (x := 1) (by decide) ?_
      refine w_iload_n rX10_alarm_115 rfl ?_
      refine w_ishl rX10_alarm_116 ?_
      refine w_goto rX10_alarm_117 ?_
      exact j111 _ (if_neg h111).symm
  refine w_iflt rX10_alarm_98 (fun h98 => ?_) (fun h98 => ?_)
  · skip
    refine w_iconst rX10_alarm_105 (x := 0) (by decide) ?_
    exact j98 _ (if_pos h98).symm
  · skip
    refine w_iconst rX10_alarm_101 (x := 1) (by decide) ?_
    refine w_goto rX10_alarm_102 ?_
    exact j98 _ (if_neg h98).symm
theorem k_X10_asked_0 {X : Nat × (Nat → Int32)} {I : Nat → Nat → Int32} {L : Nat → Nat → Int64} {F : Nat → Nat → UInt32} {Q : AQ} {dam : Int32} (q : vp_in dam 3 ∧ (WP mX10_asked 12 [some (.ref 498), some (.int dam), some (.int 0)] [] (G X (am_u I 498 46 (I 522 (Int32.toNatClampNeg dam))) L F) 0 0 Q)) : WP mX10_asked 0 (am_ent 3 [.ref 498, .int dam]) [] (G X I L F) 0 0 Q := by
  refine w_aload_n rX10_asked_0 rfl ?_
  refine w_aload_n rX10_asked_1 rfl ?_
  refine w_getR rX10_asked_2 rfl rfl (G_is (by decide) rfl) (x := 522) rfl ?_
  refine w_iload_n rX10_asked_5 rfl ?_
  have h6 := q.1
  replace q := q.2
  refine x_iaload rX10_asked_6 (G_at (by decide) rfl rfl h6) ?_
  refine x_putI rX10_asked_7 rfl (G_is (by decide) rfl) trivial ?_
  refine w_iconst rX10_asked_10 (x := 0) (by decide) ?_
  refine w_istore_n rX10_asked_11 rfl trivial ?_
  exact q
theorem k_X10_asked_12 {X : Nat × (Nat → Int32)} {I : Nat → Nat → Int32} {L : Nat → Nat → Int64} {F : Nat → Nat → UInt32} {Q : AQ} {x1 : Int32} {x2 : Int32} (q : ((I 498 46) ≤ x2 → WP mX10_worth 0 (am_ent 7 [.ref 498, .int (-1), .int (I 498 1)]) [] (G X I L F) 0 0 (am_kq mX10_asked 49 [some (.ref 498), some (.int x1), some (.int x2)] [] (0 + am_bc mX10_worth) (0 + am_bs mX10_worth) Q)) ∧ (¬ (I 498 46) ≤ x2 → vp_in ((40 * x1) + x2) 120 ∧ (vp_in x2 40 ∧ (WP mX10_asked 12 [some (.ref 498), some (.int x1), some (.int (x2 + 1))] [] (G X (am_u I 537 (Int32.toNatClampNeg x2) (I 523 (Int32.toNatClampNeg ((40 * x1) + x2)))) L F) 0 0 Q)))) : WP mX10_asked 12 [some (.ref 498), some (.int x1), some (.int x2)] [] (G X I L F) 0 0 Q := by
  refine w_iload_n rX10_asked_12 rfl ?_
  refine w_aload_n rX10_asked_13 rfl ?_
  refine x_getI rX10_asked_14 rfl rfl (G_is (by decide) rfl) ?_
  refine w_icmpge rX10_asked_17 (fun h17 => ?_) (fun h17 => ?_)
  · replace q := q.1 h17
    refine w_aload_n rX10_asked_43 rfl ?_
    refine w_iconst rX10_asked_44 (x := -1) (by decide) ?_
    refine w_aload_n rX10_asked_45 rfl ?_
    refine x_getI rX10_asked_46 rfl rfl (G_is (by decide) rfl) ?_
    refine w_invokevirtual rX10_asked_49 rfl rfl rfl (Nat.le_of_ble_eq_true rfl) ⟨trivial, trivial, trivial, trivial⟩ (G_is (by decide) rfl) (by decide) (by decide) ?_
    exact q
  · replace q := q.2 h17
    refine w_aload_n rX10_asked_20 rfl ?_
    refine w_getR rX10_asked_21 rfl rfl (G_is (by decide) rfl) (x := 537) rfl ?_
    refine w_iload_n rX10_asked_24 rfl ?_
    refine w_aload_n rX10_asked_25 rfl ?_
    refine w_getR rX10_asked_26 rfl rfl (G_is (by decide) rfl) (x := 523) rfl ?_
    refine w_bipush rX10_asked_29 (x := 40) (by decide) ?_
    refine w_iload_n rX10_asked_31 rfl ?_
    refine w_imul rX10_asked_32 ?_
    refine w_iload_n rX10_asked_33 rfl ?_
    refine w_iadd rX10_asked_34 ?_
    have h35 := q.1
    replace q := q.2
    refine x_iaload rX10_asked_35 (G_at (by decide) rfl rfl h35) ?_
    have h36 := q.1
    replace q := q.2
    refine x_iastore rX10_asked_36 (G_at (by decide) rfl rfl h36) ?_
    refine w_iinc rX10_asked_37 rfl rfl trivial ?_
    refine w_goto rX10_asked_40 ?_
    exact q
theorem k_X10_asked_52 {X : Nat × (Nat → Int32)} {I : Nat → Nat → Int32} {L : Nat → Nat → Int64} {F : Nat → Nat → UInt32} {Q : AQ} {x1 : Int32} {x2 : Int32} {e0 : UInt32} (q : Q (.inl (some (.float e0))) (G X I L F)) : WP mX10_asked 52 [some (.ref 498), some (.int x1), some (.int x2)] [.float e0] (G X I L F) 0 0 Q := by
  refine w_freturn rX10_asked_52 ?_
  exact q
theorem k_X10_flows_0 {X : Nat × (Nat → Int32)} {I : Nat → Nat → Int32} {L : Nat → Nat → Int64} {F : Nat → Nat → UInt32} {Q : AQ} {dam : Int32} (q : vp_in dam 3 ∧ (vp_in (I 518 (Int32.toNatClampNeg dam)) 6 ∧ (((I 505 (Int32.toNatClampNeg (I 518 (Int32.toNatClampNeg dam)))) = (-1) → WP mX10_flows 30 [some (.ref 498), some (.int dam), some (.int (I 505 (Int32.toNatClampNeg (I 518 (Int32.toNatClampNeg dam))))), none, none, none, none, none, none] [.float 0] (G X I L F) 0 0 Q) ∧ (¬ (I 505 (Int32.toNatClampNeg (I 518 (Int32.toNatClampNeg dam)))) = (-1) → WP mX10_outOf 0 (am_ent 7 [.ref 498, .int (I 505 (Int32.toNatClampNeg (I 518 (Int32.toNatClampNeg dam)))), .int (I 498 1)]) [] (G X I L F) 0 0 (am_kq mX10_flows 27 [some (.ref 498), some (.int dam), some (.int (I 505 (Int32.toNatClampNeg (I 518 (Int32.toNatClampNeg dam))))), none, none, none, none, none, none] [] (0 + am_bc mX10_outOf) (0 + am_bs mX10_outOf) Q))))) : WP mX10_flows 0 (am_ent 9 [.ref 498, .int dam]) [] (G X I L F) 0 0 Q := by
  refine w_aload_n rX10_flows_0 rfl ?_
  refine w_getR rX10_flows_1 rfl rfl (G_is (by decide) rfl) (x := 505) rfl ?_
  refine w_aload_n rX10_flows_4 rfl ?_
  refine w_getR rX10_flows_5 rfl rfl (G_is (by decide) rfl) (x := 518) rfl ?_
  refine w_iload_n rX10_flows_8 rfl ?_
  have h9 := q.1
  replace q := q.2
  refine x_iaload rX10_flows_9 (G_at (by decide) rfl rfl h9) ?_
  have h10 := q.1
  replace q := q.2
  refine x_iaload rX10_flows_10 (G_at (by decide) rfl rfl h10) ?_
  refine w_istore_n rX10_flows_11 rfl trivial ?_
  refine w_iload_n rX10_flows_12 rfl ?_
  refine w_iconst rX10_flows_13 (x := -1) (by decide) ?_
  refine w_icmpne rX10_flows_14 (fun h14 => ?_) (fun h14 => ?_)
  · replace q := q.2 h14
    refine w_aload_n rX10_flows_21 rfl ?_
    refine w_iload_n rX10_flows_22 rfl ?_
    refine w_aload_n rX10_flows_23 rfl ?_
    refine x_getI rX10_flows_24 rfl rfl (G_is (by decide) rfl) ?_
    refine w_invokevirtual rX10_flows_27 rfl rfl rfl (Nat.le_of_ble_eq_true rfl) ⟨trivial, trivial, trivial, trivial⟩ (G_is (by decide) rfl) (by decide) (by decide) ?_
    exact q
  · replace q := q.1 h14
    refine w_fconst rX10_flows_17 (x := 0) rfl ?_
    refine w_goto rX10_flows_18 ?_
    exact q
theorem k_X10_flows_30 {X : Nat × (Nat → Int32)} {I : Nat → Nat → Int32} {L : Nat → Nat → Int64} {F : Nat → Nat → UInt32} {Q : AQ} {x1 : Int32} {x2 : Int32} {e0 : UInt32} (q : ∀ s34_0 : UInt32, s34_0 = (if 0 ≤ (Op.cmpValue (FP.fcmp e0 0) .g) then e0 else 0 : UInt32) → (vp_in x1 3 ∧ (vp_in x1 3 ∧ (((I 524 (Int32.toNatClampNeg x1)) = (-1) → vp_in x1 3 ∧ (((I 521 (Int32.toNatClampNeg x1)) = 0 → vp_in x1 3 ∧ (vf_n32 (FP.fadd (F 520 (Int32.toNatClampNeg x1)) s34_0) ∧ (∀ s134_0 : UInt32, s134_0 = (if 0 ≤ (Op.cmpValue (FP.fcmp 0 0) .g) then (if (Op.cmpValue (FP.fcmp 0 (FP.fadd (F 520 (Int32.toNatClampNeg x1)) s34_0)) .l) ≤ 0 then 0 else (FP.fadd (F 520 (Int32.toNatClampNeg x1)) s34_0) : UInt32) else 0 : UInt32) → (vf_n32 (FP.fsub (FP.fadd (F 520 (Int32.toNatClampNeg x1)) s34_0) s134_0) ∧ (vp_in x1 3 ∧ (((¬ (Op.cmpValue (FP.fcmp (FP.fsub (FP.fadd (F 520 (Int32.toNatClampNeg x1)) s34_0) s134_0) (FP.i2f (I 519 (Int32.toNatClampNeg x1)))) .l) ≤ 0 → vp_in x1 3 ∧ (vf_n32 (FP.fsub (FP.fsub (FP.fadd (F 520 (Int32.toNatClampNeg x1)) s34_0) s134_0) (FP.i2f (I 519 (Int32.toNatClampNeg x1)))) ∧ (True)))) ∧ (∀ s175_0 : UInt32, s175_0 = (if (Op.cmpValue (FP.fcmp (FP.fsub (FP.fadd (F 520 (Int32.toNatClampNeg x1)) s34_0) s134_0) (FP.i2f (I 519 (Int32.toNatClampNeg x1)))) .l) ≤ 0 then 0 else (FP.fsub (FP.fsub (FP.fadd (F 520 (Int32.toNatClampNeg x1)) s34_0) s134_0) (FP.i2f (I 519 (Int32.toNatClampNeg x1)))) : UInt32) → (vf_n32 (FP.fsub (FP.fsub (FP.fadd (F 520 (Int32.toNatClampNeg x1)) s34_0) s134_0) s175_0) ∧ (vp_in x1 3 ∧ (vf_n32 (FP.fadd s134_0 s175_0) ∧ (vp_in ((201 * x1) + (I 498 1)) 603 ∧ (Q (.inl none) (G X I L (am_u (am_u (am_u (am_u (am_u F 498 51 (F 520 (Int32.toNatClampNeg x1))) 498 52 s34_0) 498 53 0) 520 (Int32.toNatClampNeg x1) (FP.fsub (FP.fsub (FP.fadd (F 520 (Int32.toNatClampNeg x1)) s34_0) s134_0) s175_0)) 525 (Int32.toNatClampNeg ((201 * x1) + (I 498 1))) (FP.fadd s134_0 s175_0))))))))))))))) ∧ (¬ (I 521 (Int32.toNatClampNeg x1)) = 0 → WP mX10_asked 0 (am_ent 3 [.ref 498, .int x1]) [] (G X I L (am_u (am_u (am_u F 498 51 (F 520 (Int32.toNatClampNeg x1))) 498 52 s34_0) 498 53 0)) 0 0 (am_kq mX10_flows 111 [some (.ref 498), some (.int x1), some (.int x2), some (.float s34_0), none, none, none, none, none] [] (0 + am_bc mX10_asked) (0 + am_bs mX10_asked) Q)))) ∧ (¬ (I 524 (Int32.toNatClampNeg x1)) = (-1) → vp_in x1 3 ∧ (WP mX10_whyOf 0 (am_ent 7 [.ref 498, .int (I 524 (Int32.toNatClampNeg x1))]) [] (G X I L (am_u (am_u F 498 51 (F 520 (Int32.toNatClampNeg x1))) 498 52 s34_0)) 0 0 (am_kq mX10_flows 76 [some (.ref 498), some (.int x1), some (.int x2), some (.float s34_0), none, none, none, none, none] [.ref 498] (0 + am_bc mX10_whyOf) (0 + am_bs mX10_whyOf) Q))))))) : WP mX10_flows 30 [some (.ref 498), some (.int x1), some (.int x2), none, none, none, none, none, none] [.float e0] (G X I L F) 0 0 Q := by
  refine w_fstore_n rX10_flows_30 rfl trivial ?_
  refine w_fload_n rX10_flows_31 rfl ?_
  refine w_fconst rX10_flows_32 (x := 0) rfl ?_
  refine w_fcmp rX10_flows_33 ?_
  have j34 : ∀ s34_0 : UInt32, s34_0 = (if 0 ≤ (Op.cmpValue (FP.fcmp e0 0) .g) then e0 else 0 : UInt32) → WP mX10_flows 42 [some (.ref 498), some (.int x1), some (.int x2), some (.float e0), none, none, none, none, none] [.float s34_0] (G X I L F) 0 0 Q := by
    intro s34_0 es34_0
    replace q := q s34_0 es34_0
    refine w_fstore_n rX10_flows_42 rfl trivial ?_
    refine w_aload_n rX10_flows_43 rfl ?_
    refine w_aload_n rX10_flows_44 rfl ?_
    refine w_getR rX10_flows_45 rfl rfl (G_is (by decide) rfl) (x := 520) rfl ?_
    refine w_iload_n rX10_flows_48 rfl ?_
    have h49 := q.1
    replace q := q.2
    refine x_faload rX10_flows_49 (G_at (by decide) rfl rfl h49) ?_
    refine x_putF rX10_flows_50 rfl (G_is (by decide) rfl) ?_
    refine w_aload_n rX10_flows_53 rfl ?_
    refine w_fload_n rX10_flows_54 rfl ?_
    refine x_putF rX10_flows_55 rfl (G_is (by decide) rfl) ?_
    refine w_aload_n rX10_flows_58 rfl ?_
    refine w_aload_n rX10_flows_59 rfl ?_
    refine w_getR rX10_flows_60 rfl rfl (G_is (by decide) rfl) (x := 524) rfl ?_
    refine w_iload_n rX10_flows_63 rfl ?_
    have h64 := q.1
    replace q := q.2
    refine x_iaload rX10_flows_64 (G_at (by decide) rfl rfl h64) ?_
    refine w_iconst rX10_flows_65 (x := -1) (by decide) ?_
    refine w_icmpeq rX10_flows_66 (fun h66 => ?_) (fun h66 => ?_)
    · replace q := q.1 h66
      refine w_fconst rX10_flows_96 (x := 0) rfl ?_
      refine x_putF rX10_flows_97 rfl (G_is (by decide) rfl) ?_
      refine w_aload_n rX10_flows_100 rfl ?_
      refine w_getR rX10_flows_101 rfl rfl (G_is (by decide) rfl) (x := 521) rfl ?_
      refine w_iload_n rX10_flows_104 rfl ?_
      have h105 := q.1
      replace q := q.2
      refine x_baload rX10_flows_105 (G_at (by decide) rfl rfl h105) ?_
      refine w_ifeq rX10_flows_106 (fun h106 => ?_) (fun h106 => ?_)
      · replace q := q.1 h106
        refine w_fconst rX10_flows_117 (x := 0) rfl ?_
        refine w_fstore rX10_flows_118 rfl trivial ?_
        refine w_aload_n rX10_flows_120 rfl ?_
        refine w_getR rX10_flows_121 rfl rfl (G_is (by decide) rfl) (x := 520) rfl ?_
        refine w_iload_n rX10_flows_124 rfl ?_
        have h125 := q.1
        replace q := q.2
        refine x_faload rX10_flows_125 (G_at (by decide) rfl rfl h125) ?_
        rw [au_ne (f := (am_u (am_u F 498 51 (F 520 (Int32.toNatClampNeg x1))) 498 52 s34_0)) (o := 498) (k := 53) (a := 520) (b := (Int32.toNatClampNeg x1)) (fun z => absurd z.1 (by decide))]
        rw [au_ne (f := (am_u F 498 51 (F 520 (Int32.toNatClampNeg x1)))) (o := 498) (k := 52) (a := 520) (b := (Int32.toNatClampNeg x1)) (fun z => absurd z.1 (by decide))]
        rw [au_ne (f := F) (o := 498) (k := 51) (a := 520) (b := (Int32.toNatClampNeg x1)) (fun z => absurd z.1 (by decide))]
        refine w_fload_n rX10_flows_126 rfl ?_
        refine w_fadd rX10_flows_127 q.1 ?_
        replace q := q.2
        refine w_fstore rX10_flows_128 rfl trivial ?_
        refine w_fload rX10_flows_130 rfl ?_
        refine w_fconst rX10_flows_132 (x := 0) rfl ?_
        refine w_fcmp rX10_flows_133 ?_
        have j134 : ∀ s134_0 : UInt32, s134_0 = (if 0 ≤ (Op.cmpValue (FP.fcmp 0 0) .g) then (if (Op.cmpValue (FP.fcmp 0 (FP.fadd (F 520 (Int32.toNatClampNeg x1)) s34_0)) .l) ≤ 0 then 0 else (FP.fadd (F 520 (Int32.toNatClampNeg x1)) s34_0) : UInt32) else 0 : UInt32) → WP mX10_flows 156 [some (.ref 498), some (.int x1), some (.int x2), some (.float s34_0), some (.float 0), some (.float (FP.fadd (F 520 (Int32.toNatClampNeg x1)) s34_0)), none, none, none] [.float s134_0] (G X I L (am_u (am_u (am_u F 498 51 (F 520 (Int32.toNatClampNeg x1))) 498 52 s34_0) 498 53 0)) 0 0 Q := by
          intro s134_0 es134_0
          replace q := q s134_0 es134_0
          refine w_fstore rX10_flows_156 rfl trivial ?_
          refine w_fload rX10_flows_158 rfl ?_
          refine w_fload rX10_flows_160 rfl ?_
          refine w_fsub rX10_flows_162 q.1 ?_
          replace q := q.2
          refine w_fstore rX10_flows_163 rfl trivial ?_
          refine w_fload rX10_flows_165 rfl ?_
          refine w_aload_n rX10_flows_167 rfl ?_
          refine w_getR rX10_flows_168 rfl rfl (G_is (by decide) rfl) (x := 519) rfl ?_
          refine w_iload_n rX10_flows_171 rfl ?_
          have h172 := q.1
          replace q := q.2
          refine x_iaload rX10_flows_172 (G_at (by decide) rfl rfl h172) ?_
          refine w_i2f rX10_flows_173 ?_
          refine w_fcmp rX10_flows_174 ?_
          have j175 : ∀ s175_0 : UInt32, s175_0 = (if (Op.cmpValue (FP.fcmp (FP.fsub (FP.fadd (F 520 (Int32.toNatClampNeg x1)) s34_0) s134_0) (FP.i2f (I 519 (Int32.toNatClampNeg x1)))) .l) ≤ 0 then 0 else (FP.fsub (FP.fsub (FP.fadd (F 520 (Int32.toNatClampNeg x1)) s34_0) s134_0) (FP.i2f (I 519 (Int32.toNatClampNeg x1)))) : UInt32) → WP mX10_flows 192 [some (.ref 498), some (.int x1), some (.int x2), some (.float s34_0), some (.float 0), some (.float (FP.fadd (F 520 (Int32.toNatClampNeg x1)) s34_0)), some (.float s134_0), some (.float (FP.fsub (FP.fadd (F 520 (Int32.toNatClampNeg x1)) s34_0) s134_0)), none] [.float s175_0] (G X I L (am_u (am_u (am_u F 498 51 (F 520 (Int32.toNatClampNeg x1))) 498 52 s34_0) 498 53 0)) 0 0 Q := by
            intro s175_0 es175_0
            replace q := q.2
            replace q := q s175_0 es175_0
            refine w_fstore rX10_flows_192 rfl trivial ?_
            refine w_aload_n rX10_flows_194 rfl ?_
            refine w_getR rX10_flows_195 rfl rfl (G_is (by decide) rfl) (x := 520) rfl ?_
            refine w_iload_n rX10_flows_198 rfl ?_
            refine w_fload rX10_flows_199 rfl ?_
            refine w_fload rX10_flows_201 rfl ?_
            refine w_fsub rX10_flows_203 q.1 ?_
            replace q := q.2
            have h204 := q.1
            replace q := q.2
            refine x_fastore rX10_flows_204 (G_at (by decide) rfl rfl h204) ?_
            refine w_aload_n rX10_flows_205 rfl ?_
            refine w_getR rX10_flows_206 rfl rfl (G_is (by decide) rfl) (x := 525) rfl ?_
            refine w_sipush rX10_flows_209 (x := 201) (by decide) ?_
            refine w_iload_n rX10_flows_212 rfl ?_
            refine w_imul rX10_flows_213 ?_
            refine w_aload_n rX10_flows_214 rfl ?_
            refine x_getI rX10_flows_215 rfl rfl (G_is (by decide) rfl) ?_
            refine w_iadd rX10_flows_218 ?_
            refine w_fload rX10_flows_219 rfl ?_
            refine w_fload rX10_flows_221 rfl ?_
            refine w_fadd rX10_flows_223 q.1 ?_
            replace q := q.2
            have h224 := q.1
            replace q := q.2
            refine x_fastore rX10_flows_224 (G_at (by decide) rfl rfl h224) ?_
            refine w_return rX10_flows_225 ?_
            exact q
          replace q := q.1
          refine w_ifle rX10_flows_175 (fun h175 => ?_) (fun h175 => ?_)
          · skip
            refine w_fconst rX10_flows_191 (x := 0) rfl ?_
            exact j175 _ (if_pos h175).symm
          · replace q := q h175
            refine w_fload rX10_flows_178 rfl ?_
            refine w_aload_n rX10_flows_180 rfl ?_
            refine w_getR rX10_flows_181 rfl rfl (G_is (by decide) rfl) (x := 519) rfl ?_
            refine w_iload_n rX10_flows_184 rfl ?_
            have h185 := q.1
            replace q := q.2
            refine x_iaload rX10_flows_185 (G_at (by decide) rfl rfl h185) ?_
            refine w_i2f rX10_flows_186 ?_
            refine w_fsub rX10_flows_187 q.1 ?_
            replace q := q.2
            refine w_goto rX10_flows_188 ?_
            exact j175 _ (if_neg h175).symm
        refine w_ifge rX10_flows_134 (fun h134 => ?_) (fun h134 => ?_)
        · skip
          refine w_fload rX10_flows_141 rfl ?_
          refine w_fload rX10_flows_143 rfl ?_
          refine w_fcmp rX10_flows_145 ?_
          refine w_ifle rX10_flows_146 (fun h146 => ?_) (fun h146 => ?_)
          · skip
            refine w_fload rX10_flows_154 rfl ?_
            exact j134 _ ((if_pos h134).trans (if_pos h146)).symm
          · skip
            refine w_fload rX10_flows_149 rfl ?_
            refine w_goto rX10_flows_151 ?_
            exact j134 _ ((if_pos h134).trans (if_neg h146)).symm
        · skip
          refine w_fconst rX10_flows_137 (x := 0) rfl ?_
          refine w_goto rX10_flows_138 ?_
          exact j134 _ (if_neg h134).symm
      · replace q := q.2 h106
        refine w_aload_n rX10_flows_109 rfl ?_
        refine w_iload_n rX10_flows_110 rfl ?_
        refine w_invokevirtual rX10_flows_111 rfl rfl rfl (Nat.le_of_ble_eq_true rfl) ⟨trivial, trivial, trivial⟩ (G_is (by decide) rfl) (by decide) (by decide) ?_
        exact q
    · replace q := q.2 h66
      refine w_aload_n rX10_flows_69 rfl ?_
      refine w_aload_n rX10_flows_70 rfl ?_
      refine w_getR rX10_flows_71 rfl rfl (G_is (by decide) rfl) (x := 524) rfl ?_
      refine w_iload_n rX10_flows_74 rfl ?_
      have h75 := q.1
      replace q := q.2
      refine x_iaload rX10_flows_75 (G_at (by decide) rfl rfl h75) ?_
      refine w_invokevirtual rX10_flows_76 rfl rfl rfl (Nat.le_of_ble_eq_true rfl) ⟨trivial, trivial, trivial⟩ (G_is (by decide) rfl) (by decide) (by decide) ?_
      exact q
  refine w_ifge rX10_flows_34 (fun h34 => ?_) (fun h34 => ?_)
  · skip
    refine w_fload_n rX10_flows_41 rfl ?_
    exact j34 _ (if_pos h34).symm
  · skip
    refine w_fconst rX10_flows_37 (x := 0) rfl ?_
    refine w_goto rX10_flows_38 ?_
    exact j34 _ (if_neg h34).symm
theorem k_X10_flows_79 {X : Nat × (Nat → Int32)} {I : Nat → Nat → Int32} {L : Nat → Nat → Int64} {F : Nat → Nat → UInt32} {Q : AQ} {x1 : Int32} {x2 : Int32} {y3 : UInt32} {e1 : Int32} (q : ((e1 = 0 → vp_in x1 3 ∧ (vp_in (I 524 (Int32.toNatClampNeg x1)) 40 ∧ (True)))) ∧ (∀ s79_1 : UInt32, s79_1 = (if e1 = 0 then (F 514 (Int32.toNatClampNeg (I 524 (Int32.toNatClampNeg x1)))) else 0 : UInt32) → (vp_in x1 3 ∧ (((I 521 (Int32.toNatClampNeg x1)) = 0 → vp_in x1 3 ∧ (vf_n32 (FP.fadd (F 520 (Int32.toNatClampNeg x1)) y3) ∧ (∀ s134_0 : UInt32, s134_0 = (if 0 ≤ (Op.cmpValue (FP.fcmp 0 0) .g) then (if (Op.cmpValue (FP.fcmp 0 (FP.fadd (F 520 (Int32.toNatClampNeg x1)) y3)) .l) ≤ 0 then 0 else (FP.fadd (F 520 (Int32.toNatClampNeg x1)) y3) : UInt32) else 0 : UInt32) → (vf_n32 (FP.fsub (FP.fadd (F 520 (Int32.toNatClampNeg x1)) y3) s134_0) ∧ (vp_in x1 3 ∧ (((¬ (Op.cmpValue (FP.fcmp (FP.fsub (FP.fadd (F 520 (Int32.toNatClampNeg x1)) y3) s134_0) (FP.i2f (I 519 (Int32.toNatClampNeg x1)))) .l) ≤ 0 → vp_in x1 3 ∧ (vf_n32 (FP.fsub (FP.fsub (FP.fadd (F 520 (Int32.toNatClampNeg x1)) y3) s134_0) (FP.i2f (I 519 (Int32.toNatClampNeg x1)))) ∧ (True)))) ∧ (∀ s175_0 : UInt32, s175_0 = (if (Op.cmpValue (FP.fcmp (FP.fsub (FP.fadd (F 520 (Int32.toNatClampNeg x1)) y3) s134_0) (FP.i2f (I 519 (Int32.toNatClampNeg x1)))) .l) ≤ 0 then 0 else (FP.fsub (FP.fsub (FP.fadd (F 520 (Int32.toNatClampNeg x1)) y3) s134_0) (FP.i2f (I 519 (Int32.toNatClampNeg x1)))) : UInt32) → (vf_n32 (FP.fsub (FP.fsub (FP.fadd (F 520 (Int32.toNatClampNeg x1)) y3) s134_0) s175_0) ∧ (vp_in x1 3 ∧ (vf_n32 (FP.fadd s134_0 s175_0) ∧ (vp_in ((201 * x1) + (I 498 1)) 603 ∧ (Q (.inl none) (G X I L (am_u (am_u (am_u F 498 53 s79_1) 520 (Int32.toNatClampNeg x1) (FP.fsub (FP.fsub (FP.fadd (F 520 (Int32.toNatClampNeg x1)) y3) s134_0) s175_0)) 525 (Int32.toNatClampNeg ((201 * x1) + (I 498 1))) (FP.fadd s134_0 s175_0))))))))))))))) ∧ (¬ (I 521 (Int32.toNatClampNeg x1)) = 0 → WP mX10_asked 0 (am_ent 3 [.ref 498, .int x1]) [] (G X I L (am_u F 498 53 s79_1)) 0 0 (am_kq mX10_flows 111 [some (.ref 498), some (.int x1), some (.int x2), some (.float y3), none, none, none, none, none] [] (0 + am_bc mX10_asked) (0 + am_bs mX10_asked) Q)))))) : WP mX10_flows 79 [some (.ref 498), some (.int x1), some (.int x2), some (.float y3), none, none, none, none, none] [.int e1, .ref 498] (G X I L F) 0 0 Q := by
  have j79 : ∀ s79_1 : UInt32, s79_1 = (if e1 = 0 then (F 514 (Int32.toNatClampNeg (I 524 (Int32.toNatClampNeg x1)))) else 0 : UInt32) → WP mX10_flows 97 [some (.ref 498), some (.int x1), some (.int x2), some (.float y3), none, none, none, none, none] [.float s79_1, .ref 498] (G X I L F) 0 0 Q := by
    intro s79_1 es79_1
    replace q := q.2
    replace q := q s79_1 es79_1
    refine x_putF rX10_flows_97 rfl (G_is (by decide) rfl) ?_
    refine w_aload_n rX10_flows_100 rfl ?_
    refine w_getR rX10_flows_101 rfl rfl (G_is (by decide) rfl) (x := 521) rfl ?_
    refine w_iload_n rX10_flows_104 rfl ?_
    have h105 := q.1
    replace q := q.2
    refine x_baload rX10_flows_105 (G_at (by decide) rfl rfl h105) ?_
    refine w_ifeq rX10_flows_106 (fun h106 => ?_) (fun h106 => ?_)
    · replace q := q.1 h106
      refine w_fconst rX10_flows_117 (x := 0) rfl ?_
      refine w_fstore rX10_flows_118 rfl trivial ?_
      refine w_aload_n rX10_flows_120 rfl ?_
      refine w_getR rX10_flows_121 rfl rfl (G_is (by decide) rfl) (x := 520) rfl ?_
      refine w_iload_n rX10_flows_124 rfl ?_
      have h125 := q.1
      replace q := q.2
      refine x_faload rX10_flows_125 (G_at (by decide) rfl rfl h125) ?_
      rw [au_ne (f := F) (o := 498) (k := 53) (a := 520) (b := (Int32.toNatClampNeg x1)) (fun z => absurd z.1 (by decide))]
      refine w_fload_n rX10_flows_126 rfl ?_
      refine w_fadd rX10_flows_127 q.1 ?_
      replace q := q.2
      refine w_fstore rX10_flows_128 rfl trivial ?_
      refine w_fload rX10_flows_130 rfl ?_
      refine w_fconst rX10_flows_132 (x := 0) rfl ?_
      refine w_fcmp rX10_flows_133 ?_
      have j134 : ∀ s134_0 : UInt32, s134_0 = (if 0 ≤ (Op.cmpValue (FP.fcmp 0 0) .g) then (if (Op.cmpValue (FP.fcmp 0 (FP.fadd (F 520 (Int32.toNatClampNeg x1)) y3)) .l) ≤ 0 then 0 else (FP.fadd (F 520 (Int32.toNatClampNeg x1)) y3) : UInt32) else 0 : UInt32) → WP mX10_flows 156 [some (.ref 498), some (.int x1), some (.int x2), some (.float y3), some (.float 0), some (.float (FP.fadd (F 520 (Int32.toNatClampNeg x1)) y3)), none, none, none] [.float s134_0] (G X I L (am_u F 498 53 s79_1)) 0 0 Q := by
        intro s134_0 es134_0
        replace q := q s134_0 es134_0
        refine w_fstore rX10_flows_156 rfl trivial ?_
        refine w_fload rX10_flows_158 rfl ?_
        refine w_fload rX10_flows_160 rfl ?_
        refine w_fsub rX10_flows_162 q.1 ?_
        replace q := q.2
        refine w_fstore rX10_flows_163 rfl trivial ?_
        refine w_fload rX10_flows_165 rfl ?_
        refine w_aload_n rX10_flows_167 rfl ?_
        refine w_getR rX10_flows_168 rfl rfl (G_is (by decide) rfl) (x := 519) rfl ?_
        refine w_iload_n rX10_flows_171 rfl ?_
        have h172 := q.1
        replace q := q.2
        refine x_iaload rX10_flows_172 (G_at (by decide) rfl rfl h172) ?_
        refine w_i2f rX10_flows_173 ?_
        refine w_fcmp rX10_flows_174 ?_
        have j175 : ∀ s175_0 : UInt32, s175_0 = (if (Op.cmpValue (FP.fcmp (FP.fsub (FP.fadd (F 520 (Int32.toNatClampNeg x1)) y3) s134_0) (FP.i2f (I 519 (Int32.toNatClampNeg x1)))) .l) ≤ 0 then 0 else (FP.fsub (FP.fsub (FP.fadd (F 520 (Int32.toNatClampNeg x1)) y3) s134_0) (FP.i2f (I 519 (Int32.toNatClampNeg x1)))) : UInt32) → WP mX10_flows 192 [some (.ref 498), some (.int x1), some (.int x2), some (.float y3), some (.float 0), some (.float (FP.fadd (F 520 (Int32.toNatClampNeg x1)) y3)), some (.float s134_0), some (.float (FP.fsub (FP.fadd (F 520 (Int32.toNatClampNeg x1)) y3) s134_0)), none] [.float s175_0] (G X I L (am_u F 498 53 s79_1)) 0 0 Q := by
          intro s175_0 es175_0
          replace q := q.2
          replace q := q s175_0 es175_0
          refine w_fstore rX10_flows_192 rfl trivial ?_
          refine w_aload_n rX10_flows_194 rfl ?_
          refine w_getR rX10_flows_195 rfl rfl (G_is (by decide) rfl) (x := 520) rfl ?_
          refine w_iload_n rX10_flows_198 rfl ?_
          refine w_fload rX10_flows_199 rfl ?_
          refine w_fload rX10_flows_201 rfl ?_
          refine w_fsub rX10_flows_203 q.1 ?_
          replace q := q.2
          have h204 := q.1
          replace q := q.2
          refine x_fastore rX10_flows_204 (G_at (by decide) rfl rfl h204) ?_
          refine w_aload_n rX10_flows_205 rfl ?_
          refine w_getR rX10_flows_206 rfl rfl (G_is (by decide) rfl) (x := 525) rfl ?_
          refine w_sipush rX10_flows_209 (x := 201) (by decide) ?_
          refine w_iload_n rX10_flows_212 rfl ?_
          refine w_imul rX10_flows_213 ?_
          refine w_aload_n rX10_flows_214 rfl ?_
          refine x_getI rX10_flows_215 rfl rfl (G_is (by decide) rfl) ?_
          refine w_iadd rX10_flows_218 ?_
          refine w_fload rX10_flows_219 rfl ?_
          refine w_fload rX10_flows_221 rfl ?_
          refine w_fadd rX10_flows_223 q.1 ?_
          replace q := q.2
          have h224 := q.1
          replace q := q.2
          refine x_fastore rX10_flows_224 (G_at (by decide) rfl rfl h224) ?_
          refine w_return rX10_flows_225 ?_
          exact q
        replace q := q.1
        refine w_ifle rX10_flows_175 (fun h175 => ?_) (fun h175 => ?_)
        · skip
          refine w_fconst rX10_flows_191 (x := 0) rfl ?_
          exact j175 _ (if_pos h175).symm
        · replace q := q h175
          refine w_fload rX10_flows_178 rfl ?_
          refine w_aload_n rX10_flows_180 rfl ?_
          refine w_getR rX10_flows_181 rfl rfl (G_is (by decide) rfl) (x := 519) rfl ?_
          refine w_iload_n rX10_flows_184 rfl ?_
          have h185 := q.1
          replace q := q.2
          refine x_iaload rX10_flows_185 (G_at (by decide) rfl rfl h185) ?_
          refine w_i2f rX10_flows_186 ?_
          refine w_fsub rX10_flows_187 q.1 ?_
          replace q := q.2
          refine w_goto rX10_flows_188 ?_
          exact j175 _ (if_neg h175).symm
      refine w_ifge rX10_flows_134 (fun h134 => ?_) (fun h134 => ?_)
      · skip
        refine w_fload rX10_flows_141 rfl ?_
        refine w_fload rX10_flows_143 rfl ?_
        refine w_fcmp rX10_flows_145 ?_
        refine w_ifle rX10_flows_146 (fun h146 => ?_) (fun h146 => ?_)
        · skip
          refine w_fload rX10_flows_154 rfl ?_
          exact j134 _ ((if_pos h134).trans (if_pos h146)).symm
        · skip
          refine w_fload rX10_flows_149 rfl ?_
          refine w_goto rX10_flows_151 ?_
          exact j134 _ ((if_pos h134).trans (if_neg h146)).symm
      · skip
        refine w_fconst rX10_flows_137 (x := 0) rfl ?_
        refine w_goto rX10_flows_138 ?_
        exact j134 _ (if_neg h134).symm
    · replace q := q.2 h106
      refine w_aload_n rX10_flows_109 rfl ?_
      refine w_iload_n rX10_flows_110 rfl ?_
      refine w_invokevirtual rX10_flows_111 rfl rfl rfl (Nat.le_of_ble_eq_true rfl) ⟨trivial, trivial, trivial⟩ (G_is (by decide) rfl) (by decide) (by decide) ?_
      exact q
  replace q := q.1
  refine w_ifne rX10_flows_79 (fun h79 => ?_) (fun h79 => ?_)
  · skip
    refine w_fconst rX10_flows_96 (x := 0) rfl ?_
    exact j79 _ (if_neg h79).symm
  · replace q := q h79
    refine w_aload_n rX10_flows_82 rfl ?_
    refine w_getR rX10_flows_83 rfl rfl (G_is (by decide) rfl) (x := 514) rfl ?_
    refine w_aload_n rX10_flows_86 rfl ?_
    refine w_getR rX10_flows_87 rfl rfl (G_is (by decide) rfl) (x := 524) rfl ?_
    refine w_iload_n rX10_flows_90 rfl ?_
    have h91 := q.1
    replace q := q.2
    refine x_iaload rX10_flows_91 (G_at (by decide) rfl rfl h91) ?_
    have h92 := q.1
    replace q := q.2
    refine x_faload rX10_flows_92 (G_at (by decide) rfl rfl h92) ?_
    refine w_goto rX10_flows_93 ?_
    exact j79 _ (if_pos h79).symm
theorem k_X10_flows_114 {X : Nat × (Nat → Int32)} {I : Nat → Nat → Int32} {L : Nat → Nat → Int64} {F : Nat → Nat → UInt32} {Q : AQ} {x1 : Int32} {x2 : Int32} {y3 : UInt32} {e0 : UInt32} (q : vp_in x1 3 ∧ (vf_n32 (FP.fadd (F 520 (Int32.toNatClampNeg x1)) y3) ∧ (∀ s134_0 : UInt32, s134_0 = (if 0 ≤ (Op.cmpValue (FP.fcmp e0 0) .g) then (if (Op.cmpValue (FP.fcmp e0 (FP.fadd (F 520 (Int32.toNatClampNeg x1)) y3)) .l) ≤ 0 then e0 else (FP.fadd (F 520 (Int32.toNatClampNeg x1)) y3) : UInt32) else 0 : UInt32) → (vf_n32 (FP.fsub (FP.fadd (F 520 (Int32.toNatClampNeg x1)) y3) s134_0) ∧ (vp_in x1 3 ∧ (((¬ (Op.cmpValue (FP.fcmp (FP.fsub (FP.fadd (F 520 (Int32.toNatClampNeg x1)) y3) s134_0) (FP.i2f (I 519 (Int32.toNatClampNeg x1)))) .l) ≤ 0 → vp_in x1 3 ∧ (vf_n32 (FP.fsub (FP.fsub (FP.fadd (F 520 (Int32.toNatClampNeg x1)) y3) s134_0) (FP.i2f (I 519 (Int32.toNatClampNeg x1)))) ∧ (True)))) ∧ (∀ s175_0 : UInt32, s175_0 = (if (Op.cmpValue (FP.fcmp (FP.fsub (FP.fadd (F 520 (Int32.toNatClampNeg x1)) y3) s134_0) (FP.i2f (I 519 (Int32.toNatClampNeg x1)))) .l) ≤ 0 then 0 else (FP.fsub (FP.fsub (FP.fadd (F 520 (Int32.toNatClampNeg x1)) y3) s134_0) (FP.i2f (I 519 (Int32.toNatClampNeg x1)))) : UInt32) → (vf_n32 (FP.fsub (FP.fsub (FP.fadd (F 520 (Int32.toNatClampNeg x1)) y3) s134_0) s175_0) ∧ (vp_in x1 3 ∧ (vf_n32 (FP.fadd s134_0 s175_0) ∧ (vp_in ((201 * x1) + (I 498 1)) 603 ∧ (Q (.inl none) (G X I L (am_u (am_u F 520 (Int32.toNatClampNeg x1) (FP.fsub (FP.fsub (FP.fadd (F 520 (Int32.toNatClampNeg x1)) y3) s134_0) s175_0)) 525 (Int32.toNatClampNeg ((201 * x1) + (I 498 1))) (FP.fadd s134_0 s175_0))))))))))))))) : WP mX10_flows 114 [some (.ref 498), some (.int x1), some (.int x2), some (.float y3), none, none, none, none, none] [.float e0] (G X I L F) 0 0 Q := by
  refine w_goto rX10_flows_114 ?_
  refine w_fstore rX10_flows_118 rfl trivial ?_
  refine w_aload_n rX10_flows_120 rfl ?_
  refine w_getR rX10_flows_121 rfl rfl (G_is (by decide) rfl) (x := 520) rfl ?_
  refine w_iload_n rX10_flows_124 rfl ?_
  have h125 := q.1
  replace q := q.2
  refine x_faload rX10_flows_125 (G_at (by decide) rfl rfl h125) ?_
  refine w_fload_n rX10_flows_126 rfl ?_
  refine w_fadd rX10_flows_127 q.1 ?_
  replace q := q.2
  refine w_fstore rX10_flows_128 rfl trivial ?_
  refine w_fload rX10_flows_130 rfl ?_
  refine w_fconst rX10_flows_132 (x := 0) rfl ?_
  refine w_fcmp rX10_flows_133 ?_
  have j134 : ∀ s134_0 : UInt32, s134_0 = (if 0 ≤ (Op.cmpValue (FP.fcmp e0 0) .g) then (if (Op.cmpValue (FP.fcmp e0 (FP.fadd (F 520 (Int32.toNatClampNeg x1)) y3)) .l) ≤ 0 then e0 else (FP.fadd (F 520 (Int32.toNatClampNeg x1)) y3) : UInt32) else 0 : UInt32) → WP mX10_flows 156 [some (.ref 498), some (.int x1), some (.int x2), some (.float y3), some (.float e0), some (.float (FP.fadd (F 520 (Int32.toNatClampNeg x1)) y3)), none, none, none] [.float s134_0] (G X I L F) 0 0 Q := by
    intro s134_0 es134_0
    replace q := q s134_0 es134_0
    refine w_fstore rX10_flows_156 rfl trivial ?_
    refine w_fload rX10_flows_158 rfl ?_
    refine w_fload rX10_flows_160 rfl ?_
    refine w_fsub rX10_flows_162 q.1 ?_
    replace q := q.2
    refine w_fstore rX10_flows_163 rfl trivial ?_
    refine w_fload rX10_flows_165 rfl ?_
    refine w_aload_n rX10_flows_167 rfl ?_
    refine w_getR rX10_flows_168 rfl rfl (G_is (by decide) rfl) (x := 519) rfl ?_
    refine w_iload_n rX10_flows_171 rfl ?_
    have h172 := q.1
    replace q := q.2
    refine x_iaload rX10_flows_172 (G_at (by decide) rfl rfl h172) ?_
    refine w_i2f rX10_flows_173 ?_
    refine w_fcmp rX10_flows_174 ?_
    have j175 : ∀ s175_0 : UInt32, s175_0 = (if (Op.cmpValue (FP.fcmp (FP.fsub (FP.fadd (F 520 (Int32.toNatClampNeg x1)) y3) s134_0) (FP.i2f (I 519 (Int32.toNatClampNeg x1)))) .l) ≤ 0 then 0 else (FP.fsub (FP.fsub (FP.fadd (F 520 (Int32.toNatClampNeg x1)) y3) s134_0) (FP.i2f (I 519 (Int32.toNatClampNeg x1)))) : UInt32) → WP mX10_flows 192 [some (.ref 498), some (.int x1), some (.int x2), some (.float y3), some (.float e0), some (.float (FP.fadd (F 520 (Int32.toNatClampNeg x1)) y3)), some (.float s134_0), some (.float (FP.fsub (FP.fadd (F 520 (Int32.toNatClampNeg x1)) y3) s134_0)), none] [.float s175_0] (G X I L F) 0 0 Q := by
      intro s175_0 es175_0
      replace q := q.2
      replace q := q s175_0 es175_0
      refine w_fstore rX10_flows_192 rfl trivial ?_
      refine w_aload_n rX10_flows_194 rfl ?_
      refine w_getR rX10_flows_195 rfl rfl (G_is (by decide) rfl) (x := 520) rfl ?_
      refine w_iload_n rX10_flows_198 rfl ?_
      refine w_fload rX10_flows_199 rfl ?_
      refine w_fload rX10_flows_201 rfl ?_
      refine w_fsub rX10_flows_203 q.1 ?_
      replace q := q.2
      have h204 := q.1
      replace q := q.2
      refine x_fastore rX10_flows_204 (G_at (by decide) rfl rfl h204) ?_
      refine w_aload_n rX10_flows_205 rfl ?_
      refine w_getR rX10_flows_206 rfl rfl (G_is (by decide) rfl) (x := 525) rfl ?_
      refine w_sipush rX10_flows_209 (x := 201) (by decide) ?_
      refine w_iload_n rX10_flows_212 rfl ?_
      refine w_imul rX10_flows_213 ?_
      refine w_aload_n rX10_flows_214 rfl ?_
      refine x_getI rX10_flows_215 rfl rfl (G_is (by decide) rfl) ?_
      refine w_iadd rX10_flows_218 ?_
      refine w_fload rX10_flows_219 rfl ?_
      refine w_fload rX10_flows_221 rfl ?_
      refine w_fadd rX10_flows_223 q.1 ?_
      replace q := q.2
      have h224 := q.1
      replace q := q.2
      refine x_fastore rX10_flows_224 (G_at (by decide) rfl rfl h224) ?_
      refine w_return rX10_flows_225 ?_
      exact q
    replace q := q.1
    refine w_ifle rX10_flows_175 (fun h175 => ?_) (fun h175 => ?_)
    · skip
      refine w_fconst rX10_flows_191 (x := 0) rfl ?_
      exact j175 _ (if_pos h175).symm
    · replace q := q h175
      refine w_fload rX10_flows_178 rfl ?_
      refine w_aload_n rX10_flows_180 rfl ?_
      refine w_getR rX10_flows_181 rfl rfl (G_is (by decide) rfl) (x := 519) rfl ?_
      refine w_iload_n rX10_flows_184 rfl ?_
      have h185 := q.1
      replace q := q.2
      refine x_iaload rX10_flows_185 (G_at (by decide) rfl rfl h185) ?_
      refine w_i2f rX10_flows_186 ?_
      refine w_fsub rX10_flows_187 q.1 ?_
      replace q := q.2
      refine w_goto rX10_flows_188 ?_
      exact j175 _ (if_neg h175).symm
  refine w_ifge rX10_flows_134 (fun h134 => ?_) (fun h134 => ?_)
  · skip
    refine w_fload rX10_flows_141 rfl ?_
    refine w_fload rX10_flows_143 rfl ?_
    refine w_fcmp rX10_flows_145 ?_
    refine w_ifle rX10_flows_146 (fun h146 => ?_) (fun h146 => ?_)
    · skip
      refine w_fload rX10_flows_154 rfl ?_
      exact j134 _ ((if_pos h134).trans (if_pos h146)).symm
    · skip
      refine w_fload rX10_flows_149 rfl ?_
      refine w_goto rX10_flows_151 ?_
      exact j134 _ ((if_pos h134).trans (if_neg h146)).symm
  · skip
    refine w_fconst rX10_flows_137 (x := 0) rfl ?_
    refine w_goto rX10_flows_138 ?_
    exact j134 _ (if_neg h134).symm
theorem k_X10_judges_0 {X : Nat × (Nat → Int32)} {I : Nat → Nat → Int32} {L : Nat → Nat → Int64} {F : Nat → Nat → UInt32} {Q : AQ} {sir : Int32} (q : vp_in sir 60 ∧ (vp_in sir 60 ∧ (WP mX10_whyOf 0 (am_ent 7 [.ref 498, .int (I 533 (Int32.toNatClampNeg sir))]) [] (G X I L F) 0 0 (am_kq mX10_judges 16 [some (.ref 498), some (.int sir), some (.int (I 532 (Int32.toNatClampNeg sir))), some (.int (I 533 (Int32.toNatClampNeg sir))), none] [] (0 + am_bc mX10_whyOf) (0 + am_bs mX10_whyOf) Q)))) : WP mX10_judges 0 (am_ent 5 [.ref 498, .int sir]) [] (G X I L F) 0 0 Q := by
  refine w_aload_n rX10_judges_0 rfl ?_
  refine w_getR rX10_judges_1 rfl rfl (G_is (by decide) rfl) (x := 532) rfl ?_
  refine w_iload_n rX10_judges_4 rfl ?_
  have h5 := q.1
  replace q := q.2
  refine x_iaload rX10_judges_5 (G_at (by decide) rfl rfl h5) ?_
  refine w_istore_n rX10_judges_6 rfl trivial ?_
  refine w_aload_n rX10_judges_7 rfl ?_
  refine w_getR rX10_judges_8 rfl rfl (G_is (by decide) rfl) (x := 533) rfl ?_
  refine w_iload_n rX10_judges_11 rfl ?_
  have h12 := q.1
  replace q := q.2
  refine x_iaload rX10_judges_12 (G_at (by decide) rfl rfl h12) ?_
  refine w_istore_n rX10_judges_13 rfl trivial ?_
  refine w_aload_n rX10_judges_14 rfl ?_
  refine w_iload_n rX10_judges_15 rfl ?_
  refine w_invokevirtual rX10_judges_16 rfl rfl rfl (Nat.le_of_ble_eq_true rfl) ⟨trivial, trivial, trivial⟩ (G_is (by decide) rfl) (by decide) (by decide) ?_
  exact q
theorem k_X10_judges_19 {X : Nat × (Nat → Int32)} {I : Nat → Nat → Int32} {L : Nat → Nat → Int64} {F : Nat → Nat → UInt32} {Q : AQ} {x1 : Int32} {x2 : Int32} {x3 : Int32} {e0 : Int32} (q : ((e0 = 0 → vp_in ((201 * x2) + (I 498 1)) 603 ∧ (vp_in x2 3 ∧ (((Op.cmpValue (FP.fcmp (F 525 (Int32.toNatClampNeg ((201 * x2) + (I 498 1)))) (FP.i2f (I 528 (Int32.toNatClampNeg x2)))) .l) < 0 → vp_in x3 40 ∧ ((¬ (I 498 1) < (I 513 (Int32.toNatClampNeg x3)) → vp_in x1 60 ∧ (vp_in x2 3 ∧ (vf_n32 (FP.fmul (F 530 (Int32.toNatClampNeg x2)) 1061158912) ∧ (vp_in x2 3 ∧ (True))))))) ∧ (¬ (Op.cmpValue (FP.fcmp (F 525 (Int32.toNatClampNeg ((201 * x2) + (I 498 1)))) (FP.i2f (I 528 (Int32.toNatClampNeg x2)))) .l) < 0 → vp_in x2 3 ∧ (vf_n32 (FP.fsub 1065353216 (F 530 (Int32.toNatClampNeg x2))) ∧ (vp_in x1 60 ∧ (vp_in x2 3 ∧ (vf_n32 (FP.fmul (FP.fsub 1065353216 (F 530 (Int32.toNatClampNeg x2))) 1056964608) ∧ (vf_n32 (FP.fadd (F 530 (Int32.toNatClampNeg x2)) (FP.fmul (FP.fsub 1065353216 (F 530 (Int32.toNatClampNeg x2))) 1056964608)) ∧ (vp_in x2 3 ∧ (vp_in x2 3 ∧ (vp_in x1 60 ∧ (vp_in x2 3 ∧ (((¬ ((I 498 1) - (I 534 (Int32.toNatClampNeg x1))) < (I 529 (Int32.toNatClampNeg x2)) → vp_in x1 60 ∧ (True))) ∧ (vp_in x2 3 ∧ (True)))))))))))))))) ∧ (¬ e0 = 0 → vp_in x1 60 ∧ (vp_in x2 3 ∧ (vf_n32 (FP.fmul (F 530 (Int32.toNatClampNeg x2)) 1063675494) ∧ (vp_in x2 3 ∧ (True)))))) ∧ (∀ I19 : Nat → Nat → Int32, I19 = (if e0 = 0 then (if (Op.cmpValue (FP.fcmp (F 525 (Int32.toNatClampNeg ((201 * x2) + (I 498 1)))) (FP.i2f (I 528 (Int32.toNatClampNeg x2)))) .l) < 0 then (if (I 498 1) < (I 513 (Int32.toNatClampNeg x3)) then I else (am_u I 535 (Int32.toNatClampNeg x1) 2) : Nat → Nat → Int32) else (am_u (am_u I 535 (Int32.toNatClampNeg x1) 1) 531 (Int32.toNatClampNeg x2) ((I 531 (Int32.toNatClampNeg x2)) + (if ((I 498 1) - (I 534 (Int32.toNatClampNeg x1))) < (I 529 (Int32.toNatClampNeg x2)) then 0 else (I 536 (Int32.toNatClampNeg x1)) : Int32))) : Nat → Nat → Int32) else (am_u I 535 (Int32.toNatClampNeg x1) 3) : Nat → Nat → Int32) → ∀ F19 : Nat → Nat → UInt32, F19 = (if e0 = 0 then (if (Op.cmpValue (FP.fcmp (F 525 (Int32.toNatClampNeg ((201 * x2) + (I 498 1)))) (FP.i2f (I 528 (Int32.toNatClampNeg x2)))) .l) < 0 then (if (I 498 1) < (I 513 (Int32.toNatClampNeg x3)) then F else (am_u F 530 (Int32.toNatClampNeg x2) (FP.fmul (F 530 (Int32.toNatClampNeg x2)) 1061158912)) : Nat → Nat → UInt32) else (am_u F 530 (Int32.toNatClampNeg x2) (FP.fadd (F 530 (Int32.toNatClampNeg x2)) (FP.fmul (FP.fsub 1065353216 (F 530 (Int32.toNatClampNeg x2))) 1056964608))) : Nat → Nat → UInt32) else (am_u F 530 (Int32.toNatClampNeg x2) (FP.fmul (F 530 (Int32.toNatClampNeg x2)) 1063675494)) : Nat → Nat → UInt32) → ∀ d19_4 : Option Value, am_nl [d19_4] 1 → (Q (.inl none) (G X I19 L F19)))) : WP mX10_judges 19 [some (.ref 498), some (.int x1), some (.int x2), some (.int x3), none] [.int e0] (G X I L F) 0 0 Q := by
  have j19 : ∀ I19 : Nat → Nat → Int32, I19 = (if e0 = 0 then (if (Op.cmpValue (FP.fcmp (F 525 (Int32.toNatClampNeg ((201 * x2) + (I 498 1)))) (FP.i2f (I 528 (Int32.toNatClampNeg x2)))) .l) < 0 then (if (I 498 1) < (I 513 (Int32.toNatClampNeg x3)) then I else (am_u I 535 (Int32.toNatClampNeg x1) 2) : Nat → Nat → Int32) else (am_u (am_u I 535 (Int32.toNatClampNeg x1) 1) 531 (Int32.toNatClampNeg x2) ((I 531 (Int32.toNatClampNeg x2)) + (if ((I 498 1) - (I 534 (Int32.toNatClampNeg x1))) < (I 529 (Int32.toNatClampNeg x2)) then 0 else (I 536 (Int32.toNatClampNeg x1)) : Int32))) : Nat → Nat → Int32) else (am_u I 535 (Int32.toNatClampNeg x1) 3) : Nat → Nat → Int32) → ∀ F19 : Nat → Nat → UInt32, F19 = (if e0 = 0 then (if (Op.cmpValue (FP.fcmp (F 525 (Int32.toNatClampNeg ((201 * x2) + (I 498 1)))) (FP.i2f (I 528 (Int32.toNatClampNeg x2)))) .l) < 0 then (if (I 498 1) < (I 513 (Int32.toNatClampNeg x3)) then F else (am_u F 530 (Int32.toNatClampNeg x2) (FP.fmul (F 530 (Int32.toNatClampNeg x2)) 1061158912)) : Nat → Nat → UInt32) else (am_u F 530 (Int32.toNatClampNeg x2) (FP.fadd (F 530 (Int32.toNatClampNeg x2)) (FP.fmul (FP.fsub 1065353216 (F 530 (Int32.toNatClampNeg x2))) 1056964608))) : Nat → Nat → UInt32) else (am_u F 530 (Int32.toNatClampNeg x2) (FP.fmul (F 530 (Int32.toNatClampNeg x2)) 1063675494)) : Nat → Nat → UInt32) → ∀ d19_4 : Option Value, am_nl [d19_4] 1 → WP mX10_judges 188 [some (.ref 498), some (.int x1), some (.int x2), some (.int x3), d19_4] [] (G X I19 L F19) 0 0 Q := by
    intro I19 eI19 F19 eF19 d19_4 nd19_4
    replace q := q.2
    replace q := q I19 eI19 F19 eF19 d19_4 nd19_4
    refine w_return rX10_judges_188 ?_
    exact q
  replace q := q.1
  refine w_ifeq rX10_judges_19 (fun h19 => ?_) (fun h19 => ?_)
  · replace q := q.1 h19
    refine w_aload_n rX10_judges_48 rfl ?_
    refine w_getR rX10_judges_49 rfl rfl (G_is (by decide) rfl) (x := 525) rfl ?_
    refine w_sipush rX10_judges_52 (x := 201) (by decide) ?_
    refine w_iload_n rX10_judges_55 rfl ?_
    refine w_imul rX10_judges_56 ?_
    refine w_aload_n rX10_judges_57 rfl ?_
    refine x_getI rX10_judges_58 rfl rfl (G_is (by decide) rfl) ?_
    refine w_iadd rX10_judges_61 ?_
    have h62 := q.1
    replace q := q.2
    refine x_faload rX10_judges_62 (G_at (by decide) rfl rfl h62) ?_
    refine w_aload_n rX10_judges_63 rfl ?_
    refine w_getR rX10_judges_64 rfl rfl (G_is (by decide) rfl) (x := 528) rfl ?_
    refine w_iload_n rX10_judges_67 rfl ?_
    have h68 := q.1
    replace q := q.2
    refine x_iaload rX10_judges_68 (G_at (by decide) rfl rfl h68) ?_
    refine w_i2f rX10_judges_69 ?_
    refine w_fcmp rX10_judges_70 ?_
    refine w_iflt rX10_judges_71 (fun h71 => ?_) (fun h71 => ?_)
    · replace q := q.1 h71
      refine w_aload_n rX10_judges_152 rfl ?_
      refine x_getI rX10_judges_153 rfl rfl (G_is (by decide) rfl) ?_
      refine w_aload_n rX10_judges_156 rfl ?_
      refine w_getR rX10_judges_157 rfl rfl (G_is (by decide) rfl) (x := 513) rfl ?_
      refine w_iload_n rX10_judges_160 rfl ?_
      have h161 := q.1
      replace q := q.2
      refine x_iaload rX10_judges_161 (G_at (by decide) rfl rfl h161) ?_
      refine w_icmplt rX10_judges_162 (fun h162 => ?_) (fun h162 => ?_)
      · skip
        exact j19 _ (((if_pos h19).trans (if_pos h71)).trans (if_pos h162)).symm _ (((if_pos h19).trans (if_pos h71)).trans (if_pos h162)).symm (none) trivial
      · replace q := q h162
        refine w_aload_n rX10_judges_165 rfl ?_
        refine w_getR rX10_judges_166 rfl rfl (G_is (by decide) rfl) (x := 535) rfl ?_
        refine w_iload_n rX10_judges_169 rfl ?_
        refine w_iconst rX10_judges_170 (x := 2) (by decide) ?_
        have h171 := q.1
        replace q := q.2
        refine x_iastore rX10_judges_171 (G_at (by decide) rfl rfl h171) ?_
        refine w_aload_n rX10_judges_172 rfl ?_
        refine w_getR rX10_judges_173 rfl rfl (G_is (by decide) rfl) (x := 530) rfl ?_
        refine w_iload_n rX10_judges_176 rfl ?_
        refine w_aload_n rX10_judges_177 rfl ?_
        refine w_getR rX10_judges_178 rfl rfl (G_is (by decide) rfl) (x := 530) rfl ?_
        refine w_iload_n rX10_judges_181 rfl ?_
        have h182 := q.1
        replace q := q.2
        refine x_faload rX10_judges_182 (G_at (by decide) rfl rfl h182) ?_
        refine w_ldc_wF rX10_judges_183 (x := 1061158912) (by decide) ?_
        refine w_fmul rX10_judges_186 q.1 ?_
        replace q := q.2
        have h187 := q.1
        replace q := q.2
        refine x_fastore rX10_judges_187 (G_at (by decide) rfl rfl h187) ?_
        exact j19 _ (((if_pos h19).trans (if_pos h71)).trans (if_neg h162)).symm _ (((if_pos h19).trans (if_pos h71)).trans (if_neg h162)).symm (none) trivial
    · replace q := q.2 h71
      refine w_fconst rX10_judges_74 (x := 1065353216) rfl ?_
      refine w_aload_n rX10_judges_75 rfl ?_
      refine w_getR rX10_judges_76 rfl rfl (G_is (by decide) rfl) (x := 530) rfl ?_
      refine w_iload_n rX10_judges_79 rfl ?_
      have h80 := q.1
      replace q := q.2
      refine x_faload rX10_judges_80 (G_at (by decide) rfl rfl h80) ?_
      refine w_fsub rX10_judges_81 q.1 ?_
      replace q := q.2
      refine w_fstore rX10_judges_82 rfl trivial ?_
      refine w_aload_n rX10_judges_84 rfl ?_
      refine w_getR rX10_judges_85 rfl rfl (G_is (by decide) rfl) (x := 535) rfl ?_
      refine w_iload_n rX10_judges_88 rfl ?_
      refine w_iconst rX10_judges_89 (x := 1) (by decide) ?_
      have h90 := q.1
      replace q := q.2
      refine x_iastore rX10_judges_90 (G_at (by decide) rfl rfl h90) ?_
      refine w_aload_n rX10_judges_91 rfl ?_
      refine w_getR rX10_judges_92 rfl rfl (G_is (by decide) rfl) (x := 530) rfl ?_
      refine w_iload_n rX10_judges_95 rfl ?_
      refine w_aload_n rX10_judges_96 rfl ?_
      refine w_getR rX10_judges_97 rfl rfl (G_is (by decide) rfl) (x := 530) rfl ?_
      refine w_iload_n rX10_judges_100 rfl ?_
      have h101 := q.1
      replace q := q.2
      refine x_faload rX10_judges_101 (G_at (by decide) rfl rfl h101) ?_
      refine w_fload rX10_judges_102 rfl ?_
      refine w_ldc_wF rX10_judges_104 (x := 1056964608) (by decide) ?_
      refine w_fmul rX10_judges_107 q.1 ?_
      replace q := q.2
      refine w_fadd rX10_judges_108 q.1 ?_
      replace q := q.2
      have h109 := q.1
      replace q := q.2
      refine x_fastore rX10_judges_109 (G_at (by decide) rfl rfl h109) ?_
      refine w_aload_n rX10_judges_110 rfl ?_
      refine w_getR rX10_judges_111 rfl rfl (G_is (by decide) rfl) (x := 531) rfl ?_
      refine w_iload_n rX10_judges_114 rfl ?_
      refine w_dup2 rX10_judges_115 trivial trivial ?_
      have h116 := q.1
      replace q := q.2
      refine x_iaload rX10_judges_116 (G_at (by decide) rfl rfl h116) ?_
      rw [au_ne (f := I) (o := 535) (k := (Int32.toNatClampNeg x1)) (a := 531) (b := (Int32.toNatClampNeg x2)) (fun z => absurd z.1 (by decide))]
      refine w_aload_n rX10_judges_117 rfl ?_
      refine x_getI rX10_judges_118 rfl rfl (G_is (by decide) rfl) ?_
      rw [au_ne (f := I) (o := 535) (k := (Int32.toNatClampNeg x1)) (a := 498) (b := 1) (fun z => absurd z.1 (by decide))]
      refine w_aload_n rX10_judges_121 rfl ?_
      refine w_getR rX10_judges_122 rfl rfl (G_is (by decide) rfl) (x := 534) rfl ?_
      refine w_iload_n rX10_judges_125 rfl ?_
      have h126 := q.1
      replace q := q.2
      refine x_iaload rX10_judges_126 (G_at (by decide) rfl rfl h126) ?_
      rw [au_ne (f := I) (o := 535) (k := (Int32.toNatClampNeg x1)) (a := 534) (b := (Int32.toNatClampNeg x1)) (fun z => absurd z.1 (by decide))]
      refine w_isub rX10_judges_127 ?_
      refine w_aload_n rX10_judges_128 rfl ?_
      refine w_getR rX10_judges_129 rfl rfl (G_is (by decide) rfl) (x := 529) rfl ?_
      refine w_iload_n rX10_judges_132 rfl ?_
      have h133 := q.1
      replace q := q.2
      refine x_iaload rX10_judges_133 (G_at (by decide) rfl rfl h133) ?_
      rw [au_ne (f := I) (o := 535) (k := (Int32.toNatClampNeg x1)) (a := 529) (b := (Int32.toNatClampNeg x2)) (fun z => absurd z.1 (by decide))]
      have j134 : ∀ s134_3 : Int32, s134_3 = (if ((I 498 1) - (I 534 (Int32.toNatClampNeg x1))) < (I 529 (Int32.toNatClampNeg x2)) then 0 else (I 536 (Int32.toNatClampNeg x1)) : Int32) → WP mX10_judges 147 [some (.ref 498), some (.int x1), some (.int x2), some (.int x3), some (.float (FP.fsub 1065353216 (F 530 (Int32.toNatClampNeg x2))))] [.int s134_3, .int (I 531 (Int32.toNatClampNeg x2)), .int x2, .ref 531] (G X (am_u I 535 (Int32.toNatClampNeg x1) 1) L (am_u F 530 (Int32.toNatClampNeg x2) (FP.fadd (F 530 (Int32.toNatClampNeg x2)) (FP.fmul (FP.fsub 1065353216 (F 530 (Int32.toNatClampNeg x2))) 1056964608)))) 0 0 Q := by
        intro s134_3 es134_3
        subst es134_3
        skip
        replace q := q.2
        refine w_iadd rX10_judges_147 ?_
        have h148 := q.1
        replace q := q.2
        refine x_iastore rX10_judges_148 (G_at (by decide) rfl rfl h148) ?_
        refine w_goto rX10_judges_149 ?_
        exact j19 _ ((if_pos h19).trans (if_neg h71)).symm _ ((if_pos h19).trans (if_neg h71)).symm (some (.float (FP.fsub 1065353216 (F 530 (Int32.toNatClampNeg x2))))) trivial
      replace q := q.1
      refine w_icmplt rX10_judges_134 (fun h134 => ?_) (fun h134 => ?_)
      · skip
        refine w_iconst rX10_judges_146 (x := 0) (by decide) ?_
        exact j134 _ (if_pos h134).symm
      · replace q := q h134
        refine w_aload_n rX10_judges_137 rfl ?_
        refine w_getR rX10_judges_138 rfl rfl (G_is (by decide) rfl) (x := 536) rfl ?_
        refine w_iload_n rX10_judges_141 rfl ?_
        have h142 := q.1
        replace q := q.2
        refine x_iaload rX10_judges_142 (G_at (by decide) rfl rfl h142) ?_
        rw [au_ne (f := I) (o := 535) (k := (Int32.toNatClampNeg x1)) (a := 536) (b := (Int32.toNatClampNeg x1)) (fun z => absurd z.1 (by decide))]
        refine w_goto rX10_judges_143 ?_
        exact j134 _ (if_neg h134).symm
  · replace q := q.2 h19
    refine w_aload_n rX10_judges_22 rfl ?_
    refine w_getR rX10_judges_23 rfl rfl (G_is (by decide) rfl) (x := 535) rfl ?_
    refine w_iload_n rX10_judges_26 rfl ?_
    refine w_iconst rX10_judges_27 (x := 3) (by decide) ?_
    have h28 := q.1
    replace q := q.2
    refine x_iastore rX10_judges_28 (G_at (by decide) rfl rfl h28) ?_
    refine w_aload_n rX10_judges_29 rfl ?_
    refine w_getR rX10_judges_30 rfl rfl (G_is (by decide) rfl) (x := 530) rfl ?_
    refine w_iload_n rX10_judges_33 rfl ?_
    refine w_aload_n rX10_judges_34 rfl ?_
    refine w_getR rX10_judges_35 rfl rfl (G_is (by decide) rfl) (x := 530) rfl ?_
    refine w_iload_n rX10_judges_38 rfl ?_
    have h39 := q.1
    replace q := q.2
    refine x_faload rX10_judges_39 (G_at (by decide) rfl rfl h39) ?_
    refine w_ldc_wF rX10_judges_40 (x := 1063675494) (by decide) ?_
    refine w_fmul rX10_judges_43 q.1 ?_
    replace q := q.2
    have h44 := q.1
    replace q := q.2
    refine x_fastore rX10_judges_44 (G_at (by decide) rfl rfl h44) ?_
    refine w_goto rX10_judges_45 ?_
    exact j19 _ (if_neg h19).symm _ (if_neg h19).symm (none) trivial
theorem k_X10_pass_0 {X : Nat × (Nat → Int32)} {I : Nat → Nat → Int32} {L : Nat → Nat → Int64} {F : Nat → Nat → UInt32} {Q : AQ} {hours : Int32} (q : ∀ s8_1 : Int32, s8_1 = (if (f_X10_isIn hours 1 24) = 0 then 1 else (if ((I 498 1) + hours) ≤ 200 then 0 else 2 : Int32) : Int32) → (((f_X10_holds s8_1) = 0 → Q (.inl (some (.int 0))) (G X (fI_X10_holds s8_1 I) L F)) ∧ (¬ (f_X10_holds s8_1) = 0 → WP mX10_pass 42 [some (.ref 498), some (.int hours), some (.int 0), none] [] (G X (fI_X10_holds s8_1 I) L F) 0 0 Q))) : WP mX10_pass 0 (am_ent 4 [.ref 498, .int hours]) [] (G X I L F) 0 0 Q := by
  refine w_aload_n rX10_pass_0 rfl ?_
  refine w_iload_n rX10_pass_1 rfl ?_
  refine w_iconst rX10_pass_2 (x := 1) (by decide) ?_
  refine w_bipush rX10_pass_3 (x := 24) (by decide) ?_
  refine w_invokestatic rX10_pass_5 rfl rfl rfl (Nat.le_of_ble_eq_true rfl) ⟨trivial, trivial, trivial, trivial⟩ trivial (by decide) (by decide) ?_
  refine s_X10_isIn ?_
  show WP mX10_pass 8 _ _ _ 0 0 _
  have j8 : ∀ s8_1 : Int32, s8_1 = (if (f_X10_isIn hours 1 24) = 0 then 1 else (if ((I 498 1) + hours) ≤ 200 then 0 else 2 : Int32) : Int32) → WP mX10_pass 32 [some (.ref 498), some (.int hours), none, none] [.int s8_1, .ref 498] (G X I L F) 0 0 Q := by
    intro s8_1 es8_1
    replace q := q s8_1 es8_1
    refine w_invokevirtual rX10_pass_32 rfl rfl rfl (Nat.le_of_ble_eq_true rfl) ⟨trivial, trivial, trivial⟩ (G_is (by decide) rfl) (by decide) (by decide) ?_
    refine s_X10_holds ?_
    show WP mX10_pass 35 _ _ _ 0 0 _
    refine w_ifne rX10_pass_35 (fun h35 => ?_) (fun h35 => ?_)
    · replace q := q.2 h35
      refine w_iconst rX10_pass_40 (x := 0) (by decide) ?_
      refine w_istore_n rX10_pass_41 rfl trivial ?_
      exact q
    · replace q := q.1 h35
      refine w_iconst rX10_pass_38 (x := 0) (by decide) ?_
      refine w_ireturn rX10_pass_39 trivial ?_
      exact q
  refine w_ifne rX10_pass_8 (fun h8 => ?_) (fun h8 => ?_)
  · skip
    refine w_aload_n rX10_pass_15 rfl ?_
    refine x_getI rX10_pass_16 rfl rfl (G_is (by decide) rfl) ?_
    refine w_iload_n rX10_pass_19 rfl ?_
    refine w_iadd rX10_pass_20 ?_
    refine w_sipush rX10_pass_21 (x := 200) (by decide) ?_
    refine w_icmple rX10_pass_24 (fun h24 => ?_) (fun h24 => ?_)
    · skip
      refine w_iconst rX10_pass_31 (x := 0) (by decide) ?_
      exact j8 _ ((if_neg h8).trans (if_pos h24)).symm
    · skip
      refine w_iconst rX10_pass_27 (x := 2) (by decide) ?_
      refine w_goto rX10_pass_28 ?_
      exact j8 _ ((if_neg h8).trans (if_neg h24)).symm
  · skip
    refine w_iconst rX10_pass_11 (x := 1) (by decide) ?_
    refine w_goto rX10_pass_12 ?_
    exact j8 _ (if_pos h8).symm
theorem k_X10_pass_42 {X : Nat × (Nat → Int32)} {I : Nat → Nat → Int32} {L : Nat → Nat → Int64} {F : Nat → Nat → UInt32} {Q : AQ} {x1 : Int32} {x2 : Int32} {d3 : Option Value} (q : (x1 ≤ x2 → Q (.inl (some (.int (I 498 1)))) (G X I L F)) ∧ (¬ x1 ≤ x2 → WP mX10_pass 49 [some (.ref 498), some (.int x1), some (.int x2), some (.int 0)] [] (G X I L F) 0 0 Q)) : WP mX10_pass 42 [some (.ref 498), some (.int x1), some (.int x2), d3] [] (G X I L F) 0 0 Q := by
  refine w_iload_n rX10_pass_42 rfl ?_
  refine w_iload_n rX10_pass_43 rfl ?_
  refine w_icmpge rX10_pass_44 (fun h44 => ?_) (fun h44 => ?_)
  · replace q := q.1 h44
    refine w_aload_n rX10_pass_120 rfl ?_
    refine x_getI rX10_pass_121 rfl rfl (G_is (by decide) rfl) ?_
    refine w_ireturn rX10_pass_124 trivial ?_
    exact q
  · replace q := q.2 h44
    refine w_iconst rX10_pass_47 (x := 0) (by decide) ?_
    refine w_istore_n rX10_pass_48 rfl trivial ?_
    exact q
theorem k_X10_pass_49 {X : Nat × (Nat → Int32)} {I : Nat → Nat → Int32} {L : Nat → Nat → Int64} {F : Nat → Nat → UInt32} {Q : AQ} {x1 : Int32} {x2 : Int32} {x3 : Int32} (q : (3 ≤ x3 → WP mX10_pass 76 [some (.ref 498), some (.int x1), some (.int x2), some (.int 0)] [] (G X I L F) 0 0 Q) ∧ (¬ 3 ≤ x3 → vp_in x3 3 ∧ (((I 517 (Int32.toNatClampNeg x3)) = 0 → WP mX10_pass 68 [some (.ref 498), some (.int x1), some (.int x2), some (.int x3)] [] (G X I L F) 0 0 Q) ∧ (¬ (I 517 (Int32.toNatClampNeg x3)) = 0 → WP mX10_flows 0 (am_ent 9 [.ref 498, .int x3]) [] (G X I L F) 0 0 (am_kq mX10_pass 65 [some (.ref 498), some (.int x1), some (.int x2), some (.int x3)] [] (0 + am_bc mX10_flows) (0 + am_bs mX10_flows) Q))))) : WP mX10_pass 49 [some (.ref 498), some (.int x1), some (.int x2), some (.int x3)] [] (G X I L F) 0 0 Q := by
  refine w_iload_n rX10_pass_49 rfl ?_
  refine w_iconst rX10_pass_50 (x := 3) (by decide) ?_
  refine w_icmpge rX10_pass_51 (fun h51 => ?_) (fun h51 => ?_)
  · replace q := q.1 h51
    refine w_iconst rX10_pass_74 (x := 0) (by decide) ?_
    refine w_istore_n rX10_pass_75 rfl trivial ?_
    exact q
  · replace q := q.2 h51
    refine w_aload_n rX10_pass_54 rfl ?_
    refine w_getR rX10_pass_55 rfl rfl (G_is (by decide) rfl) (x := 517) rfl ?_
    refine w_iload_n rX10_pass_58 rfl ?_
    have h59 := q.1
    replace q := q.2
    refine x_baload rX10_pass_59 (G_at (by decide) rfl rfl h59) ?_
    refine w_ifeq rX10_pass_60 (fun h60 => ?_) (fun h60 => ?_)
    · replace q := q.1 h60
      exact q
    · replace q := q.2 h60
      refine w_aload_n rX10_pass_63 rfl ?_
      refine w_iload_n rX10_pass_64 rfl ?_
      refine w_invokevirtual rX10_pass_65 rfl rfl rfl (Nat.le_of_ble_eq_true rfl) ⟨trivial, trivial, trivial⟩ (G_is (by decide) rfl) (by decide) (by decide) ?_
      exact q
theorem k_X10_pass_68 {X : Nat × (Nat → Int32)} {I : Nat → Nat → Int32} {L : Nat → Nat → Int64} {F : Nat → Nat → UInt32} {Q : AQ} {x1 : Int32} {x2 : Int32} {x3 : Int32} (q : WP mX10_pass 49 [some (.ref 498), some (.int x1), some (.int x2), some (.int (x3 + 1))] [] (G X I L F) 0 0 Q) : WP mX10_pass 68 [some (.ref 498), some (.int x1), some (.int x2), some (.int x3)] [] (G X I L F) 0 0 Q := by
  refine w_iinc rX10_pass_68 rfl rfl trivial ?_
  refine w_goto rX10_pass_71 ?_
  exact q
theorem k_X10_pass_76 {X : Nat × (Nat → Int32)} {I : Nat → Nat → Int32} {L : Nat → Nat → Int64} {F : Nat → Nat → UInt32} {Q : AQ} {x1 : Int32} {x2 : Int32} {x3 : Int32} (q : ((I 498 39) ≤ x3 → WP mX10_pass 42 [some (.ref 498), some (.int x1), some (.int (x2 + 1)), some (.int x3)] [] (G X (am_u I 498 1 ((I 498 1) + 1)) L F) 0 0 Q) ∧ (¬ (I 498 39) ≤ x3 → vp_in x3 60 ∧ (((I 535 (Int32.toNatClampNeg x3)) = 0 → WP mX10_judges 0 (am_ent 5 [.ref 498, .int x3]) [] (G X I L F) 0 0 (am_kq mX10_pass 95 [some (.ref 498), some (.int x1), some (.int x2), some (.int x3)] [] (0 + am_bc mX10_judges) (0 + am_bs mX10_judges) Q)) ∧ (¬ (I 535 (Int32.toNatClampNeg x3)) = 0 → WP mX10_pass 98 [some (.ref 498), some (.int x1), some (.int x2), some (.int x3)] [] (G X I L F) 0 0 Q)))) : WP mX10_pass 76 [some (.ref 498), some (.int x1), some (.int x2), some (.int x3)] [] (G X I L F) 0 0 Q := by
  refine w_iload_n rX10_pass_76 rfl ?_
  refine w_aload_n rX10_pass_77 rfl ?_
  refine x_getI rX10_pass_78 rfl rfl (G_is (by decide) rfl) ?_
  refine w_icmpge rX10_pass_81 (fun h81 => ?_) (fun h81 => ?_)
  · replace q := q.1 h81
    refine w_aload_n rX10_pass_104 rfl ?_
    refine w_dup rX10_pass_105 trivial ?_
    refine x_getI rX10_pass_106 rfl rfl (G_is (by decide) rfl) ?_
    refine w_iconst rX10_pass_109 (x := 1) (by decide) ?_
    refine w_iadd rX10_pass_110 ?_
    refine x_putI rX10_pass_111 rfl (G_is (by decide) rfl) trivial ?_
    refine w_iinc rX10_pass_114 rfl rfl trivial ?_
    refine w_goto rX10_pass_117 ?_
    exact q
  · replace q := q.2 h81
    refine w_aload_n rX10_pass_84 rfl ?_
    refine w_getR rX10_pass_85 rfl rfl (G_is (by decide) rfl) (x := 535) rfl ?_
    refine w_iload_n rX10_pass_88 rfl ?_
    have h89 := q.1
    replace q := q.2
    refine x_iaload rX10_pass_89 (G_at (by decide) rfl rfl h89) ?_
    refine w_ifne rX10_pass_90 (fun h90 => ?_) (fun h90 => ?_)
    · replace q := q.2 h90
      exact q
    · replace q := q.1 h90
      refine w_aload_n rX10_pass_93 rfl ?_
      refine w_iload_n rX10_pass_94 rfl ?_
      refine w_invokevirtual rX10_pass_95 rfl rfl rfl (Nat.le_of_ble_eq_true rfl) ⟨trivial, trivial, trivial⟩ (G_is (by decide) rfl) (by decide) (by decide) ?_
      exact q
theorem k_X10_pass_98 {X : Nat × (Nat → Int32)} {I : Nat → Nat → Int32} {L : Nat → Nat → Int64} {F : Nat → Nat → UInt32} {Q : AQ} {x1 : Int32} {x2 : Int32} {x3 : Int32} (q : WP mX10_pass 76 [some (.ref 498), some (.int x1), some (.int x2), some (.int (x3 + 1))] [] (G X I L F) 0 0 Q) : WP mX10_pass 98 [some (.ref 498), some (.int x1), some (.int x2), some (.int x3)] [] (G X I L F) 0 0 Q := by
  refine w_iinc rX10_pass_98 rfl rfl trivial ?_
  refine w_goto rX10_pass_101 ?_
  exact q
theorem k_J0_indexOf_0f7a4_0 {X : Nat × (Nat → Int32)} {I : Nat → Nat → Int32} {L : Nat → Nat → Int64} {F : Nat → Nat → UInt32} {Q : AQ} {ch : Int32} (q : WP mJ0_indexOf_7cf53 0 (am_ent 3 [.ref 1000001, .int ch, .int 0]) [] (G X I L F) 0 0 (am_kq mJ0_indexOf_0f7a4 3 [some (.ref 1000001), some (.int ch)] [] (0 + am_bc mJ0_indexOf_7cf53) (0 + am_bs mJ0_indexOf_7cf53) Q)) : WP mJ0_indexOf_0f7a4 0 (am_ent 2 [.ref 1000001, .int ch]) [] (G X I L F) 0 0 Q := by
  refine w_aload_n rJ0_indexOf_0f7a4_0 rfl ?_
  refine w_iload_n rJ0_indexOf_0f7a4_1 rfl ?_
  refine w_iconst rJ0_indexOf_0f7a4_2 (x := 0) (by decide) ?_
  refine w_invokevirtual rJ0_indexOf_0f7a4_3 rfl rfl rfl (Nat.le_of_ble_eq_true rfl) ⟨trivial, trivial, trivial, trivial⟩ rfl (by decide) (by decide) ?_
  exact q
theorem k_J0_indexOf_0f7a4_6 {X : Nat × (Nat → Int32)} {I : Nat → Nat → Int32} {L : Nat → Nat → Int64} {F : Nat → Nat → UInt32} {Q : AQ} {x1 : Int32} {e0 : Int32} (q : Q (.inl (some (.int e0))) (G X I L F)) : WP mJ0_indexOf_0f7a4 6 [some (.ref 1000001), some (.int x1)] [.int e0] (G X I L F) 0 0 Q := by
  refine w_ireturn rJ0_indexOf_0f7a4_6 trivial ?_
  exact q
theorem k_J0_indexOf_7cf53_0 {X : Nat × (Nat → Int32)} {I : Nat → Nat → Int32} {L : Nat → Nat → Int64} {F : Nat → Nat → UInt32} {Q : AQ} {ch : Int32} {start : Int32} (q : WP mJ1_indexOf_4cfef 0 (am_ent 4 [.ref 1000002, .int ch, .int start, .int f_J0_length_8abf5]) [] (G X I L F) 0 0 (am_kq mJ0_indexOf_7cf53 17 [some (.ref 1000001), some (.int ch), some (.int start)] [] (0 + am_bc mJ1_indexOf_4cfef) (0 + am_bs mJ1_indexOf_4cfef) Q)) : WP mJ0_indexOf_7cf53 0 (am_ent 3 [.ref 1000001, .int ch, .int start]) [] (G X I L F) 0 0 Q := by
  refine w_aload_n rJ0_indexOf_7cf53_0 rfl ?_
  refine w_invokevirtual rJ0_indexOf_7cf53_1 rfl rfl rfl (Nat.le_of_ble_eq_true rfl) ⟨trivial, trivial⟩ rfl (by decide) (by decide) ?_
  refine s_J0_isLatin1_aae02 ?_
  show WP mJ0_indexOf_7cf53 4 _ _ _ 0 0 _
  refine w_ifeq rJ0_indexOf_7cf53_4 (fun h => absurd h (show ¬ (1 : Int32) = 0 from by decide)) (fun _ => ?_)
  refine w_aload_n rJ0_indexOf_7cf53_7 rfl ?_
  refine w_getSv rJ0_indexOf_7cf53_8 ?_
  refine w_iload_n rJ0_indexOf_7cf53_11 rfl ?_
  refine w_iload_n rJ0_indexOf_7cf53_12 rfl ?_
  refine w_aload_n rJ0_indexOf_7cf53_13 rfl ?_
  refine w_invokevirtual rJ0_indexOf_7cf53_14 rfl rfl rfl (Nat.le_of_ble_eq_true rfl) ⟨trivial, trivial⟩ rfl (by decide) (by decide) ?_
  refine s_J0_length_8abf5 ?_
  show WP mJ0_indexOf_7cf53 17 _ _ _ 0 0 _
  refine w_invokestatic rJ0_indexOf_7cf53_17 rfl rfl rfl (Nat.le_of_ble_eq_true rfl) ⟨trivial, trivial, trivial, trivial, trivial⟩ trivial (by decide) (by decide) ?_
  exact q
theorem k_J0_indexOf_7cf53_20 {X : Nat × (Nat → Int32)} {I : Nat → Nat → Int32} {L : Nat → Nat → Int64} {F : Nat → Nat → UInt32} {Q : AQ} {x1 : Int32} {x2 : Int32} {e0 : Int32} (q : Q (.inl (some (.int e0))) (G X I L F)) : WP mJ0_indexOf_7cf53 20 [some (.ref 1000001), some (.int x1), some (.int x2)] [.int e0] (G X I L F) 0 0 Q := by
  refine w_goto rJ0_indexOf_7cf53_20 ?_
  refine w_ireturn rJ0_indexOf_7cf53_36 trivial ?_
  exact q
theorem k_J1_indexOf_4cfef_0 {X : Nat × (Nat → Int32)} {I : Nat → Nat → Int32} {L : Nat → Nat → Int64} {F : Nat → Nat → UInt32} {Q : AQ} {ch : Int32} {start : Int32} {stop : Int32} (q : ((f_J1_canEncode_9a6ad ch) = 0 → Q (.inl (some (.int (-1)))) (G X I L F)) ∧ (¬ (f_J1_canEncode_9a6ad ch) = 0 → ((f_J9_max_7cf53 start 0) < (f_J9_min_7cf53 stop 8) → WP mJ1_indexOfChar_4cfef 0 (am_ent 6 [.ref 1000002, .int ch, .int (f_J9_max_7cf53 start 0), .int (f_J9_min_7cf53 stop 8)]) [] (G X I L F) 0 0 (am_kq mJ1_indexOf_4cfef 33 [some (.ref 1000002), some (.int ch), some (.int (f_J9_max_7cf53 start 0)), some (.int (f_J9_min_7cf53 stop 8))] [] (0 + am_bc mJ1_indexOfChar_4cfef) (0 + am_bs mJ1_indexOfChar_4cfef) Q)) ∧ (¬ (f_J9_max_7cf53 start 0) < (f_J9_min_7cf53 stop 8) → Q (.inl (some (.int (-1)))) (G X I L F)))) : WP mJ1_indexOf_4cfef 0 (am_ent 4 [.ref 1000002, .int ch, .int start, .int stop]) [] (G X I L F) 0 0 Q := by
  refine w_iload_n rJ1_indexOf_4cfef_0 rfl ?_
  refine w_invokestatic rJ1_indexOf_4cfef_1 rfl rfl rfl (Nat.le_of_ble_eq_true rfl) ⟨trivial, trivial⟩ trivial (by decide) (by decide) ?_
  refine s_J1_canEncode_9a6ad ?_
  show WP mJ1_indexOf_4cfef 4 _ _ _ 0 0 _
  refine w_ifne rJ1_indexOf_4cfef_4 (fun h4 => ?_) (fun h4 => ?_)
  · replace q := q.2 h4
    refine w_iload_n rJ1_indexOf_4cfef_9 rfl ?_
    refine w_iconst rJ1_indexOf_4cfef_10 (x := 0) (by decide) ?_
    refine w_invokestatic rJ1_indexOf_4cfef_11 rfl rfl rfl (Nat.le_of_ble_eq_true rfl) ⟨trivial, trivial, trivial⟩ trivial (by decide) (by decide) ?_
    refine s_J9_max_7cf53 ?_
    show WP mJ1_indexOf_4cfef 14 _ _ _ 0 0 _
    refine w_istore_n rJ1_indexOf_4cfef_14 rfl trivial ?_
    refine w_iload_n rJ1_indexOf_4cfef_15 rfl ?_
    refine w_aload_n rJ1_indexOf_4cfef_16 rfl ?_
    refine w_lenS rJ1_indexOf_4cfef_17 ?_
    refine w_invokestatic rJ1_indexOf_4cfef_18 rfl rfl rfl (Nat.le_of_ble_eq_true rfl) ⟨trivial, trivial, trivial⟩ trivial (by decide) (by decide) ?_
    refine s_J9_min_7cf53 ?_
    show WP mJ1_indexOf_4cfef 21 _ _ _ 0 0 _
    refine w_istore_n rJ1_indexOf_4cfef_21 rfl trivial ?_
    refine w_iload_n rJ1_indexOf_4cfef_22 rfl ?_
    refine w_iload_n rJ1_indexOf_4cfef_23 rfl ?_
    refine w_icmplt rJ1_indexOf_4cfef_24 (fun h24 => ?_) (fun h24 => ?_)
    · replace q := q.1 h24
      refine w_aload_n rJ1_indexOf_4cfef_29 rfl ?_
      refine w_iload_n rJ1_indexOf_4cfef_30 rfl ?_
      refine w_iload_n rJ1_indexOf_4cfef_31 rfl ?_
      refine w_iload_n rJ1_indexOf_4cfef_32 rfl ?_
      refine w_invokestatic rJ1_indexOf_4cfef_33 rfl rfl rfl (Nat.le_of_ble_eq_true rfl) ⟨trivial, trivial, trivial, trivial, trivial⟩ trivial (by decide) (by decide) ?_
      exact q
    · replace q := q.2 h24
      refine w_iconst rJ1_indexOf_4cfef_27 (x := -1) (by decide) ?_
      refine w_ireturn rJ1_indexOf_4cfef_28 trivial ?_
      exact q
  · replace q := q.1 h4
    refine w_iconst rJ1_indexOf_4cfef_7 (x := -1) (by decide) ?_
    refine w_ireturn rJ1_indexOf_4cfef_8 trivial ?_
    exact q
theorem k_J1_indexOf_4cfef_36 {X : Nat × (Nat → Int32)} {I : Nat → Nat → Int32} {L : Nat → Nat → Int64} {F : Nat → Nat → UInt32} {Q : AQ} {x1 : Int32} {x2 : Int32} {x3 : Int32} {e0 : Int32} (q : Q (.inl (some (.int e0))) (G X I L F)) : WP mJ1_indexOf_4cfef 36 [some (.ref 1000002), some (.int x1), some (.int x2), some (.int x3)] [.int e0] (G X I L F) 0 0 Q := by
  refine w_ireturn rJ1_indexOf_4cfef_36 trivial ?_
  exact q
theorem k_J1_indexOfChar_4cfef_0 {X : Nat × (Nat → Int32)} {I : Nat → Nat → Int32} {L : Nat → Nat → Int64} {F : Nat → Nat → UInt32} {Q : AQ} {ch : Int32} {start : Int32} {stop : Int32} (q : WP mJ1_indexOfChar_4cfef 7 [some (.ref 1000002), some (.int ch), some (.int start), some (.int stop), some (.int (Int8.toInt32 (Int32.toInt8 ch))), some (.int start)] [] (G X I L F) 0 0 Q) : WP mJ1_indexOfChar_4cfef 0 (am_ent 6 [.ref 1000002, .int ch, .int start, .int stop]) [] (G X I L F) 0 0 Q := by
  refine w_iload_n rJ1_indexOfChar_4cfef_0 rfl ?_
  refine w_i2b rJ1_indexOfChar_4cfef_1 ?_
  refine w_istore rJ1_indexOfChar_4cfef_2 rfl trivial ?_
  refine w_iload_n rJ1_indexOfChar_4cfef_4 rfl ?_
  refine w_istore rJ1_indexOfChar_4cfef_5 rfl trivial ?_
  exact q
theorem k_J1_indexOfChar_4cfef_7 {X : Nat × (Nat → Int32)} {I : Nat → Nat → Int32} {L : Nat → Nat → Int64} {F : Nat → Nat → UInt32} {Q : AQ} {x1 : Int32} {x2 : Int32} {x3 : Int32} {x4 : Int32} {x5 : Int32} (q : (x3 ≤ x5 → Q (.inl (some (.int (-1)))) (G X I L F)) ∧ (¬ x3 ≤ x5 → vp_in x5 8 ∧ (((am_nt [43, 45, 42, 47, 40, 41, 44, 46] (Int32.toNatClampNeg x5) 0) = x4 → Q (.inl (some (.int x5))) (G X I L F)) ∧ (¬ (am_nt [43, 45, 42, 47, 40, 41, 44, 46] (Int32.toNatClampNeg x5) 0) = x4 → WP mJ1_indexOfChar_4cfef 7 [some (.ref 1000002), some (.int x1), some (.int x2), some (.int x3), some (.int x4), some (.int (x5 + 1))] [] (G X I L F) 0 0 Q)))) : WP mJ1_indexOfChar_4cfef 7 [some (.ref 1000002), some (.int x1), some (.int x2), some (.int x3), some (.int x4), some (.int x5)] [] (G X I L F) 0 0 Q := by
  refine w_iload rJ1_indexOfChar_4cfef_7 rfl ?_
  refine w_iload_n rJ1_indexOfChar_4cfef_9 rfl ?_
  refine w_icmpge rJ1_indexOfChar_4cfef_10 (fun h10 => ?_) (fun h10 => ?_)
  · replace q := q.1 h10
    refine w_iconst rJ1_indexOfChar_4cfef_31 (x := -1) (by decide) ?_
    refine w_ireturn rJ1_indexOfChar_4cfef_32 trivial ?_
    exact q
  · replace q := q.2 h10
    refine w_aload_n rJ1_indexOfChar_4cfef_13 rfl ?_
    refine w_iload rJ1_indexOfChar_4cfef_14 rfl ?_
    refine w_baloadS rJ1_indexOfChar_4cfef_16 q.1 ?_
    replace q := q.2
    refine w_iload rJ1_indexOfChar_4cfef_17 rfl ?_
    refine w_icmpne rJ1_indexOfChar_4cfef_19 (fun h19 => ?_) (fun h19 => ?_)
    · replace q := q.2 h19
      refine w_iinc rJ1_indexOfChar_4cfef_25 rfl rfl trivial ?_
      refine w_goto rJ1_indexOfChar_4cfef_28 ?_
      exact q
    · replace q := q.1 h19
      refine w_iload rJ1_indexOfChar_4cfef_22 rfl ?_
      refine w_ireturn rJ1_indexOfChar_4cfef_24 trivial ?_
      exact q
theorem k_L_type_0 {X : Nat × (Nat → Int32)} {I : Nat → Nat → Int32} {L : Nat → Nat → Int64} {F : Nat → Nat → UInt32} {Q : AQ} {p0 : Int32} (q : WP mX9_type 0 (am_ent 2 [.ref 0, .int p0]) [] (G X I L F) 0 0 (am_kq mL_type 4 [some (.ref 0), some (.int p0), some (.ref 540), none] [.int 0, .ref 540] (0 + am_bc mX9_type) (0 + am_bs mX9_type) Q)) : WP mL_type 0 (am_ent 4 [.ref 0, .int p0, .ref 540]) [] (G X I L F) 0 0 Q := by
  refine w_aload_n rL_type_0 rfl ?_
  refine w_iconst rL_type_1 (x := 0) (by decide) ?_
  refine w_aload_n rL_type_2 rfl ?_
  refine w_iload_n rL_type_3 rfl ?_
  refine w_invokevirtual rL_type_4 rfl rfl rfl (Nat.le_of_ble_eq_true rfl) ⟨trivial, trivial, trivial⟩ (G_is (by decide) rfl) (by decide) (by decide) ?_
  exact q
theorem k_L_type_7 {X : Nat × (Nat → Int32)} {I : Nat → Nat → Int32} {L : Nat → Nat → Int64} {F : Nat → Nat → UInt32} {Q : AQ} {x1 : Int32} {e1 : Int32} {e2 : Int32} (q : vp_in e1 1 ∧ (Q (.inl (some (.int 0))) (G X I (am_u L 540 (Int32.toNatClampNeg e1) (Int32.toInt64 e2)) F))) : WP mL_type 7 [some (.ref 0), some (.int x1), some (.ref 540), none] [.int e2, .int e1, .ref 540] (G X I L F) 1 6 Q := by
  refine w_i2l rL_type_7 ?_
  have h8 := q.1
  replace q := q.2
  refine x_lastore rL_type_8 (G_at (by decide) rfl rfl h8) ?_
  refine w_goto rL_type_9 ?_
  refine w_iconst rL_type_18 (x := 0) (by decide) ?_
  refine w_ireturn rL_type_19 trivial ?_
  exact q
theorem k_L_type_13 {X : Nat × (Nat → Int32)} {I : Nat → Nat → Int32} {L : Nat → Nat → Int64} {F : Nat → Nat → UInt32} {Q : AQ} {x1 : Int32} (q : Q (.inl (some (.int 1))) (G X I L F)) : WP mL_type 13 [some (.ref 0), some (.int x1), some (.ref 540), none] [] (G X I L F) 1 6 Q := by
  refine w_iconst rL_type_13 (x := 1) (by decide) ?_
  refine w_ireturn rL_type_14 trivial ?_
  exact q
theorem k_L_type_16 {X : Nat × (Nat → Int32)} {I : Nat → Nat → Int32} {L : Nat → Nat → Int64} {F : Nat → Nat → UInt32} {Q : AQ} {x1 : Int32} (q : Q (.inl (some (.int 2))) (G X I L F)) : WP mL_type 16 [some (.ref 0), some (.int x1), some (.ref 540), none] [] (G X I L F) 1 6 Q := by
  refine w_iconst rL_type_16 (x := 2) (by decide) ?_
  refine w_ireturn rL_type_17 trivial ?_
  exact q
theorem k_L_publish_0 {X : Nat × (Nat → Int32)} {I : Nat → Nat → Int32} {L : Nat → Nat → Int64} {F : Nat → Nat → UInt32} {Q : AQ} {p0 : Int32} (q : WP mX9_publish 0 (am_ent 2 [.ref 0, .int p0]) [] (G X I L F) 0 0 (am_kq mL_publish 4 [some (.ref 0), some (.int p0), some (.ref 540), none] [.int 0, .ref 540] (0 + am_bc mX9_publish) (0 + am_bs mX9_publish) Q)) : WP mL_publish 0 (am_ent 4 [.ref 0, .int p0, .ref 540]) [] (G X I L F) 0 0 Q := by
  refine w_aload_n rL_publish_0 rfl ?_
  refine w_iconst rL_publish_1 (x := 0) (by decide) ?_
  refine w_aload_n rL_publish_2 rfl ?_
  refine w_iload_n rL_publish_3 rfl ?_
  refine w_invokevirtual rL_publish_4 rfl rfl rfl (Nat.le_of_ble_eq_true rfl) ⟨trivial, trivial, trivial⟩ (G_is (by decide) rfl) (by decide) (by decide) ?_
  exact q
theorem k_L_publish_7 {X : Nat × (Nat → Int32)} {I : Nat → Nat → Int32} {L : Nat → Nat → Int64} {F : Nat → Nat → UInt32} {Q : AQ} {x1 : Int32} {e1 : Int32} {e2 : Int32} (q : vp_in e1 1 ∧ (Q (.inl (some (.int 0))) (G X I (am_u L 540 (Int32.toNatClampNeg e1) (Int32.toInt64 e2)) F))) : WP mL_publish 7 [some (.ref 0), some (.int x1), some (.ref 540), none] [.int e2, .int e1, .ref 540] (G X I L F) 1 6 Q := by
  refine w_i2l rL_publish_7 ?_
  have h8 := q.1
  replace q := q.2
  refine x_lastore rL_publish_8 (G_at (by decide) rfl rfl h8) ?_
  refine w_goto rL_publish_9 ?_
  refine w_iconst rL_publish_21 (x := 0) (by decide) ?_
  refine w_ireturn rL_publish_22 trivial ?_
  exact q
theorem k_L_publish_13 {X : Nat × (Nat → Int32)} {I : Nat → Nat → Int32} {L : Nat → Nat → Int64} {F : Nat → Nat → UInt32} {Q : AQ} {x1 : Int32} (q : Q (.inl (some (.int 1))) (G X I L F)) : WP mL_publish 13 [some (.ref 0), some (.int x1), some (.ref 540), none] [] (G X I L F) 1 6 Q := by
  refine w_iconst rL_publish_13 (x := 1) (by decide) ?_
  refine w_ireturn rL_publish_14 trivial ?_
  exact q
theorem k_L_publish_16 {X : Nat × (Nat → Int32)} {I : Nat → Nat → Int32} {L : Nat → Nat → Int64} {F : Nat → Nat → UInt32} {Q : AQ} {x1 : Int32} (q : Q (.inl (some (.int 2))) (G X I L F)) : WP mL_publish 16 [some (.ref 0), some (.int x1), some (.ref 540), none] [] (G X I L F) 1 6 Q := by
  refine w_iconst rL_publish_16 (x := 2) (by decide) ?_
  refine w_ireturn rL_publish_17 trivial ?_
  exact q
theorem k_L_publish_19 {X : Nat × (Nat → Int32)} {I : Nat → Nat → Int32} {L : Nat → Nat → Int64} {F : Nat → Nat → UInt32} {Q : AQ} {x1 : Int32} (q : Q (.inl (some (.int 3))) (G X I L F)) : WP mL_publish 19 [some (.ref 0), some (.int x1), some (.ref 540), none] [] (G X I L F) 1 6 Q := by
  refine w_iconst rL_publish_19 (x := 3) (by decide) ?_
  refine w_ireturn rL_publish_20 trivial ?_
  exact q
theorem k_L_retire_0 {X : Nat × (Nat → Int32)} {I : Nat → Nat → Int32} {L : Nat → Nat → Int64} {F : Nat → Nat → UInt32} {Q : AQ} {p0 : Int32} (q : WP mX9_retire 0 (am_ent 2 [.ref 0, .int p0]) [] (G X I L F) 0 0 (am_kq mL_retire 4 [some (.ref 0), some (.int p0), some (.ref 540), none] [.int 0, .ref 540] (0 + am_bc mX9_retire) (0 + am_bs mX9_retire) Q)) : WP mL_retire 0 (am_ent 4 [.ref 0, .int p0, .ref 540]) [] (G X I L F) 0 0 Q := by
  refine w_aload_n rL_retire_0 rfl ?_
  refine w_iconst rL_retire_1 (x := 0) (by decide) ?_
  refine w_aload_n rL_retire_2 rfl ?_
  refine w_iload_n rL_retire_3 rfl ?_
  refine w_invokevirtual rL_retire_4 rfl rfl rfl (Nat.le_of_ble_eq_true rfl) ⟨trivial, trivial, trivial⟩ (G_is (by decide) rfl) (by decide) (by decide) ?_
  exact q
theorem k_L_retire_7 {X : Nat × (Nat → Int32)} {I : Nat → Nat → Int32} {L : Nat → Nat → Int64} {F : Nat → Nat → UInt32} {Q : AQ} {x1 : Int32} {e1 : Int32} {e2 : Int32} (q : vp_in e1 1 ∧ (Q (.inl (some (.int 0))) (G X I (am_u L 540 (Int32.toNatClampNeg e1) (Int32.toInt64 e2)) F))) : WP mL_retire 7 [some (.ref 0), some (.int x1), some (.ref 540), none] [.int e2, .int e1, .ref 540] (G X I L F) 1 6 Q := by
  refine w_i2l rL_retire_7 ?_
  have h8 := q.1
  replace q := q.2
  refine x_lastore rL_retire_8 (G_at (by decide) rfl rfl h8) ?_
  refine w_goto rL_retire_9 ?_
  refine w_iconst rL_retire_18 (x := 0) (by decide) ?_
  refine w_ireturn rL_retire_19 trivial ?_
  exact q
theorem k_L_retire_13 {X : Nat × (Nat → Int32)} {I : Nat → Nat → Int32} {L : Nat → Nat → Int64} {F : Nat → Nat → UInt32} {Q : AQ} {x1 : Int32} (q : Q (.inl (some (.int 1))) (G X I L F)) : WP mL_retire 13 [some (.ref 0), some (.int x1), some (.ref 540), none] [] (G X I L F) 1 6 Q := by
  refine w_iconst rL_retire_13 (x := 1) (by decide) ?_
  refine w_ireturn rL_retire_14 trivial ?_
  exact q
theorem k_L_retire_16 {X : Nat × (Nat → Int32)} {I : Nat → Nat → Int32} {L : Nat → Nat → Int64} {F : Nat → Nat → UInt32} {Q : AQ} {x1 : Int32} (q : Q (.inl (some (.int 2))) (G X I L F)) : WP mL_retire 16 [some (.ref 0), some (.int x1), some (.ref 540), none] [] (G X I L F) 1 6 Q := by
  refine w_iconst rL_retire_16 (x := 2) (by decide) ?_
  refine w_ireturn rL_retire_17 trivial ?_
  exact q
theorem k_L_latest_0 {X : Nat × (Nat → Int32)} {I : Nat → Nat → Int32} {L : Nat → Nat → Int64} {F : Nat → Nat → UInt32} {Q : AQ} {p0 : Int32} (q : WP mX9_latest 0 (am_ent 2 [.ref 0, .int p0]) [] (G X I L F) 0 0 (am_kq mL_latest 4 [some (.ref 0), some (.int p0), some (.ref 540), none] [.int 0, .ref 540] (0 + am_bc mX9_latest) (0 + am_bs mX9_latest) Q)) : WP mL_latest 0 (am_ent 4 [.ref 0, .int p0, .ref 540]) [] (G X I L F) 0 0 Q := by
  refine w_aload_n rL_latest_0 rfl ?_
  refine w_iconst rL_latest_1 (x := 0) (by decide) ?_
  refine w_aload_n rL_latest_2 rfl ?_
  refine w_iload_n rL_latest_3 rfl ?_
  refine w_invokevirtual rL_latest_4 rfl rfl rfl (Nat.le_of_ble_eq_true rfl) ⟨trivial, trivial, trivial⟩ (G_is (by decide) rfl) (by decide) (by decide) ?_
  exact q
theorem k_L_latest_7 {X : Nat × (Nat → Int32)} {I : Nat → Nat → Int32} {L : Nat → Nat → Int64} {F : Nat → Nat → UInt32} {Q : AQ} {x1 : Int32} {e1 : Int32} {e2 : Int32} (q : vp_in e1 1 ∧ (Q (.inl (some (.int 0))) (G X I (am_u L 540 (Int32.toNatClampNeg e1) (Int32.toInt64 e2)) F))) : WP mL_latest 7 [some (.ref 0), some (.int x1), some (.ref 540), none] [.int e2, .int e1, .ref 540] (G X I L F) 1 6 Q := by
  refine w_i2l rL_latest_7 ?_
  have h8 := q.1
  replace q := q.2
  refine x_lastore rL_latest_8 (G_at (by decide) rfl rfl h8) ?_
  refine w_goto rL_latest_9 ?_
  refine w_iconst rL_latest_15 (x := 0) (by decide) ?_
  refine w_ireturn rL_latest_16 trivial ?_
  exact q
theorem k_L_latest_13 {X : Nat × (Nat → Int32)} {I : Nat → Nat → Int32} {L : Nat → Nat → Int64} {F : Nat → Nat → UInt32} {Q : AQ} {x1 : Int32} (q : Q (.inl (some (.int 1))) (G X I L F)) : WP mL_latest 13 [some (.ref 0), some (.int x1), some (.ref 540), none] [] (G X I L F) 1 6 Q := by
  refine w_iconst rL_latest_13 (x := 1) (by decide) ?_
  refine w_ireturn rL_latest_14 trivial ?_
  exact q
theorem k_L_pin_0 {X : Nat × (Nat → Int32)} {I : Nat → Nat → Int32} {L : Nat → Nat → Int64} {F : Nat → Nat → UInt32} {Q : AQ} {p0 : Int32} {p1 : Int32} (q : WP mX9_pin 0 (am_ent 3 [.ref 0, .int p0, .int p1]) [] (G X I L F) 0 0 (am_kq mL_pin 5 [some (.ref 0), some (.int p0), some (.int p1), some (.ref 540), none] [.int 0, .ref 540] (0 + am_bc mX9_pin) (0 + am_bs mX9_pin) Q)) : WP mL_pin 0 (am_ent 5 [.ref 0, .int p0, .int p1, .ref 540]) [] (G X I L F) 0 0 Q := by
  refine w_aload_n rL_pin_0 rfl ?_
  refine w_iconst rL_pin_1 (x := 0) (by decide) ?_
  refine w_aload_n rL_pin_2 rfl ?_
  refine w_iload_n rL_pin_3 rfl ?_
  refine w_iload_n rL_pin_4 rfl ?_
  refine w_invokevirtual rL_pin_5 rfl rfl rfl (Nat.le_of_ble_eq_true rfl) ⟨trivial, trivial, trivial, trivial⟩ (G_is (by decide) rfl) (by decide) (by decide) ?_
  exact q
theorem k_L_pin_8 {X : Nat × (Nat → Int32)} {I : Nat → Nat → Int32} {L : Nat → Nat → Int64} {F : Nat → Nat → UInt32} {Q : AQ} {x1 : Int32} {x2 : Int32} {e1 : Int32} {e2 : Int32} (q : vp_in e1 1 ∧ (Q (.inl (some (.int 0))) (G X I (am_u L 540 (Int32.toNatClampNeg e1) (Int32.toInt64 e2)) F))) : WP mL_pin 8 [some (.ref 0), some (.int x1), some (.int x2), some (.ref 540), none] [.int e2, .int e1, .ref 540] (G X I L F) 1 6 Q := by
  refine w_i2l rL_pin_8 ?_
  have h9 := q.1
  replace q := q.2
  refine x_lastore rL_pin_9 (G_at (by decide) rfl rfl h9) ?_
  refine w_goto rL_pin_10 ?_
  refine w_iconst rL_pin_17 (x := 0) (by decide) ?_
  refine w_ireturn rL_pin_18 trivial ?_
  exact q
theorem k_L_pin_15 {X : Nat × (Nat → Int32)} {I : Nat → Nat → Int32} {L : Nat → Nat → Int64} {F : Nat → Nat → UInt32} {Q : AQ} {x1 : Int32} {x2 : Int32} (q : Q (.inl (some (.int 1))) (G X I L F)) : WP mL_pin 15 [some (.ref 0), some (.int x1), some (.int x2), some (.ref 540), none] [] (G X I L F) 1 6 Q := by
  refine w_iconst rL_pin_15 (x := 1) (by decide) ?_
  refine w_ireturn rL_pin_16 trivial ?_
  exact q
theorem k_L_rain_0 {X : Nat × (Nat → Int32)} {I : Nat → Nat → Int32} {L : Nat → Nat → Int64} {F : Nat → Nat → UInt32} {Q : AQ} {p0 : Int32} {p1 : Int32} {p2 : Int32} (q : WP mX9_rain 0 (am_ent 5 [.ref 0, .int p0, .int p1, .int p2]) [] (G X I L F) 0 0 (am_kq mL_rain 7 [some (.ref 0), some (.int p0), some (.int p1), some (.int p2), some (.ref 540), none] [.int 0, .ref 540] (0 + am_bc mX9_rain) (0 + am_bs mX9_rain) Q)) : WP mL_rain 0 (am_ent 6 [.ref 0, .int p0, .int p1, .int p2, .ref 540]) [] (G X I L F) 0 0 Q := by
  refine w_aload rL_rain_0 rfl ?_
  refine w_iconst rL_rain_2 (x := 0) (by decide) ?_
  refine w_aload_n rL_rain_3 rfl ?_
  refine w_iload_n rL_rain_4 rfl ?_
  refine w_iload_n rL_rain_5 rfl ?_
  refine w_iload_n rL_rain_6 rfl ?_
  refine w_invokevirtual rL_rain_7 rfl rfl rfl (Nat.le_of_ble_eq_true rfl) ⟨trivial, trivial, trivial, trivial, trivial⟩ (G_is (by decide) rfl) (by decide) (by decide) ?_
  exact q
theorem k_L_rain_10 {X : Nat × (Nat → Int32)} {I : Nat → Nat → Int32} {L : Nat → Nat → Int64} {F : Nat → Nat → UInt32} {Q : AQ} {x1 : Int32} {x2 : Int32} {x3 : Int32} {e1 : Int32} {e2 : Int32} (q : vp_in e1 1 ∧ (Q (.inl (some (.int 0))) (G X I (am_u L 540 (Int32.toNatClampNeg e1) (Int32.toInt64 e2)) F))) : WP mL_rain 10 [some (.ref 0), some (.int x1), some (.int x2), some (.int x3), some (.ref 540), none] [.int e2, .int e1, .ref 540] (G X I L F) 1 6 Q := by
  refine w_i2l rL_rain_10 ?_
  have h11 := q.1
  replace q := q.2
  refine x_lastore rL_rain_11 (G_at (by decide) rfl rfl h11) ?_
  refine w_goto rL_rain_12 ?_
  refine w_iconst rL_rain_23 (x := 0) (by decide) ?_
  refine w_ireturn rL_rain_24 trivial ?_
  exact q
theorem k_L_rain_17 {X : Nat × (Nat → Int32)} {I : Nat → Nat → Int32} {L : Nat → Nat → Int64} {F : Nat → Nat → UInt32} {Q : AQ} {x1 : Int32} {x2 : Int32} {x3 : Int32} (q : Q (.inl (some (.int 1))) (G X I L F)) : WP mL_rain 17 [some (.ref 0), some (.int x1), some (.int x2), some (.int x3), some (.ref 540), none] [] (G X I L F) 1 6 Q := by
  refine w_iconst rL_rain_17 (x := 1) (by decide) ?_
  refine w_ireturn rL_rain_18 trivial ?_
  exact q
theorem k_L_rain_21 {X : Nat × (Nat → Int32)} {I : Nat → Nat → Int32} {L : Nat → Nat → Int64} {F : Nat → Nat → UInt32} {Q : AQ} {x1 : Int32} {x2 : Int32} {x3 : Int32} (q : Q (.inl (some (.int 2))) (G X I L F)) : WP mL_rain 21 [some (.ref 0), some (.int x1), some (.int x2), some (.int x3), some (.ref 540), none] [] (G X I L F) 1 6 Q := by
  refine w_iconst rL_rain_21 (x := 2) (by decide) ?_
  refine w_ireturn rL_rain_22 trivial ?_
  exact q
theorem k_L_out_0 {X : Nat × (Nat → Int32)} {I : Nat → Nat → Int32} {L : Nat → Nat → Int64} {F : Nat → Nat → UInt32} {Q : AQ} {p0 : Int32} {p1 : Int32} (q : WP mX9_out 0 (am_ent 3 [.ref 0, .int p0, .int p1]) [] (G X I L F) 0 0 (am_kq mL_out 5 [some (.ref 0), some (.int p0), some (.int p1), some (.ref 540), none] [.int 0, .ref 540] (0 + am_bc mX9_out) (0 + am_bs mX9_out) Q)) : WP mL_out 0 (am_ent 5 [.ref 0, .int p0, .int p1, .ref 540]) [] (G X I L F) 0 0 Q := by
  refine w_aload_n rL_out_0 rfl ?_
  refine w_iconst rL_out_1 (x := 0) (by decide) ?_
  refine w_aload_n rL_out_2 rfl ?_
  refine w_iload_n rL_out_3 rfl ?_
  refine w_iload_n rL_out_4 rfl ?_
  refine w_invokevirtual rL_out_5 rfl rfl rfl (Nat.le_of_ble_eq_true rfl) ⟨trivial, trivial, trivial, trivial⟩ (G_is (by decide) rfl) (by decide) (by decide) ?_
  exact q
theorem k_L_out_8 {X : Nat × (Nat → Int32)} {I : Nat → Nat → Int32} {L : Nat → Nat → Int64} {F : Nat → Nat → UInt32} {Q : AQ} {x1 : Int32} {x2 : Int32} {e1 : Int32} {e2 : Int32} (q : vp_in e1 1 ∧ (Q (.inl (some (.int 0))) (G X I (am_u L 540 (Int32.toNatClampNeg e1) (Int32.toInt64 e2)) F))) : WP mL_out 8 [some (.ref 0), some (.int x1), some (.int x2), some (.ref 540), none] [.int e2, .int e1, .ref 540] (G X I L F) 1 6 Q := by
  refine w_i2l rL_out_8 ?_
  have h9 := q.1
  replace q := q.2
  refine x_lastore rL_out_9 (G_at (by decide) rfl rfl h9) ?_
  refine w_goto rL_out_10 ?_
  refine w_iconst rL_out_21 (x := 0) (by decide) ?_
  refine w_ireturn rL_out_22 trivial ?_
  exact q
theorem k_L_out_15 {X : Nat × (Nat → Int32)} {I : Nat → Nat → Int32} {L : Nat → Nat → Int64} {F : Nat → Nat → UInt32} {Q : AQ} {x1 : Int32} {x2 : Int32} (q : Q (.inl (some (.int 1))) (G X I L F)) : WP mL_out 15 [some (.ref 0), some (.int x1), some (.int x2), some (.ref 540), none] [] (G X I L F) 1 6 Q := by
  refine w_iconst rL_out_15 (x := 1) (by decide) ?_
  refine w_ireturn rL_out_16 trivial ?_
  exact q
theorem k_L_out_19 {X : Nat × (Nat → Int32)} {I : Nat → Nat → Int32} {L : Nat → Nat → Int64} {F : Nat → Nat → UInt32} {Q : AQ} {x1 : Int32} {x2 : Int32} (q : Q (.inl (some (.int 2))) (G X I L F)) : WP mL_out 19 [some (.ref 0), some (.int x1), some (.int x2), some (.ref 540), none] [] (G X I L F) 1 6 Q := by
  refine w_iconst rL_out_19 (x := 2) (by decide) ?_
  refine w_ireturn rL_out_20 trivial ?_
  exact q
theorem k_L_outAnew_0 {X : Nat × (Nat → Int32)} {I : Nat → Nat → Int32} {L : Nat → Nat → Int64} {F : Nat → Nat → UInt32} {Q : AQ} {p0 : Int32} {p1 : Int32} (q : WP mX9_outAnew 0 (am_ent 3 [.ref 0, .int p0, .int p1]) [] (G X I L F) 0 0 (am_kq mL_outAnew 5 [some (.ref 0), some (.int p0), some (.int p1), some (.ref 540), none] [.int 0, .ref 540] (0 + am_bc mX9_outAnew) (0 + am_bs mX9_outAnew) Q)) : WP mL_outAnew 0 (am_ent 5 [.ref 0, .int p0, .int p1, .ref 540]) [] (G X I L F) 0 0 Q := by
  refine w_aload_n rL_outAnew_0 rfl ?_
  refine w_iconst rL_outAnew_1 (x := 0) (by decide) ?_
  refine w_aload_n rL_outAnew_2 rfl ?_
  refine w_iload_n rL_outAnew_3 rfl ?_
  refine w_iload_n rL_outAnew_4 rfl ?_
  refine w_invokevirtual rL_outAnew_5 rfl rfl rfl (Nat.le_of_ble_eq_true rfl) ⟨trivial, trivial, trivial, trivial⟩ (G_is (by decide) rfl) (by decide) (by decide) ?_
  exact q
theorem k_L_outAnew_8 {X : Nat × (Nat → Int32)} {I : Nat → Nat → Int32} {L : Nat → Nat → Int64} {F : Nat → Nat → UInt32} {Q : AQ} {x1 : Int32} {x2 : Int32} {e1 : Int32} {e2 : Int32} (q : vp_in e1 1 ∧ (Q (.inl (some (.int 0))) (G X I (am_u L 540 (Int32.toNatClampNeg e1) (Int32.toInt64 e2)) F))) : WP mL_outAnew 8 [some (.ref 0), some (.int x1), some (.int x2), some (.ref 540), none] [.int e2, .int e1, .ref 540] (G X I L F) 1 6 Q := by
  refine w_i2l rL_outAnew_8 ?_
  have h9 := q.1
  replace q := q.2
  refine x_lastore rL_outAnew_9 (G_at (by decide) rfl rfl h9) ?_
  refine w_goto rL_outAnew_10 ?_
  refine w_iconst rL_outAnew_21 (x := 0) (by decide) ?_
  refine w_ireturn rL_outAnew_22 trivial ?_
  exact q
theorem k_L_outAnew_15 {X : Nat × (Nat → Int32)} {I : Nat → Nat → Int32} {L : Nat → Nat → Int64} {F : Nat → Nat → UInt32} {Q : AQ} {x1 : Int32} {x2 : Int32} (q : Q (.inl (some (.int 1))) (G X I L F)) : WP mL_outAnew 15 [some (.ref 0), some (.int x1), some (.int x2), some (.ref 540), none] [] (G X I L F) 1 6 Q := by
  refine w_iconst rL_outAnew_15 (x := 1) (by decide) ?_
  refine w_ireturn rL_outAnew_16 trivial ?_
  exact q
theorem k_L_outAnew_19 {X : Nat × (Nat → Int32)} {I : Nat → Nat → Int32} {L : Nat → Nat → Int64} {F : Nat → Nat → UInt32} {Q : AQ} {x1 : Int32} {x2 : Int32} (q : Q (.inl (some (.int 2))) (G X I L F)) : WP mL_outAnew 19 [some (.ref 0), some (.int x1), some (.int x2), some (.ref 540), none] [] (G X I L F) 1 6 Q := by
  refine w_iconst rL_outAnew_19 (x := 2) (by decide) ?_
  refine w_ireturn rL_outAnew_20 trivial ?_
  exact q
theorem k_L_run_0 {X : Nat × (Nat → Int32)} {I : Nat → Nat → Int32} {L : Nat → Nat → Int64} {F : Nat → Nat → UInt32} {Q : AQ} {p0 : Int32} {p1 : Int32} (q : WP mX9_run 0 (am_ent 4 [.ref 0, .int p0, .int p1]) [] (G X I L F) 0 0 (am_kq mL_run 5 [some (.ref 0), some (.int p0), some (.int p1), some (.ref 540), none] [.int 0, .ref 540] (0 + am_bc mX9_run) (0 + am_bs mX9_run) Q)) : WP mL_run 0 (am_ent 5 [.ref 0, .int p0, .int p1, .ref 540]) [] (G X I L F) 0 0 Q := by
  refine w_aload_n rL_run_0 rfl ?_
  refine w_iconst rL_run_1 (x := 0) (by decide) ?_
  refine w_aload_n rL_run_2 rfl ?_
  refine w_iload_n rL_run_3 rfl ?_
  refine w_iload_n rL_run_4 rfl ?_
  refine w_invokevirtual rL_run_5 rfl rfl rfl (Nat.le_of_ble_eq_true rfl) ⟨trivial, trivial, trivial, trivial⟩ (G_is (by decide) rfl) (by decide) (by decide) ?_
  exact q
theorem k_L_run_8 {X : Nat × (Nat → Int32)} {I : Nat → Nat → Int32} {L : Nat → Nat → Int64} {F : Nat → Nat → UInt32} {Q : AQ} {x1 : Int32} {x2 : Int32} {e1 : Int32} {e2 : Int32} (q : vp_in e1 1 ∧ (Q (.inl (some (.int 0))) (G X I (am_u L 540 (Int32.toNatClampNeg e1) (Int32.toInt64 e2)) F))) : WP mL_run 8 [some (.ref 0), some (.int x1), some (.int x2), some (.ref 540), none] [.int e2, .int e1, .ref 540] (G X I L F) 1 6 Q := by
  refine w_i2l rL_run_8 ?_
  have h9 := q.1
  replace q := q.2
  refine x_lastore rL_run_9 (G_at (by decide) rfl rfl h9) ?_
  refine w_goto rL_run_10 ?_
  refine w_iconst rL_run_25 (x := 0) (by decide) ?_
  refine w_ireturn rL_run_26 trivial ?_
  exact q
theorem k_L_run_15 {X : Nat × (Nat → Int32)} {I : Nat → Nat → Int32} {L : Nat → Nat → Int64} {F : Nat → Nat → UInt32} {Q : AQ} {x1 : Int32} {x2 : Int32} (q : Q (.inl (some (.int 1))) (G X I L F)) : WP mL_run 15 [some (.ref 0), some (.int x1), some (.int x2), some (.ref 540), none] [] (G X I L F) 1 6 Q := by
  refine w_iconst rL_run_15 (x := 1) (by decide) ?_
  refine w_ireturn rL_run_16 trivial ?_
  exact q
theorem k_L_run_19 {X : Nat × (Nat → Int32)} {I : Nat → Nat → Int32} {L : Nat → Nat → Int64} {F : Nat → Nat → UInt32} {Q : AQ} {x1 : Int32} {x2 : Int32} (q : Q (.inl (some (.int 2))) (G X I L F)) : WP mL_run 19 [some (.ref 0), some (.int x1), some (.int x2), some (.ref 540), none] [] (G X I L F) 1 6 Q := by
  refine w_iconst rL_run_19 (x := 2) (by decide) ?_
  refine w_ireturn rL_run_20 trivial ?_
  exact q
theorem k_L_run_23 {X : Nat × (Nat → Int32)} {I : Nat → Nat → Int32} {L : Nat → Nat → Int64} {F : Nat → Nat → UInt32} {Q : AQ} {x1 : Int32} {x2 : Int32} (q : Q (.inl (some (.int 3))) (G X I L F)) : WP mL_run 23 [some (.ref 0), some (.int x1), some (.int x2), some (.ref 540), none] [] (G X I L F) 1 6 Q := by
  refine w_iconst rL_run_23 (x := 3) (by decide) ?_
  refine w_ireturn rL_run_24 trivial ?_
  exact q
theorem k_L_why_0 {X : Nat × (Nat → Int32)} {I : Nat → Nat → Int32} {L : Nat → Nat → Int64} {F : Nat → Nat → UInt32} {Q : AQ} {p0 : Int32} (q : WP mX9_why 0 (am_ent 2 [.ref 0, .int p0]) [] (G X I L F) 0 0 (am_kq mL_why 4 [some (.ref 0), some (.int p0), some (.ref 540), none] [.int 0, .ref 540] (0 + am_bc mX9_why) (0 + am_bs mX9_why) Q)) : WP mL_why 0 (am_ent 4 [.ref 0, .int p0, .ref 540]) [] (G X I L F) 0 0 Q := by
  refine w_aload_n rL_why_0 rfl ?_
  refine w_iconst rL_why_1 (x := 0) (by decide) ?_
  refine w_aload_n rL_why_2 rfl ?_
  refine w_iload_n rL_why_3 rfl ?_
  refine w_invokevirtual rL_why_4 rfl rfl rfl (Nat.le_of_ble_eq_true rfl) ⟨trivial, trivial, trivial⟩ (G_is (by decide) rfl) (by decide) (by decide) ?_
  exact q
theorem k_L_why_7 {X : Nat × (Nat → Int32)} {I : Nat → Nat → Int32} {L : Nat → Nat → Int64} {F : Nat → Nat → UInt32} {Q : AQ} {x1 : Int32} {e1 : Int32} {e2 : Int32} (q : vp_in e1 1 ∧ (Q (.inl (some (.int 0))) (G X I (am_u L 540 (Int32.toNatClampNeg e1) (Int32.toInt64 e2)) F))) : WP mL_why 7 [some (.ref 0), some (.int x1), some (.ref 540), none] [.int e2, .int e1, .ref 540] (G X I L F) 1 6 Q := by
  refine w_i2l rL_why_7 ?_
  have h8 := q.1
  replace q := q.2
  refine x_lastore rL_why_8 (G_at (by decide) rfl rfl h8) ?_
  refine w_goto rL_why_9 ?_
  refine w_iconst rL_why_15 (x := 0) (by decide) ?_
  refine w_ireturn rL_why_16 trivial ?_
  exact q
theorem k_L_why_13 {X : Nat × (Nat → Int32)} {I : Nat → Nat → Int32} {L : Nat → Nat → Int64} {F : Nat → Nat → UInt32} {Q : AQ} {x1 : Int32} (q : Q (.inl (some (.int 1))) (G X I L F)) : WP mL_why 13 [some (.ref 0), some (.int x1), some (.ref 540), none] [] (G X I L F) 1 6 Q := by
  refine w_iconst rL_why_13 (x := 1) (by decide) ?_
  refine w_ireturn rL_why_14 trivial ?_
  exact q
theorem k_L_peak_0 {X : Nat × (Nat → Int32)} {I : Nat → Nat → Int32} {L : Nat → Nat → Int64} {F : Nat → Nat → UInt32} {Q : AQ} {p0 : Int32} (q : WP mX9_peak 0 (am_ent 2 [.ref 0, .int p0]) [] (G X I L F) 0 0 (am_kq mL_peak 4 [some (.ref 0), some (.int p0), some (.ref 540), none] [.int 0, .ref 540] (0 + am_bc mX9_peak) (0 + am_bs mX9_peak) Q)) : WP mL_peak 0 (am_ent 4 [.ref 0, .int p0, .ref 540]) [] (G X I L F) 0 0 Q := by
  refine w_aload_n rL_peak_0 rfl ?_
  refine w_iconst rL_peak_1 (x := 0) (by decide) ?_
  refine w_aload_n rL_peak_2 rfl ?_
  refine w_iload_n rL_peak_3 rfl ?_
  refine w_invokevirtual rL_peak_4 rfl rfl rfl (Nat.le_of_ble_eq_true rfl) ⟨trivial, trivial, trivial⟩ (G_is (by decide) rfl) (by decide) (by decide) ?_
  exact q
theorem k_L_peak_7 {X : Nat × (Nat → Int32)} {I : Nat → Nat → Int32} {L : Nat → Nat → Int64} {F : Nat → Nat → UInt32} {Q : AQ} {x1 : Int32} {e1 : Int32} {e2 : Int32} (q : vp_in e1 1 ∧ (Q (.inl (some (.int 0))) (G X I (am_u L 540 (Int32.toNatClampNeg e1) (Int32.toInt64 e2)) F))) : WP mL_peak 7 [some (.ref 0), some (.int x1), some (.ref 540), none] [.int e2, .int e1, .ref 540] (G X I L F) 1 6 Q := by
  refine w_i2l rL_peak_7 ?_
  have h8 := q.1
  replace q := q.2
  refine x_lastore rL_peak_8 (G_at (by decide) rfl rfl h8) ?_
  refine w_goto rL_peak_9 ?_
  refine w_iconst rL_peak_15 (x := 0) (by decide) ?_
  refine w_ireturn rL_peak_16 trivial ?_
  exact q
theorem k_L_peak_13 {X : Nat × (Nat → Int32)} {I : Nat → Nat → Int32} {L : Nat → Nat → Int64} {F : Nat → Nat → UInt32} {Q : AQ} {x1 : Int32} (q : Q (.inl (some (.int 1))) (G X I L F)) : WP mL_peak 13 [some (.ref 0), some (.int x1), some (.ref 540), none] [] (G X I L F) 1 6 Q := by
  refine w_iconst rL_peak_13 (x := 1) (by decide) ?_
  refine w_ireturn rL_peak_14 trivial ?_
  exact q
theorem k_L_peakHour_0 {X : Nat × (Nat → Int32)} {I : Nat → Nat → Int32} {L : Nat → Nat → Int64} {F : Nat → Nat → UInt32} {Q : AQ} {p0 : Int32} (q : WP mX9_peakHour 0 (am_ent 2 [.ref 0, .int p0]) [] (G X I L F) 0 0 (am_kq mL_peakHour 4 [some (.ref 0), some (.int p0), some (.ref 540), none] [.int 0, .ref 540] (0 + am_bc mX9_peakHour) (0 + am_bs mX9_peakHour) Q)) : WP mL_peakHour 0 (am_ent 4 [.ref 0, .int p0, .ref 540]) [] (G X I L F) 0 0 Q := by
  refine w_aload_n rL_peakHour_0 rfl ?_
  refine w_iconst rL_peakHour_1 (x := 0) (by decide) ?_
  refine w_aload_n rL_peakHour_2 rfl ?_
  refine w_iload_n rL_peakHour_3 rfl ?_
  refine w_invokevirtual rL_peakHour_4 rfl rfl rfl (Nat.le_of_ble_eq_true rfl) ⟨trivial, trivial, trivial⟩ (G_is (by decide) rfl) (by decide) (by decide) ?_
  exact q
theorem k_L_peakHour_7 {X : Nat × (Nat → Int32)} {I : Nat → Nat → Int32} {L : Nat → Nat → Int64} {F : Nat → Nat → UInt32} {Q : AQ} {x1 : Int32} {e1 : Int32} {e2 : Int32} (q : vp_in e1 1 ∧ (Q (.inl (some (.int 0))) (G X I (am_u L 540 (Int32.toNatClampNeg e1) (Int32.toInt64 e2)) F))) : WP mL_peakHour 7 [some (.ref 0), some (.int x1), some (.ref 540), none] [.int e2, .int e1, .ref 540] (G X I L F) 1 6 Q := by
  refine w_i2l rL_peakHour_7 ?_
  have h8 := q.1
  replace q := q.2
  refine x_lastore rL_peakHour_8 (G_at (by decide) rfl rfl h8) ?_
  refine w_goto rL_peakHour_9 ?_
  refine w_iconst rL_peakHour_15 (x := 0) (by decide) ?_
  refine w_ireturn rL_peakHour_16 trivial ?_
  exact q
theorem k_L_peakHour_13 {X : Nat × (Nat → Int32)} {I : Nat → Nat → Int32} {L : Nat → Nat → Int64} {F : Nat → Nat → UInt32} {Q : AQ} {x1 : Int32} (q : Q (.inl (some (.int 1))) (G X I L F)) : WP mL_peakHour 13 [some (.ref 0), some (.int x1), some (.ref 540), none] [] (G X I L F) 1 6 Q := by
  refine w_iconst rL_peakHour_13 (x := 1) (by decide) ?_
  refine w_ireturn rL_peakHour_14 trivial ?_
  exact q
theorem k_L_peakAnew_0 {X : Nat × (Nat → Int32)} {I : Nat → Nat → Int32} {L : Nat → Nat → Int64} {F : Nat → Nat → UInt32} {Q : AQ} {p0 : Int32} (q : WP mX9_peakAnew 0 (am_ent 3 [.ref 0, .int p0]) [] (G X I L F) 0 0 (am_kq mL_peakAnew 4 [some (.ref 0), some (.int p0), some (.ref 540), none] [.int 0, .ref 540] (0 + am_bc mX9_peakAnew) (0 + am_bs mX9_peakAnew) Q)) : WP mL_peakAnew 0 (am_ent 4 [.ref 0, .int p0, .ref 540]) [] (G X I L F) 0 0 Q := by
  refine w_aload_n rL_peakAnew_0 rfl ?_
  refine w_iconst rL_peakAnew_1 (x := 0) (by decide) ?_
  refine w_aload_n rL_peakAnew_2 rfl ?_
  refine w_iload_n rL_peakAnew_3 rfl ?_
  refine w_invokevirtual rL_peakAnew_4 rfl rfl rfl (Nat.le_of_ble_eq_true rfl) ⟨trivial, trivial, trivial⟩ (G_is (by decide) rfl) (by decide) (by decide) ?_
  exact q
theorem k_L_peakAnew_7 {X : Nat × (Nat → Int32)} {I : Nat → Nat → Int32} {L : Nat → Nat → Int64} {F : Nat → Nat → UInt32} {Q : AQ} {x1 : Int32} {e1 : Int32} {e2 : Int32} (q : vp_in e1 1 ∧ (Q (.inl (some (.int 0))) (G X I (am_u L 540 (Int32.toNatClampNeg e1) (Int32.toInt64 e2)) F))) : WP mL_peakAnew 7 [some (.ref 0), some (.int x1), some (.ref 540), none] [.int e2, .int e1, .ref 540] (G X I L F) 1 6 Q := by
  refine w_i2l rL_peakAnew_7 ?_
  have h8 := q.1
  replace q := q.2
  refine x_lastore rL_peakAnew_8 (G_at (by decide) rfl rfl h8) ?_
  refine w_goto rL_peakAnew_9 ?_
  refine w_iconst rL_peakAnew_15 (x := 0) (by decide) ?_
  refine w_ireturn rL_peakAnew_16 trivial ?_
  exact q
theorem k_L_peakAnew_13 {X : Nat × (Nat → Int32)} {I : Nat → Nat → Int32} {L : Nat → Nat → Int64} {F : Nat → Nat → UInt32} {Q : AQ} {x1 : Int32} (q : Q (.inl (some (.int 1))) (G X I L F)) : WP mL_peakAnew 13 [some (.ref 0), some (.int x1), some (.ref 540), none] [] (G X I L F) 1 6 Q := by
  refine w_iconst rL_peakAnew_13 (x := 1) (by decide) ?_
  refine w_ireturn rL_peakAnew_14 trivial ?_
  exact q
theorem k_L_build_0 {X : Nat × (Nat → Int32)} {I : Nat → Nat → Int32} {L : Nat → Nat → Int64} {F : Nat → Nat → UInt32} {Q : AQ} {p0 : Int32} {p1 : Int32} {p2 : Int32} (q : WP mX9_build 0 (am_ent 5 [.ref 0, .int p0, .int p1, .int p2]) [] (G X I L F) 0 0 (am_kq mL_build 4 [some (.ref 0), some (.int p0), some (.int p1), some (.int p2), none] [] (0 + am_bc mX9_build) (0 + am_bs mX9_build) Q)) : WP mL_build 0 (am_ent 5 [.ref 0, .int p0, .int p1, .int p2]) [] (G X I L F) 0 0 Q := by
  refine w_aload_n rL_build_0 rfl ?_
  refine w_iload_n rL_build_1 rfl ?_
  refine w_iload_n rL_build_2 rfl ?_
  refine w_iload_n rL_build_3 rfl ?_
  refine w_invokevirtual rL_build_4 rfl rfl rfl (Nat.le_of_ble_eq_true rfl) ⟨trivial, trivial, trivial, trivial, trivial⟩ (G_is (by decide) rfl) (by decide) (by decide) ?_
  exact q
theorem k_L_build_7 {X : Nat × (Nat → Int32)} {I : Nat → Nat → Int32} {L : Nat → Nat → Int64} {F : Nat → Nat → UInt32} {Q : AQ} {x1 : Int32} {x2 : Int32} {x3 : Int32} (q : Q (.inl (some (.int 0))) (G X I L F)) : WP mL_build 7 [some (.ref 0), some (.int x1), some (.int x2), some (.int x3), none] [] (G X I L F) 1 6 Q := by
  refine w_goto rL_build_7 ?_
  refine w_iconst rL_build_22 (x := 0) (by decide) ?_
  refine w_ireturn rL_build_23 trivial ?_
  exact q
theorem k_L_build_12 {X : Nat × (Nat → Int32)} {I : Nat → Nat → Int32} {L : Nat → Nat → Int64} {F : Nat → Nat → UInt32} {Q : AQ} {x1 : Int32} {x2 : Int32} {x3 : Int32} (q : Q (.inl (some (.int 1))) (G X I L F)) : WP mL_build 12 [some (.ref 0), some (.int x1), some (.int x2), some (.int x3), none] [] (G X I L F) 1 6 Q := by
  refine w_iconst rL_build_12 (x := 1) (by decide) ?_
  refine w_ireturn rL_build_13 trivial ?_
  exact q
theorem k_L_build_16 {X : Nat × (Nat → Int32)} {I : Nat → Nat → Int32} {L : Nat → Nat → Int64} {F : Nat → Nat → UInt32} {Q : AQ} {x1 : Int32} {x2 : Int32} {x3 : Int32} (q : Q (.inl (some (.int 2))) (G X I L F)) : WP mL_build 16 [some (.ref 0), some (.int x1), some (.int x2), some (.int x3), none] [] (G X I L F) 1 6 Q := by
  refine w_iconst rL_build_16 (x := 2) (by decide) ?_
  refine w_ireturn rL_build_17 trivial ?_
  exact q
theorem k_L_build_20 {X : Nat × (Nat → Int32)} {I : Nat → Nat → Int32} {L : Nat → Nat → Int64} {F : Nat → Nat → UInt32} {Q : AQ} {x1 : Int32} {x2 : Int32} {x3 : Int32} (q : Q (.inl (some (.int 3))) (G X I L F)) : WP mL_build 20 [some (.ref 0), some (.int x1), some (.int x2), some (.int x3), none] [] (G X I L F) 1 6 Q := by
  refine w_iconst rL_build_20 (x := 3) (by decide) ?_
  refine w_ireturn rL_build_21 trivial ?_
  exact q
theorem k_L_rule_0 {X : Nat × (Nat → Int32)} {I : Nat → Nat → Int32} {L : Nat → Nat → Int64} {F : Nat → Nat → UInt32} {Q : AQ} {p0 : Int32} (q : WP mX9_rule 0 (am_ent 3 [.ref 0, .int p0]) [] (G X I L F) 0 0 (am_kq mL_rule 2 [some (.ref 0), some (.int p0), none] [] (0 + am_bc mX9_rule) (0 + am_bs mX9_rule) Q)) : WP mL_rule 0 (am_ent 3 [.ref 0, .int p0]) [] (G X I L F) 0 0 Q := by
  refine w_aload_n rL_rule_0 rfl ?_
  refine w_iload_n rL_rule_1 rfl ?_
  refine w_invokevirtual rL_rule_2 rfl rfl rfl (Nat.le_of_ble_eq_true rfl) ⟨trivial, trivial, trivial⟩ (G_is (by decide) rfl) (by decide) (by decide) ?_
  exact q
theorem k_L_rule_5 {X : Nat × (Nat → Int32)} {I : Nat → Nat → Int32} {L : Nat → Nat → Int64} {F : Nat → Nat → UInt32} {Q : AQ} {x1 : Int32} (q : Q (.inl (some (.int 0))) (G X I L F)) : WP mL_rule 5 [some (.ref 0), some (.int x1), none] [] (G X I L F) 1 6 Q := by
  refine w_goto rL_rule_5 ?_
  refine w_iconst rL_rule_17 (x := 0) (by decide) ?_
  refine w_ireturn rL_rule_18 trivial ?_
  exact q
theorem k_L_rule_9 {X : Nat × (Nat → Int32)} {I : Nat → Nat → Int32} {L : Nat → Nat → Int64} {F : Nat → Nat → UInt32} {Q : AQ} {x1 : Int32} (q : Q (.inl (some (.int 1))) (G X I L F)) : WP mL_rule 9 [some (.ref 0), some (.int x1), none] [] (G X I L F) 1 6 Q := by
  refine w_iconst rL_rule_9 (x := 1) (by decide) ?_
  refine w_ireturn rL_rule_10 trivial ?_
  exact q
theorem k_L_rule_12 {X : Nat × (Nat → Int32)} {I : Nat → Nat → Int32} {L : Nat → Nat → Int64} {F : Nat → Nat → UInt32} {Q : AQ} {x1 : Int32} (q : Q (.inl (some (.int 2))) (G X I L F)) : WP mL_rule 12 [some (.ref 0), some (.int x1), none] [] (G X I L F) 1 6 Q := by
  refine w_iconst rL_rule_12 (x := 2) (by decide) ?_
  refine w_ireturn rL_rule_13 trivial ?_
  exact q
theorem k_L_rule_15 {X : Nat × (Nat → Int32)} {I : Nat → Nat → Int32} {L : Nat → Nat → Int64} {F : Nat → Nat → UInt32} {Q : AQ} {x1 : Int32} (q : Q (.inl (some (.int 3))) (G X I L F)) : WP mL_rule 15 [some (.ref 0), some (.int x1), none] [] (G X I L F) 1 6 Q := by
  refine w_iconst rL_rule_15 (x := 3) (by decide) ?_
  refine w_ireturn rL_rule_16 trivial ?_
  exact q
theorem k_L_goBy_0 {X : Nat × (Nat → Int32)} {I : Nat → Nat → Int32} {L : Nat → Nat → Int64} {F : Nat → Nat → UInt32} {Q : AQ} {p0 : Int32} {p1 : Int32} (q : WP mX9_goBy 0 (am_ent 4 [.ref 0, .int p0, .int p1]) [] (G X I L F) 0 0 (am_kq mL_goBy 3 [some (.ref 0), some (.int p0), some (.int p1), none] [] (0 + am_bc mX9_goBy) (0 + am_bs mX9_goBy) Q)) : WP mL_goBy 0 (am_ent 4 [.ref 0, .int p0, .int p1]) [] (G X I L F) 0 0 Q := by
  refine w_aload_n rL_goBy_0 rfl ?_
  refine w_iload_n rL_goBy_1 rfl ?_
  refine w_iload_n rL_goBy_2 rfl ?_
  refine w_invokevirtual rL_goBy_3 rfl rfl rfl (Nat.le_of_ble_eq_true rfl) ⟨trivial, trivial, trivial, trivial⟩ (G_is (by decide) rfl) (by decide) (by decide) ?_
  exact q
theorem k_L_goBy_6 {X : Nat × (Nat → Int32)} {I : Nat → Nat → Int32} {L : Nat → Nat → Int64} {F : Nat → Nat → UInt32} {Q : AQ} {x1 : Int32} {x2 : Int32} (q : Q (.inl (some (.int 0))) (G X I L F)) : WP mL_goBy 6 [some (.ref 0), some (.int x1), some (.int x2), none] [] (G X I L F) 1 6 Q := by
  refine w_goto rL_goBy_6 ?_
  refine w_iconst rL_goBy_15 (x := 0) (by decide) ?_
  refine w_ireturn rL_goBy_16 trivial ?_
  exact q
theorem k_L_goBy_10 {X : Nat × (Nat → Int32)} {I : Nat → Nat → Int32} {L : Nat → Nat → Int64} {F : Nat → Nat → UInt32} {Q : AQ} {x1 : Int32} {x2 : Int32} (q : Q (.inl (some (.int 1))) (G X I L F)) : WP mL_goBy 10 [some (.ref 0), some (.int x1), some (.int x2), none] [] (G X I L F) 1 6 Q := by
  refine w_iconst rL_goBy_10 (x := 1) (by decide) ?_
  refine w_ireturn rL_goBy_11 trivial ?_
  exact q
theorem k_L_goBy_13 {X : Nat × (Nat → Int32)} {I : Nat → Nat → Int32} {L : Nat → Nat → Int64} {F : Nat → Nat → UInt32} {Q : AQ} {x1 : Int32} {x2 : Int32} (q : Q (.inl (some (.int 2))) (G X I L F)) : WP mL_goBy 13 [some (.ref 0), some (.int x1), some (.int x2), none] [] (G X I L F) 1 6 Q := by
  refine w_iconst rL_goBy_13 (x := 2) (by decide) ?_
  refine w_ireturn rL_goBy_14 trivial ?_
  exact q
theorem k_L_level_0 {X : Nat × (Nat → Int32)} {I : Nat → Nat → Int32} {L : Nat → Nat → Int64} {F : Nat → Nat → UInt32} {Q : AQ} {p0 : Int32} (q : WP mX9_level 0 (am_ent 2 [.ref 0, .int p0]) [] (G X I L F) 0 0 (am_kq mL_level 4 [some (.ref 0), some (.int p0), some (.ref 540), none] [.int 0, .ref 540] (0 + am_bc mX9_level) (0 + am_bs mX9_level) Q)) : WP mL_level 0 (am_ent 4 [.ref 0, .int p0, .ref 540]) [] (G X I L F) 0 0 Q := by
  refine w_aload_n rL_level_0 rfl ?_
  refine w_iconst rL_level_1 (x := 0) (by decide) ?_
  refine w_aload_n rL_level_2 rfl ?_
  refine w_iload_n rL_level_3 rfl ?_
  refine w_invokevirtual rL_level_4 rfl rfl rfl (Nat.le_of_ble_eq_true rfl) ⟨trivial, trivial, trivial⟩ (G_is (by decide) rfl) (by decide) (by decide) ?_
  exact q
theorem k_L_level_7 {X : Nat × (Nat → Int32)} {I : Nat → Nat → Int32} {L : Nat → Nat → Int64} {F : Nat → Nat → UInt32} {Q : AQ} {x1 : Int32} {e1 : Int32} {e2 : Int32} (q : vp_in e1 1 ∧ (Q (.inl (some (.int 0))) (G X I (am_u L 540 (Int32.toNatClampNeg e1) (Int32.toInt64 e2)) F))) : WP mL_level 7 [some (.ref 0), some (.int x1), some (.ref 540), none] [.int e2, .int e1, .ref 540] (G X I L F) 1 6 Q := by
  refine w_i2l rL_level_7 ?_
  have h8 := q.1
  replace q := q.2
  refine x_lastore rL_level_8 (G_at (by decide) rfl rfl h8) ?_
  refine w_goto rL_level_9 ?_
  refine w_iconst rL_level_15 (x := 0) (by decide) ?_
  refine w_ireturn rL_level_16 trivial ?_
  exact q
theorem k_L_level_13 {X : Nat × (Nat → Int32)} {I : Nat → Nat → Int32} {L : Nat → Nat → Int64} {F : Nat → Nat → UInt32} {Q : AQ} {x1 : Int32} (q : Q (.inl (some (.int 1))) (G X I L F)) : WP mL_level 13 [some (.ref 0), some (.int x1), some (.ref 540), none] [] (G X I L F) 1 6 Q := by
  refine w_iconst rL_level_13 (x := 1) (by decide) ?_
  refine w_ireturn rL_level_14 trivial ?_
  exact q
theorem k_L_below_0 {X : Nat × (Nat → Int32)} {I : Nat → Nat → Int32} {L : Nat → Nat → Int64} {F : Nat → Nat → UInt32} {Q : AQ} {p0 : Int32} {p1 : Int32} (q : WP mX9_below 0 (am_ent 3 [.ref 0, .int p0, .int p1]) [] (G X I L F) 0 0 (am_kq mL_below 5 [some (.ref 0), some (.int p0), some (.int p1), some (.ref 540), none] [.int 0, .ref 540] (0 + am_bc mX9_below) (0 + am_bs mX9_below) Q)) : WP mL_below 0 (am_ent 5 [.ref 0, .int p0, .int p1, .ref 540]) [] (G X I L F) 0 0 Q := by
  refine w_aload_n rL_below_0 rfl ?_
  refine w_iconst rL_below_1 (x := 0) (by decide) ?_
  refine w_aload_n rL_below_2 rfl ?_
  refine w_iload_n rL_below_3 rfl ?_
  refine w_iload_n rL_below_4 rfl ?_
  refine w_invokevirtual rL_below_5 rfl rfl rfl (Nat.le_of_ble_eq_true rfl) ⟨trivial, trivial, trivial, trivial⟩ (G_is (by decide) rfl) (by decide) (by decide) ?_
  exact q
theorem k_L_below_8 {X : Nat × (Nat → Int32)} {I : Nat → Nat → Int32} {L : Nat → Nat → Int64} {F : Nat → Nat → UInt32} {Q : AQ} {x1 : Int32} {x2 : Int32} {e1 : Int32} {e2 : Int32} (q : vp_in e1 1 ∧ (Q (.inl (some (.int 0))) (G X I (am_u L 540 (Int32.toNatClampNeg e1) (Int32.toInt64 e2)) F))) : WP mL_below 8 [some (.ref 0), some (.int x1), some (.int x2), some (.ref 540), none] [.int e2, .int e1, .ref 540] (G X I L F) 1 6 Q := by
  refine w_i2l rL_below_8 ?_
  have h9 := q.1
  replace q := q.2
  refine x_lastore rL_below_9 (G_at (by decide) rfl rfl h9) ?_
  refine w_goto rL_below_10 ?_
  refine w_iconst rL_below_21 (x := 0) (by decide) ?_
  refine w_ireturn rL_below_22 trivial ?_
  exact q
theorem k_L_below_15 {X : Nat × (Nat → Int32)} {I : Nat → Nat → Int32} {L : Nat → Nat → Int64} {F : Nat → Nat → UInt32} {Q : AQ} {x1 : Int32} {x2 : Int32} (q : Q (.inl (some (.int 1))) (G X I L F)) : WP mL_below 15 [some (.ref 0), some (.int x1), some (.int x2), some (.ref 540), none] [] (G X I L F) 1 6 Q := by
  refine w_iconst rL_below_15 (x := 1) (by decide) ?_
  refine w_ireturn rL_below_16 trivial ?_
  exact q
theorem k_L_below_19 {X : Nat × (Nat → Int32)} {I : Nat → Nat → Int32} {L : Nat → Nat → Int64} {F : Nat → Nat → UInt32} {Q : AQ} {x1 : Int32} {x2 : Int32} (q : Q (.inl (some (.int 2))) (G X I L F)) : WP mL_below 19 [some (.ref 0), some (.int x1), some (.int x2), some (.ref 540), none] [] (G X I L F) 1 6 Q := by
  refine w_iconst rL_below_19 (x := 2) (by decide) ?_
  refine w_ireturn rL_below_20 trivial ?_
  exact q
theorem k_L_valley_0 {X : Nat × (Nat → Int32)} {I : Nat → Nat → Int32} {L : Nat → Nat → Int64} {F : Nat → Nat → UInt32} {Q : AQ} {p0 : Int32} {p1 : Int32} {p2 : Int32} {p3 : Int32} (q : WP mX9_valley 0 (am_ent 6 [.ref 0, .int p0, .int p1, .int p2, .int p3]) [] (G X I L F) 0 0 (am_kq mL_valley 6 [some (.ref 0), some (.int p0), some (.int p1), some (.int p2), some (.int p3), none] [] (0 + am_bc mX9_valley) (0 + am_bs mX9_valley) Q)) : WP mL_valley 0 (am_ent 6 [.ref 0, .int p0, .int p1, .int p2, .int p3]) [] (G X I L F) 0 0 Q := by
  refine w_aload_n rL_valley_0 rfl ?_
  refine w_iload_n rL_valley_1 rfl ?_
  refine w_iload_n rL_valley_2 rfl ?_
  refine w_iload_n rL_valley_3 rfl ?_
  refine w_iload rL_valley_4 rfl ?_
  refine w_invokevirtual rL_valley_6 rfl rfl rfl (Nat.le_of_ble_eq_true rfl) ⟨trivial, trivial, trivial, trivial, trivial, trivial⟩ (G_is (by decide) rfl) (by decide) (by decide) ?_
  exact q
theorem k_L_valley_9 {X : Nat × (Nat → Int32)} {I : Nat → Nat → Int32} {L : Nat → Nat → Int64} {F : Nat → Nat → UInt32} {Q : AQ} {x1 : Int32} {x2 : Int32} {x3 : Int32} {x4 : Int32} (q : Q (.inl (some (.int 0))) (G X I L F)) : WP mL_valley 9 [some (.ref 0), some (.int x1), some (.int x2), some (.int x3), some (.int x4), none] [] (G X I L F) 1 6 Q := by
  refine w_goto rL_valley_9 ?_
  refine w_iconst rL_valley_24 (x := 0) (by decide) ?_
  refine w_ireturn rL_valley_25 trivial ?_
  exact q
theorem k_L_valley_14 {X : Nat × (Nat → Int32)} {I : Nat → Nat → Int32} {L : Nat → Nat → Int64} {F : Nat → Nat → UInt32} {Q : AQ} {x1 : Int32} {x2 : Int32} {x3 : Int32} {x4 : Int32} (q : Q (.inl (some (.int 1))) (G X I L F)) : WP mL_valley 14 [some (.ref 0), some (.int x1), some (.int x2), some (.int x3), some (.int x4), none] [] (G X I L F) 1 6 Q := by
  refine w_iconst rL_valley_14 (x := 1) (by decide) ?_
  refine w_ireturn rL_valley_15 trivial ?_
  exact q
theorem k_L_valley_18 {X : Nat × (Nat → Int32)} {I : Nat → Nat → Int32} {L : Nat → Nat → Int64} {F : Nat → Nat → UInt32} {Q : AQ} {x1 : Int32} {x2 : Int32} {x3 : Int32} {x4 : Int32} (q : Q (.inl (some (.int 2))) (G X I L F)) : WP mL_valley 18 [some (.ref 0), some (.int x1), some (.int x2), some (.int x3), some (.int x4), none] [] (G X I L F) 1 6 Q := by
  refine w_iconst rL_valley_18 (x := 2) (by decide) ?_
  refine w_ireturn rL_valley_19 trivial ?_
  exact q
theorem k_L_valley_22 {X : Nat × (Nat → Int32)} {I : Nat → Nat → Int32} {L : Nat → Nat → Int64} {F : Nat → Nat → UInt32} {Q : AQ} {x1 : Int32} {x2 : Int32} {x3 : Int32} {x4 : Int32} (q : Q (.inl (some (.int 3))) (G X I L F)) : WP mL_valley 22 [some (.ref 0), some (.int x1), some (.int x2), some (.int x3), some (.int x4), none] [] (G X I L F) 1 6 Q := by
  refine w_iconst rL_valley_22 (x := 3) (by decide) ?_
  refine w_ireturn rL_valley_23 trivial ?_
  exact q
theorem k_L_sound_0 {X : Nat × (Nat → Int32)} {I : Nat → Nat → Int32} {L : Nat → Nat → Int64} {F : Nat → Nat → UInt32} {Q : AQ} {p0 : Int32} {p1 : Int32} (q : WP mX9_sound 0 (am_ent 5 [.ref 0, .int p0, .int p1]) [] (G X I L F) 0 0 (am_kq mL_sound 5 [some (.ref 0), some (.int p0), some (.int p1), some (.ref 540), none] [.int 0, .ref 540] (0 + am_bc mX9_sound) (0 + am_bs mX9_sound) Q)) : WP mL_sound 0 (am_ent 5 [.ref 0, .int p0, .int p1, .ref 540]) [] (G X I L F) 0 0 Q := by
  refine w_aload_n rL_sound_0 rfl ?_
  refine w_iconst rL_sound_1 (x := 0) (by decide) ?_
  refine w_aload_n rL_sound_2 rfl ?_
  refine w_iload_n rL_sound_3 rfl ?_
  refine w_iload_n rL_sound_4 rfl ?_
  refine w_invokevirtual rL_sound_5 rfl rfl rfl (Nat.le_of_ble_eq_true rfl) ⟨trivial, trivial, trivial, trivial⟩ (G_is (by decide) rfl) (by decide) (by decide) ?_
  exact q
theorem k_L_sound_8 {X : Nat × (Nat → Int32)} {I : Nat → Nat → Int32} {L : Nat → Nat → Int64} {F : Nat → Nat → UInt32} {Q : AQ} {x1 : Int32} {x2 : Int32} {e1 : Int32} {e2 : Int32} (q : vp_in e1 1 ∧ (Q (.inl (some (.int 0))) (G X I (am_u L 540 (Int32.toNatClampNeg e1) (Int32.toInt64 e2)) F))) : WP mL_sound 8 [some (.ref 0), some (.int x1), some (.int x2), some (.ref 540), none] [.int e2, .int e1, .ref 540] (G X I L F) 1 6 Q := by
  refine w_i2l rL_sound_8 ?_
  have h9 := q.1
  replace q := q.2
  refine x_lastore rL_sound_9 (G_at (by decide) rfl rfl h9) ?_
  refine w_goto rL_sound_10 ?_
  refine w_iconst rL_sound_21 (x := 0) (by decide) ?_
  refine w_ireturn rL_sound_22 trivial ?_
  exact q
theorem k_L_sound_15 {X : Nat × (Nat → Int32)} {I : Nat → Nat → Int32} {L : Nat → Nat → Int64} {F : Nat → Nat → UInt32} {Q : AQ} {x1 : Int32} {x2 : Int32} (q : Q (.inl (some (.int 1))) (G X I L F)) : WP mL_sound 15 [some (.ref 0), some (.int x1), some (.int x2), some (.ref 540), none] [] (G X I L F) 1 6 Q := by
  refine w_iconst rL_sound_15 (x := 1) (by decide) ?_
  refine w_ireturn rL_sound_16 trivial ?_
  exact q
theorem k_L_sound_19 {X : Nat × (Nat → Int32)} {I : Nat → Nat → Int32} {L : Nat → Nat → Int64} {F : Nat → Nat → UInt32} {Q : AQ} {x1 : Int32} {x2 : Int32} (q : Q (.inl (some (.int 2))) (G X I L F)) : WP mL_sound 19 [some (.ref 0), some (.int x1), some (.int x2), some (.ref 540), none] [] (G X I L F) 1 6 Q := by
  refine w_iconst rL_sound_19 (x := 2) (by decide) ?_
  refine w_ireturn rL_sound_20 trivial ?_
  exact q
theorem k_L_siren_0 {X : Nat × (Nat → Int32)} {I : Nat → Nat → Int32} {L : Nat → Nat → Int64} {F : Nat → Nat → UInt32} {Q : AQ} {p0 : Int32} (q : WP mX9_siren 0 (am_ent 2 [.ref 0, .int p0]) [] (G X I L F) 0 0 (am_kq mL_siren 4 [some (.ref 0), some (.int p0), some (.ref 540), none] [.int 0, .ref 540] (0 + am_bc mX9_siren) (0 + am_bs mX9_siren) Q)) : WP mL_siren 0 (am_ent 4 [.ref 0, .int p0, .ref 540]) [] (G X I L F) 0 0 Q := by
  refine w_aload_n rL_siren_0 rfl ?_
  refine w_iconst rL_siren_1 (x := 0) (by decide) ?_
  refine w_aload_n rL_siren_2 rfl ?_
  refine w_iload_n rL_siren_3 rfl ?_
  refine w_invokevirtual rL_siren_4 rfl rfl rfl (Nat.le_of_ble_eq_true rfl) ⟨trivial, trivial, trivial⟩ (G_is (by decide) rfl) (by decide) (by decide) ?_
  exact q
theorem k_L_siren_7 {X : Nat × (Nat → Int32)} {I : Nat → Nat → Int32} {L : Nat → Nat → Int64} {F : Nat → Nat → UInt32} {Q : AQ} {x1 : Int32} {e1 : Int32} {e2 : Int32} (q : vp_in e1 1 ∧ (Q (.inl (some (.int 0))) (G X I (am_u L 540 (Int32.toNatClampNeg e1) (Int32.toInt64 e2)) F))) : WP mL_siren 7 [some (.ref 0), some (.int x1), some (.ref 540), none] [.int e2, .int e1, .ref 540] (G X I L F) 1 6 Q := by
  refine w_i2l rL_siren_7 ?_
  have h8 := q.1
  replace q := q.2
  refine x_lastore rL_siren_8 (G_at (by decide) rfl rfl h8) ?_
  refine w_goto rL_siren_9 ?_
  refine w_iconst rL_siren_15 (x := 0) (by decide) ?_
  refine w_ireturn rL_siren_16 trivial ?_
  exact q
theorem k_L_siren_13 {X : Nat × (Nat → Int32)} {I : Nat → Nat → Int32} {L : Nat → Nat → Int64} {F : Nat → Nat → UInt32} {Q : AQ} {x1 : Int32} (q : Q (.inl (some (.int 1))) (G X I L F)) : WP mL_siren 13 [some (.ref 0), some (.int x1), some (.ref 540), none] [] (G X I L F) 1 6 Q := by
  refine w_iconst rL_siren_13 (x := 1) (by decide) ?_
  refine w_ireturn rL_siren_14 trivial ?_
  exact q
