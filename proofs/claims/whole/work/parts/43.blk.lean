/-! own: the blocks of the methods that go round or call on, written by a program -/
set_option maxRecDepth 100000
theorem k_X10_goesOn_0 {X : Nat × (Nat → Int32)} {I : Nat → Nat → Int32} {L : Nat → Nat → Int64} {F : Nat → Nat → UInt32} {Q : AQ} {ch : Int32} (q : ∀ s3_0 : Int32, s3_0 = (if ch = 42 then 1 else (if ch = 47 then 1 else 0 : Int32) : Int32) → (WP mX10_goesOn 18 [some (.ref 498), some (.int ch), some (.int s3_0)] [] (G X I L F) 0 0 Q)) : WP mX10_goesOn 0 (am_ent 3 [.ref 498, .int ch]) [] (G X I L F) 0 0 Q := by
  refine w_iload_n rX10_goesOn_0 rfl ?_
  refine w_bipush rX10_goesOn_1 (x := 42) (by decide) ?_
  have j3 : ∀ s3_0 : Int32, s3_0 = (if ch = 42 then 1 else (if ch = 47 then 1 else 0 : Int32) : Int32) → WP mX10_goesOn 17 [some (.ref 498), some (.int ch), none] [.int s3_0] (G X I L F) 0 0 Q := by
    intro s3_0 es3_0
    replace q := q s3_0 es3_0
    refine w_istore_n rX10_goesOn_17 rfl trivial ?_
    exact q
  refine w_icmpeq rX10_goesOn_3 (fun h3 => ?_) (fun h3 => ?_)
  · skip
    refine w_iconst rX10_goesOn_12 (x := 1) (by decide) ?_
    refine w_goto rX10_goesOn_13 ?_
    exact j3 _ (if_pos h3).symm
  · skip
    refine w_iload_n rX10_goesOn_6 rfl ?_
    refine w_bipush rX10_goesOn_7 (x := 47) (by decide) ?_
    refine w_icmpne rX10_goesOn_9 (fun h9 => ?_) (fun h9 => ?_)
    · skip
      refine w_iconst rX10_goesOn_16 (x := 0) (by decide) ?_
      exact j3 _ ((if_neg h3).trans (if_neg h9)).symm
    · skip
      refine w_iconst rX10_goesOn_12 (x := 1) (by decide) ?_
      refine w_goto rX10_goesOn_13 ?_
      exact j3 _ ((if_neg h3).trans (if_pos h9)).symm
theorem k_X10_goesOn_18 {X : Nat × (Nat → Int32)} {I : Nat → Nat → Int32} {L : Nat → Nat → Int64} {F : Nat → Nat → UInt32} {Q : AQ} {x1 : Int32} {x2 : Int32} (q : (p_X10_waitsFor x2 I) ∧ (((f_X10_waitsFor x2 I) = 0 → ((f_X10_isSign x1) = 0 → (x1 = 44 → Q (.inl (some (.int 0))) (G X I L F)) ∧ (¬ x1 = 44 → vp_in ((I 498 50) - 1) 48 ∧ (((¬ (I 539 (Int32.toNatClampNeg ((I 498 50) - 1))) = 40 → (p_X10_applies I F) ∧ (True))) ∧ (∀ I68 : Nat → Nat → Int32, I68 = (if (I 539 (Int32.toNatClampNeg ((I 498 50) - 1))) = 40 then (am_u I 498 50 ((I 498 50) - 1)) else (fI_X10_applies I F) : Nat → Nat → Int32) → ∀ F68 : Nat → Nat → UInt32, F68 = (if (I 539 (Int32.toNatClampNeg ((I 498 50) - 1))) = 40 then F else (fF_X10_applies I F) : Nat → Nat → UInt32) → (WP mX10_closes 0 (am_ent 1 [.ref 498]) [] (G X I68 L F68) 0 0 (am_kq mX10_goesOn 89 [some (.ref 498), some (.int x1), some (.int x2)] [] (0 + am_bc mX10_closes) (0 + am_bs mX10_closes) Q)))))) ∧ (¬ (f_X10_isSign x1) = 0 → (p_X10_waitsOn x1 I) ∧ (Q (.inl (some (.int 0))) (G X (fI_X10_waitsOn x1 I) L F)))) ∧ (¬ (f_X10_waitsFor x2 I) = 0 → (p_X10_applies I F) ∧ (WP mX10_goesOn 18 [some (.ref 498), some (.int x1), some (.int x2)] [] (G X (fI_X10_applies I F) L (fF_X10_applies I F)) 0 0 Q)))) : WP mX10_goesOn 18 [some (.ref 498), some (.int x1), some (.int x2)] [] (G X I L F) 0 0 Q := by
  refine w_aload_n rX10_goesOn_18 rfl ?_
  refine w_iload_n rX10_goesOn_19 rfl ?_
  refine w_invokevirtual rX10_goesOn_20 rfl rfl rfl (Nat.le_of_ble_eq_true rfl) ⟨trivial, trivial, trivial⟩ (G_is (by decide) rfl) (by decide) (by decide) ?_
  refine s_X10_waitsFor q.1 ?_
  replace q := q.2
  show WP mX10_goesOn 23 _ _ _ 0 0 _
  refine w_ifeq rX10_goesOn_23 (fun h23 => ?_) (fun h23 => ?_)
  · replace q := q.1 h23
    refine w_iload_n rX10_goesOn_33 rfl ?_
    refine w_invokestatic rX10_goesOn_34 rfl rfl rfl (Nat.le_of_ble_eq_true rfl) ⟨trivial, trivial⟩ trivial (by decide) (by decide) ?_
    refine s_X10_isSign ?_
    show WP mX10_goesOn 37 _ _ _ 0 0 _
    refine w_ifeq rX10_goesOn_37 (fun h37 => ?_) (fun h37 => ?_)
    · replace q := q.1 h37
      refine w_iload_n rX10_goesOn_47 rfl ?_
      refine w_bipush rX10_goesOn_48 (x := 44) (by decide) ?_
      refine w_icmpne rX10_goesOn_50 (fun h50 => ?_) (fun h50 => ?_)
      · replace q := q.2 h50
        refine w_aload_n rX10_goesOn_55 rfl ?_
        refine w_getR rX10_goesOn_56 rfl rfl (G_is (by decide) rfl) (x := 539) rfl ?_
        refine w_aload_n rX10_goesOn_59 rfl ?_
        refine x_getI rX10_goesOn_60 rfl rfl (G_is (by decide) rfl) ?_
        refine w_iconst rX10_goesOn_63 (x := 1) (by decide) ?_
        refine w_isub rX10_goesOn_64 ?_
        have h65 := q.1
        replace q := q.2
        refine x_iaload rX10_goesOn_65 (G_at (by decide) rfl rfl h65) ?_
        refine w_bipush rX10_goesOn_66 (x := 40) (by decide) ?_
        have j68 : ∀ I68 : Nat → Nat → Int32, I68 = (if (I 539 (Int32.toNatClampNeg ((I 498 50) - 1))) = 40 then (am_u I 498 50 ((I 498 50) - 1)) else (fI_X10_applies I F) : Nat → Nat → Int32) → ∀ F68 : Nat → Nat → UInt32, F68 = (if (I 539 (Int32.toNatClampNeg ((I 498 50) - 1))) = 40 then F else (fF_X10_applies I F) : Nat → Nat → UInt32) → WP mX10_goesOn 88 [some (.ref 498), some (.int x1), some (.int x2)] [] (G X I68 L F68) 0 0 Q := by
          intro I68 eI68 F68 eF68
          replace q := q.2
          replace q := q I68 eI68 F68 eF68
          refine w_aload_n rX10_goesOn_88 rfl ?_
          refine w_invokevirtual rX10_goesOn_89 rfl rfl rfl (Nat.le_of_ble_eq_true rfl) ⟨trivial, trivial⟩ (G_is (by decide) rfl) (by decide) (by decide) ?_
          exact q
        replace q := q.1
        refine w_icmpne rX10_goesOn_68 (fun h68 => ?_) (fun h68 => ?_)
        · replace q := q h68
          refine w_aload_n rX10_goesOn_84 rfl ?_
          refine w_invokevirtual rX10_goesOn_85 rfl rfl rfl (Nat.le_of_ble_eq_true rfl) ⟨trivial, trivial⟩ (G_is (by decide) rfl) (by decide) (by decide) ?_
          refine s_X10_applies q.1 ?_
          replace q := q.2
          show WP mX10_goesOn 88 _ _ _ 0 0 _
          exact j68 _ (if_neg h68).symm _ (if_neg h68).symm
        · skip
          refine w_aload_n rX10_goesOn_71 rfl ?_
          refine w_dup rX10_goesOn_72 trivial ?_
          refine x_getI rX10_goesOn_73 rfl rfl (G_is (by decide) rfl) ?_
          refine w_iconst rX10_goesOn_76 (x := 1) (by decide) ?_
          refine w_isub rX10_goesOn_77 ?_
          refine x_putI rX10_goesOn_78 rfl (G_is (by decide) rfl) trivial ?_
          refine w_goto rX10_goesOn_81 ?_
          exact j68 _ (if_pos h68).symm _ (if_pos h68).symm
      · replace q := q.1 h50
        refine w_iconst rX10_goesOn_53 (x := 0) (by decide) ?_
        refine w_ireturn rX10_goesOn_54 (Or.inl rfl) ?_
        exact q
    · replace q := q.2 h37
      refine w_aload_n rX10_goesOn_40 rfl ?_
      refine w_iload_n rX10_goesOn_41 rfl ?_
      refine w_invokevirtual rX10_goesOn_42 rfl rfl rfl (Nat.le_of_ble_eq_true rfl) ⟨trivial, trivial, trivial⟩ (G_is (by decide) rfl) (by decide) (by decide) ?_
      refine s_X10_waitsOn q.1 ?_
      replace q := q.2
      show WP mX10_goesOn 45 _ _ _ 0 0 _
      refine w_iconst rX10_goesOn_45 (x := 0) (by decide) ?_
      refine w_ireturn rX10_goesOn_46 (Or.inl rfl) ?_
      exact q
  · replace q := q.2 h23
    refine w_aload_n rX10_goesOn_26 rfl ?_
    refine w_invokevirtual rX10_goesOn_27 rfl rfl rfl (Nat.le_of_ble_eq_true rfl) ⟨trivial, trivial⟩ (G_is (by decide) rfl) (by decide) (by decide) ?_
    refine s_X10_applies q.1 ?_
    replace q := q.2
    show WP mX10_goesOn 30 _ _ _ 0 0 _
    refine w_goto rX10_goesOn_30 ?_
    exact q
theorem k_X10_goesOn_92 {X : Nat × (Nat → Int32)} {I : Nat → Nat → Int32} {L : Nat → Nat → Int64} {F : Nat → Nat → UInt32} {Q : AQ} {x1 : Int32} {x2 : Int32} (q : Q (.inl (some (.int 1))) (G X I L F)) : WP mX10_goesOn 92 [some (.ref 498), some (.int x1), some (.int x2)] [] (G X I L F) 0 0 Q := by
  refine w_iconst rX10_goesOn_92 (x := 1) (by decide) ?_
  refine w_ireturn rX10_goesOn_93 (Or.inr rfl) ?_
  exact q
theorem k_X10_worth_0 {X : Nat × (Nat → Int32)} {I : Nat → Nat → Int32} {L : Nat → Nat → Int64} {F : Nat → Nat → UInt32} {Q : AQ} {ver : Int32} {hour : Int32} (q : WP mX10_worth 15 [some (.ref 498), some (.int ver), some (.int hour), some (.int 0), some (.int 0), none, none] [] (G X (am_u (am_u I 498 48 0) 498 50 0) L F) 0 0 Q) : WP mX10_worth 0 (am_ent 7 [.ref 498, .int ver, .int hour]) [] (G X I L F) 0 0 Q := by
  refine w_aload_n rX10_worth_0 rfl ?_
  refine w_iconst rX10_worth_1 (x := 0) (by decide) ?_
  refine x_putI rX10_worth_2 rfl (G_is (by decide) rfl) trivial ?_
  refine w_aload_n rX10_worth_5 rfl ?_
  refine w_iconst rX10_worth_6 (x := 0) (by decide) ?_
  refine x_putI rX10_worth_7 rfl (G_is (by decide) rfl) trivial ?_
  refine w_iconst rX10_worth_10 (x := 0) (by decide) ?_
  refine w_istore_n rX10_worth_11 rfl trivial ?_
  refine w_iconst rX10_worth_12 (x := 0) (by decide) ?_
  refine w_istore rX10_worth_13 rfl trivial ?_
  exact q
theorem k_X10_worth_15 {X : Nat × (Nat → Int32)} {I : Nat → Nat → Int32} {L : Nat → Nat → Int64} {F : Nat → Nat → UInt32} {Q : AQ} {x1 : Int32} {x2 : Int32} {x3 : Int32} {x4 : Int32} {d5 : Option Value} {d6 : Option Value} (q : ((I 498 46) ≤ x4 → WP mX10_worth 202 [some (.ref 498), some (.int x1), some (.int x2), some (.int x3), some (.int x4), d5, d6] [] (G X I L F) 0 0 Q) ∧ (¬ (I 498 46) ≤ x4 → vp_in x4 40 ∧ ((x3 = 0 → ((I 537 (Int32.toNatClampNeg x4)) = 45 → (p_X10_waitsOn 126 I) ∧ (WP mX10_worth 15 [some (.ref 498), some (.int x1), some (.int x2), some (.int x3), some (.int (x4 + 1)), some (.int (I 537 (Int32.toNatClampNeg x4))), d6] [] (G X (fI_X10_waitsOn 126 I) L F) 0 0 Q)) ∧ (¬ (I 537 (Int32.toNatClampNeg x4)) = 45 → ((I 537 (Int32.toNatClampNeg x4)) = 40 → (p_X10_waitsOn 40 I) ∧ (WP mX10_worth 15 [some (.ref 498), some (.int x1), some (.int x2), some (.int x3), some (.int (x4 + 1)), some (.int (I 537 (Int32.toNatClampNeg x4))), d6] [] (G X (fI_X10_waitsOn 40 I) L F) 0 0 Q)) ∧ (¬ (I 537 (Int32.toNatClampNeg x4)) = 40 → ((f_X10_inputs (I 537 (Int32.toNatClampNeg x4))) ≤ 0 → ∀ s104_0 : Int32, s104_0 = (if x1 = (-1) then 0 else (if (f_X10_figures (I 537 (Int32.toNatClampNeg x4)) 0) ≤ 0 then 0 else 1 : Int32) : Int32) → (((f_X10_isFigure (I 537 (Int32.toNatClampNeg x4))) = 0 → ((¬ s104_0 = 0 → vp_in (x4 + 1) 40 ∧ (True))) ∧ (∀ s150_5 : Int32, s150_5 = (if s104_0 = 0 then 0 else ((I 537 (Int32.toNatClampNeg (x4 + 1))) - 48) : Int32) → ((p_X10_named x1 x2 (I 537 (Int32.toNatClampNeg x4)) s150_5 I) ∧ ((p_X10_puts (f_X10_named x1 x2 (I 537 (Int32.toNatClampNeg x4)) s150_5 I F) I) ∧ (∀ s179_1 : Int32, s179_1 = (if s104_0 = 0 then 0 else 1 : Int32) → (WP mX10_closes 0 (am_ent 1 [.ref 498]) [] (G X (fI_X10_puts (f_X10_named x1 x2 (I 537 (Int32.toNatClampNeg x4)) s150_5 I F) I) L (fF_X10_puts (f_X10_named x1 x2 (I 537 (Int32.toNatClampNeg x4)) s150_5 I F) I F)) 0 0 (am_kq mX10_worth 191 [some (.ref 498), some (.int x1), some (.int x2), some (.int x3), some (.int (x4 + s179_1)), some (.int (I 537 (Int32.toNatClampNeg x4))), some (.int s104_0)] [] (0 + am_bc mX10_closes) (0 + am_bs mX10_closes) Q))))))) ∧ (¬ (f_X10_isFigure (I 537 (Int32.toNatClampNeg x4))) = 0 → WP mX10_putsNumber 0 (am_ent 6 [.ref 498, .int x4]) [] (G X I L F) 0 0 (am_kq mX10_worth 134 [some (.ref 498), some (.int x1), some (.int x2), some (.int x3), some (.int x4), some (.int (I 537 (Int32.toNatClampNeg x4))), some (.int s104_0)] [] (0 + am_bc mX10_putsNumber) (0 + am_bs mX10_putsNumber) Q)))) ∧ (¬ (f_X10_inputs (I 537 (Int32.toNatClampNeg x4))) ≤ 0 → (p_X10_waitsOn (I 537 (Int32.toNatClampNeg x4)) I) ∧ (WP mX10_worth 15 [some (.ref 498), some (.int x1), some (.int x2), some (.int x3), some (.int ((x4 + 1) + 1)), some (.int (I 537 (Int32.toNatClampNeg x4))), d6] [] (G X (fI_X10_waitsOn (I 537 (Int32.toNatClampNeg x4)) I) L F) 0 0 Q))))) ∧ (¬ x3 = 0 → WP mX10_goesOn 0 (am_ent 3 [.ref 498, .int (I 537 (Int32.toNatClampNeg x4))]) [] (G X I L F) 0 0 (am_kq mX10_worth 40 [some (.ref 498), some (.int x1), some (.int x2), some (.int x3), some (.int x4), some (.int (I 537 (Int32.toNatClampNeg x4))), d6] [] (0 + am_bc mX10_goesOn) (0 + am_bs mX10_goesOn) Q))))) : WP mX10_worth 15 [some (.ref 498), some (.int x1), some (.int x2), some (.int x3), some (.int x4), d5, d6] [] (G X I L F) 0 0 Q := by
  refine w_iload rX10_worth_15 rfl ?_
  refine w_aload_n rX10_worth_17 rfl ?_
  refine x_getI rX10_worth_18 rfl rfl (G_is (by decide) rfl) ?_
  refine w_icmpge rX10_worth_21 (fun h21 => ?_) (fun h21 => ?_)
  · replace q := q.1 h21
    exact q
  · replace q := q.2 h21
    refine w_aload_n rX10_worth_24 rfl ?_
    refine w_getR rX10_worth_25 rfl rfl (G_is (by decide) rfl) (x := 537) rfl ?_
    refine w_iload rX10_worth_28 rfl ?_
    have h30 := q.1
    replace q := q.2
    refine x_iaload rX10_worth_30 (G_at (by decide) rfl rfl h30) ?_
    refine w_istore rX10_worth_31 rfl trivial ?_
    refine w_iload_n rX10_worth_33 rfl ?_
    refine w_ifeq rX10_worth_34 (fun h34 => ?_) (fun h34 => ?_)
    · replace q := q.1 h34
      refine w_iload rX10_worth_47 rfl ?_
      refine w_bipush rX10_worth_49 (x := 45) (by decide) ?_
      refine w_icmpeq rX10_worth_51 (fun h51 => ?_) (fun h51 => ?_)
      · replace q := q.1 h51
        refine w_aload_n rX10_worth_61 rfl ?_
        refine w_iload rX10_worth_62 rfl ?_
        refine w_bipush rX10_worth_64 (x := 45) (by decide) ?_
        refine w_icmpne rX10_worth_66 (fun h => absurd h51 h) (fun _ => ?_)
        refine w_bipush rX10_worth_69 (x := 126) (by decide) ?_
        refine w_goto rX10_worth_71 ?_
        refine w_invokevirtual rX10_worth_76 rfl rfl rfl (Nat.le_of_ble_eq_true rfl) ⟨trivial, trivial, trivial⟩ (G_is (by decide) rfl) (by decide) (by decide) ?_
        refine s_X10_waitsOn q.1 ?_
        replace q := q.2
        show WP mX10_worth 79 _ _ _ 0 0 _
        refine w_goto rX10_worth_79 ?_
        refine w_iinc rX10_worth_196 rfl rfl trivial ?_
        refine w_goto rX10_worth_199 ?_
        exact q
      · replace q := q.2 h51
        refine w_iload rX10_worth_54 rfl ?_
        refine w_bipush rX10_worth_56 (x := 40) (by decide) ?_
        refine w_icmpne rX10_worth_58 (fun h58 => ?_) (fun h58 => ?_)
        · replace q := q.2 h58
          refine w_iload rX10_worth_82 rfl ?_
          refine w_invokestatic rX10_worth_84 rfl rfl rfl (Nat.le_of_ble_eq_true rfl) ⟨trivial, trivial⟩ trivial (by decide) (by decide) ?_
          refine s_X10_inputs ?_
          show WP mX10_worth 87 _ _ _ 0 0 _
          refine w_ifle rX10_worth_87 (fun h87 => ?_) (fun h87 => ?_)
          · replace q := q.1 h87
            refine w_iload_n rX10_worth_102 rfl ?_
            refine w_iconst rX10_worth_103 (x := -1) (by decide) ?_
            have j104 : ∀ s104_0 : Int32, s104_0 = (if x1 = (-1) then 0 else (if (f_X10_figures (I 537 (Int32.toNatClampNeg x4)) 0) ≤ 0 then 0 else 1 : Int32) : Int32) → WP mX10_worth 121 [some (.ref 498), some (.int x1), some (.int x2), some (.int x3), some (.int x4), some (.int (I 537 (Int32.toNatClampNeg x4))), d6] [.int s104_0] (G X I L F) 0 0 Q := by
              intro s104_0 es104_0
              replace q := q s104_0 es104_0
              refine w_istore rX10_worth_121 rfl trivial ?_
              refine w_iload rX10_worth_123 rfl ?_
              refine w_invokestatic rX10_worth_125 rfl rfl rfl (Nat.le_of_ble_eq_true rfl) ⟨trivial, trivial⟩ trivial (by decide) (by decide) ?_
              refine s_X10_isFigure ?_
              show WP mX10_worth 128 _ _ _ 0 0 _
              refine w_ifeq rX10_worth_128 (fun h128 => ?_) (fun h128 => ?_)
              · replace q := q.1 h128
                refine w_aload_n rX10_worth_142 rfl ?_
                refine w_aload_n rX10_worth_143 rfl ?_
                refine w_iload_n rX10_worth_144 rfl ?_
                refine w_iload_n rX10_worth_145 rfl ?_
                refine w_iload rX10_worth_146 rfl ?_
                refine w_iload rX10_worth_148 rfl ?_
                have j150 : ∀ s150_5 : Int32, s150_5 = (if s104_0 = 0 then 0 else ((I 537 (Int32.toNatClampNeg (x4 + 1))) - 48) : Int32) → WP mX10_worth 169 [some (.ref 498), some (.int x1), some (.int x2), some (.int x3), some (.int x4), some (.int (I 537 (Int32.toNatClampNeg x4))), some (.int s104_0)] [.int s150_5, .int (I 537 (Int32.toNatClampNeg x4)), .int x2, .int x1, .ref 498, .ref 498] (G X I L F) 0 0 Q := by
                  intro s150_5 es150_5
                  replace q := q.2
                  replace q := q s150_5 es150_5
                  refine w_invokevirtual rX10_worth_169 rfl rfl rfl (Nat.le_of_ble_eq_true rfl) ⟨trivial, trivial, trivial, trivial, trivial, trivial⟩ (G_is (by decide) rfl) (by decide) (by decide) ?_
                  refine s_X10_named q.1 ?_
                  replace q := q.2
                  show WP mX10_worth 172 _ _ _ 0 0 _
                  refine w_invokevirtual rX10_worth_172 rfl rfl rfl (Nat.le_of_ble_eq_true rfl) ⟨trivial, trivial, trivial⟩ (G_is (by decide) rfl) (by decide) (by decide) ?_
                  refine s_X10_puts q.1 ?_
                  replace q := q.2
                  show WP mX10_worth 175 _ _ _ 0 0 _
                  refine w_iload rX10_worth_175 rfl ?_
                  refine w_iload rX10_worth_177 rfl ?_
                  have j179 : ∀ s179_1 : Int32, s179_1 = (if s104_0 = 0 then 0 else 1 : Int32) → WP mX10_worth 187 [some (.ref 498), some (.int x1), some (.int x2), some (.int x3), some (.int x4), some (.int (I 537 (Int32.toNatClampNeg x4))), some (.int s104_0)] [.int s179_1, .int x4] (G X (fI_X10_puts (f_X10_named x1 x2 (I 537 (Int32.toNatClampNeg x4)) s150_5 I F) I) L (fF_X10_puts (f_X10_named x1 x2 (I 537 (Int32.toNatClampNeg x4)) s150_5 I F) I F)) 0 0 Q := by
                    intro s179_1 es179_1
                    replace q := q s179_1 es179_1
                    refine w_iadd rX10_worth_187 ?_
                    refine w_istore rX10_worth_188 rfl trivial ?_
                    refine w_aload_n rX10_worth_190 rfl ?_
                    refine w_invokevirtual rX10_worth_191 rfl rfl rfl (Nat.le_of_ble_eq_true rfl) ⟨trivial, trivial⟩ (G_is (by decide) rfl) (by decide) (by decide) ?_
                    exact q
                  refine w_ifeq rX10_worth_179 (fun h179 => ?_) (fun h179 => ?_)
                  · skip
                    refine w_iconst rX10_worth_186 (x := 0) (by decide) ?_
                    exact j179 _ (if_pos h179).symm
                  · skip
                    refine w_iconst rX10_worth_182 (x := 1) (by decide) ?_
                    refine w_goto rX10_worth_183 ?_
                    exact j179 _ (if_neg h179).symm
                replace q := q.1
                refine w_ifeq rX10_worth_150 (fun h150 => ?_) (fun h150 => ?_)
                · skip
                  refine w_iconst rX10_worth_168 (x := 0) (by decide) ?_
                  exact j150 _ (if_pos h150).symm
                · replace q := q h150
                  refine w_aload_n rX10_worth_153 rfl ?_
                  refine w_getR rX10_worth_154 rfl rfl (G_is (by decide) rfl) (x := 537) rfl ?_
                  refine w_iload rX10_worth_157 rfl ?_
                  refine w_iconst rX10_worth_159 (x := 1) (by decide) ?_
                  refine w_iadd rX10_worth_160 ?_
                  have h161 := q.1
                  replace q := q.2
                  refine x_iaload rX10_worth_161 (G_at (by decide) rfl rfl h161) ?_
                  refine w_bipush rX10_worth_162 (x := 48) (by decide) ?_
                  refine w_isub rX10_worth_164 ?_
                  refine w_goto rX10_worth_165 ?_
                  exact j150 _ (if_neg h150).symm
              · replace q := q.2 h128
                refine w_aload_n rX10_worth_131 rfl ?_
                refine w_iload rX10_worth_132 rfl ?_
                refine w_invokevirtual rX10_worth_134 rfl rfl rfl (Nat.le_of_ble_eq_true rfl) ⟨trivial, trivial, trivial⟩ (G_is (by decide) rfl) (by decide) (by decide) ?_
                exact q
            refine w_icmpeq rX10_worth_104 (fun h104 => ?_) (fun h104 => ?_)
            · skip
              refine w_iconst rX10_worth_120 (x := 0) (by decide) ?_
              exact j104 _ (if_pos h104).symm
            · skip
              refine w_iload rX10_worth_107 rfl ?_
              refine w_iconst rX10_worth_109 (x := 0) (by decide) ?_
              refine w_invokestatic rX10_worth_110 rfl rfl rfl (Nat.le_of_ble_eq_true rfl) ⟨trivial, trivial, trivial⟩ trivial (by decide) (by decide) ?_
              refine s_X10_figures ?_
              show WP mX10_worth 113 _ _ _ 0 0 _
              refine w_ifle rX10_worth_113 (fun h113 => ?_) (fun h113 => ?_)
              · skip
                refine w_iconst rX10_worth_120 (x := 0) (by decide) ?_
                exact j104 _ ((if_neg h104).trans (if_pos h113)).symm
              · skip
                refine w_iconst rX10_worth_116 (x := 1) (by decide) ?_
                refine w_goto rX10_worth_117 ?_
                exact j104 _ ((if_neg h104).trans (if_neg h113)).symm
          · replace q := q.2 h87
            refine w_aload_n rX10_worth_90 rfl ?_
            refine w_iload rX10_worth_91 rfl ?_
            refine w_invokevirtual rX10_worth_93 rfl rfl rfl (Nat.le_of_ble_eq_true rfl) ⟨trivial, trivial, trivial⟩ (G_is (by decide) rfl) (by decide) (by decide) ?_
            refine s_X10_waitsOn q.1 ?_
            replace q := q.2
            show WP mX10_worth 96 _ _ _ 0 0 _
            refine w_iinc rX10_worth_96 rfl rfl trivial ?_
            refine w_goto rX10_worth_99 ?_
            refine w_iinc rX10_worth_196 rfl rfl trivial ?_
            refine w_goto rX10_worth_199 ?_
            exact q
        · replace q := q.1 h58
          refine w_aload_n rX10_worth_61 rfl ?_
          refine w_iload rX10_worth_62 rfl ?_
          refine w_bipush rX10_worth_64 (x := 45) (by decide) ?_
          refine w_icmpne rX10_worth_66 (fun _ => ?_) (fun h => absurd h h51)
          refine w_bipush rX10_worth_74 (x := 40) (by decide) ?_
          refine w_invokevirtual rX10_worth_76 rfl rfl rfl (Nat.le_of_ble_eq_true rfl) ⟨trivial, trivial, trivial⟩ (G_is (by decide) rfl) (by decide) (by decide) ?_
          refine s_X10_waitsOn q.1 ?_
          replace q := q.2
          show WP mX10_worth 79 _ _ _ 0 0 _
          refine w_goto rX10_worth_79 ?_
          refine w_iinc rX10_worth_196 rfl rfl trivial ?_
          refine w_goto rX10_worth_199 ?_
          exact q
    · replace q := q.2 h34
      refine w_aload_n rX10_worth_37 rfl ?_
      refine w_iload rX10_worth_38 rfl ?_
      refine w_invokevirtual rX10_worth_40 rfl rfl rfl (Nat.le_of_ble_eq_true rfl) ⟨trivial, trivial, trivial⟩ (G_is (by decide) rfl) (by decide) (by decide) ?_
      exact q
theorem k_X10_worth_43 {X : Nat × (Nat → Int32)} {I : Nat → Nat → Int32} {L : Nat → Nat → Int64} {F : Nat → Nat → UInt32} {Q : AQ} {x1 : Int32} {x2 : Int32} {x3 : Int32} {x4 : Int32} {x5 : Int32} {d6 : Option Value} {e0 : Int32} (q : WP mX10_worth 15 [some (.ref 498), some (.int x1), some (.int x2), some (.int e0), some (.int (x4 + 1)), some (.int x5), d6] [] (G X I L F) 0 0 Q) : WP mX10_worth 43 [some (.ref 498), some (.int x1), some (.int x2), some (.int x3), some (.int x4), some (.int x5), d6] [.int e0] (G X I L F) 0 0 Q := by
  refine w_istore_n rX10_worth_43 rfl trivial ?_
  refine w_goto rX10_worth_44 ?_
  refine w_iinc rX10_worth_196 rfl rfl trivial ?_
  refine w_goto rX10_worth_199 ?_
  exact q
theorem k_X10_worth_137 {X : Nat × (Nat → Int32)} {I : Nat → Nat → Int32} {L : Nat → Nat → Int64} {F : Nat → Nat → UInt32} {Q : AQ} {x1 : Int32} {x2 : Int32} {x3 : Int32} {x4 : Int32} {x5 : Int32} {x6 : Int32} {e0 : Int32} (q : WP mX10_closes 0 (am_ent 1 [.ref 498]) [] (G X I L F) 0 0 (am_kq mX10_worth 191 [some (.ref 498), some (.int x1), some (.int x2), some (.int x3), some (.int e0), some (.int x5), some (.int x6)] [] (0 + am_bc mX10_closes) (0 + am_bs mX10_closes) Q)) : WP mX10_worth 137 [some (.ref 498), some (.int x1), some (.int x2), some (.int x3), some (.int x4), some (.int x5), some (.int x6)] [.int e0] (G X I L F) 0 0 Q := by
  refine w_istore rX10_worth_137 rfl trivial ?_
  refine w_goto rX10_worth_139 ?_
  refine w_aload_n rX10_worth_190 rfl ?_
  refine w_invokevirtual rX10_worth_191 rfl rfl rfl (Nat.le_of_ble_eq_true rfl) ⟨trivial, trivial⟩ (G_is (by decide) rfl) (by decide) (by decide) ?_
  exact q
theorem k_X10_worth_194 {X : Nat × (Nat → Int32)} {I : Nat → Nat → Int32} {L : Nat → Nat → Int64} {F : Nat → Nat → UInt32} {Q : AQ} {x1 : Int32} {x2 : Int32} {x3 : Int32} {x4 : Int32} {x5 : Int32} {x6 : Int32} (q : WP mX10_worth 15 [some (.ref 498), some (.int x1), some (.int x2), some (.int 1), some (.int (x4 + 1)), some (.int x5), some (.int x6)] [] (G X I L F) 0 0 Q) : WP mX10_worth 194 [some (.ref 498), some (.int x1), some (.int x2), some (.int x3), some (.int x4), some (.int x5), some (.int x6)] [] (G X I L F) 0 0 Q := by
  refine w_iconst rX10_worth_194 (x := 1) (by decide) ?_
  refine w_istore_n rX10_worth_195 rfl trivial ?_
  refine w_iinc rX10_worth_196 rfl rfl trivial ?_
  refine w_goto rX10_worth_199 ?_
  exact q
theorem k_X10_worth_202 {X : Nat × (Nat → Int32)} {I : Nat → Nat → Int32} {L : Nat → Nat → Int64} {F : Nat → Nat → UInt32} {Q : AQ} {x1 : Int32} {x2 : Int32} {x3 : Int32} {x4 : Int32} {d5 : Option Value} {d6 : Option Value} (q : ((I 498 50) ≤ 0 → Q (.inl (some (.float (F 538 0)))) (G X I L F)) ∧ (¬ (I 498 50) ≤ 0 → (p_X10_applies I F) ∧ (WP mX10_worth 202 [some (.ref 498), some (.int x1), some (.int x2), some (.int x3), some (.int x4), d5, d6] [] (G X (fI_X10_applies I F) L (fF_X10_applies I F)) 0 0 Q))) : WP mX10_worth 202 [some (.ref 498), some (.int x1), some (.int x2), some (.int x3), some (.int x4), d5, d6] [] (G X I L F) 0 0 Q := by
  refine w_aload_n rX10_worth_202 rfl ?_
  refine x_getI rX10_worth_203 rfl rfl (G_is (by decide) rfl) ?_
  refine w_ifle rX10_worth_206 (fun h206 => ?_) (fun h206 => ?_)
  · replace q := q.1 h206
    refine w_aload_n rX10_worth_216 rfl ?_
    refine w_getR rX10_worth_217 rfl rfl (G_is (by decide) rfl) (x := 538) rfl ?_
    refine w_iconst rX10_worth_220 (x := 0) (by decide) ?_
    refine xl_faload rX10_worth_221 (G_at (by decide) rfl rfl (by unfold vp_in; decide)) (i := 0) (by decide) ?_
    refine w_freturn rX10_worth_222 ?_
    exact q
  · replace q := q.2 h206
    refine w_aload_n rX10_worth_209 rfl ?_
    refine w_invokevirtual rX10_worth_210 rfl rfl rfl (Nat.le_of_ble_eq_true rfl) ⟨trivial, trivial⟩ (G_is (by decide) rfl) (by decide) (by decide) ?_
    refine s_X10_applies q.1 ?_
    replace q := q.2
    show WP mX10_worth 213 _ _ _ 0 0 _
    refine w_goto rX10_worth_213 ?_
    exact q
theorem k_X10_names_0 {X : Nat × (Nat → Int32)} {I : Nat → Nat → Int32} {L : Nat → Nat → Int64} {F : Nat → Nat → UInt32} {Q : AQ} {ver : Int32} {areG : Int32} (q : WP mX10_names 8 [some (.ref 498), some (.int ver), some (.int areG), some (.int 0), some (.int (40 * ver)), none] [] (G X I L F) 0 0 Q) : WP mX10_names 0 (am_ent 6 [.ref 498, .int ver, .int areG]) [] (G X I L F) 0 0 Q := by
  refine w_iconst rX10_names_0 (x := 0) (by decide) ?_
  refine w_istore_n rX10_names_1 rfl trivial ?_
  refine w_bipush rX10_names_2 (x := 40) (by decide) ?_
  refine w_iload_n rX10_names_4 rfl ?_
  refine w_imul rX10_names_5 ?_
  refine w_istore rX10_names_6 rfl trivial ?_
  exact q
theorem k_X10_names_8 {X : Nat × (Nat → Int32)} {I : Nat → Nat → Int32} {L : Nat → Nat → Int64} {F : Nat → Nat → UInt32} {Q : AQ} {x1 : Int32} {x2 : Int32} {x3 : Int32} {x4 : Int32} {d5 : Option Value} (q : vp_in x1 60 ∧ ((((40 * x1) + (I 502 (Int32.toNatClampNeg x1))) ≤ x4 → Q (.inl (some (.int x3))) (G X I L F)) ∧ (¬ ((40 * x1) + (I 502 (Int32.toNatClampNeg x1))) ≤ x4 → ((x2 = 0 → vp_in x4 2400 ∧ ((¬ (I 503 (Int32.toNatClampNeg x4)) = 109 → vp_in x4 2400 ∧ (True)))) ∧ (¬ x2 = 0 → vp_in x4 2400 ∧ (True))) ∧ (∀ s25_0 : Int32, s25_0 = (if x2 = 0 then (if (I 503 (Int32.toNatClampNeg x4)) = 109 then 1 else (if (I 503 (Int32.toNatClampNeg x4)) = 113 then 1 else 0 : Int32) : Int32) else (if (I 503 (Int32.toNatClampNeg x4)) = 103 then 1 else 0 : Int32) : Int32) → (((¬ s25_0 = 0 → vp_in (x4 + 1) 2400 ∧ (True))) ∧ (∀ s82_1 : Int32, s82_1 = (if s25_0 = 0 then 0 else ((1 : Int32) <<< (((I 503 (Int32.toNatClampNeg (x4 + 1))) - 48) &&& 31 : Int32)) : Int32) → (WP mX10_names 8 [some (.ref 498), some (.int x1), some (.int x2), some (.int (x3 ||| s82_1)), some (.int (x4 + 1)), some (.int s25_0)] [] (G X I L F) 0 0 Q))))))) : WP mX10_names 8 [some (.ref 498), some (.int x1), some (.int x2), some (.int x3), some (.int x4), d5] [] (G X I L F) 0 0 Q := by
  refine w_iload rX10_names_8 rfl ?_
  refine w_bipush rX10_names_10 (x := 40) (by decide) ?_
  refine w_iload_n rX10_names_12 rfl ?_
  refine w_imul rX10_names_13 ?_
  refine w_aload_n rX10_names_14 rfl ?_
  refine w_getR rX10_names_15 rfl rfl (G_is (by decide) rfl) (x := 502) rfl ?_
  refine w_iload_n rX10_names_18 rfl ?_
  have h19 := q.1
  replace q := q.2
  refine x_iaload rX10_names_19 (G_at (by decide) rfl rfl h19) ?_
  refine w_iadd rX10_names_20 ?_
  refine w_icmpge rX10_names_21 (fun h21 => ?_) (fun h21 => ?_)
  · replace q := q.1 h21
    refine w_iload_n rX10_names_111 rfl ?_
    refine w_ireturn rX10_names_112 trivial ?_
    exact q
  · replace q := q.2 h21
    refine w_iload_n rX10_names_24 rfl ?_
    have j25 : ∀ s25_0 : Int32, s25_0 = (if x2 = 0 then (if (I 503 (Int32.toNatClampNeg x4)) = 109 then 1 else (if (I 503 (Int32.toNatClampNeg x4)) = 113 then 1 else 0 : Int32) : Int32) else (if (I 503 (Int32.toNatClampNeg x4)) = 103 then 1 else 0 : Int32) : Int32) → WP mX10_names 77 [some (.ref 498), some (.int x1), some (.int x2), some (.int x3), some (.int x4), d5] [.int s25_0] (G X I L F) 0 0 Q := by
      intro s25_0 es25_0
      replace q := q.2
      replace q := q s25_0 es25_0
      refine w_istore rX10_names_77 rfl trivial ?_
      refine w_iload_n rX10_names_79 rfl ?_
      refine w_iload rX10_names_80 rfl ?_
      have j82 : ∀ s82_1 : Int32, s82_1 = (if s25_0 = 0 then 0 else ((1 : Int32) <<< (((I 503 (Int32.toNatClampNeg (x4 + 1))) - 48) &&& 31 : Int32)) : Int32) → WP mX10_names 103 [some (.ref 498), some (.int x1), some (.int x2), some (.int x3), some (.int x4), some (.int s25_0)] [.int s82_1, .int x3] (G X I L F) 0 0 Q := by
        intro s82_1 es82_1
        replace q := q.2
        replace q := q s82_1 es82_1
        refine w_ior rX10_names_103 ?_
        refine w_istore_n rX10_names_104 rfl trivial ?_
        refine w_iinc rX10_names_105 rfl rfl trivial ?_
        refine w_goto rX10_names_108 ?_
        exact q
      replace q := q.1
      refine w_ifeq rX10_names_82 (fun h82 => ?_) (fun h82 => ?_)
      · skip
        refine w_iconst rX10_names_102 (x := 0) (by decide) ?_
        exact j82 _ (if_pos h82).symm
      · replace q := q h82
        refine w_iconst rX10_names_85 (x := 1) (by decide) ?_
        refine w_aload_n rX10_names_86 rfl ?_
        refine w_getR rX10_names_87 rfl rfl (G_is (by decide) rfl) (x := 503) rfl ?_
        refine w_iload rX10_names_90 rfl ?_
        refine w_iconst rX10_names_92 (x := 1) (by decide) ?_
        refine w_iadd rX10_names_93 ?_
        have h94 := q.1
        replace q := q.2
        refine x_iaload rX10_names_94 (G_at (by decide) rfl rfl h94) ?_
        refine w_bipush rX10_names_95 (x := 48) (by decide) ?_
        refine w_isub rX10_names_97 ?_
        refine w_ishl rX10_names_98 ?_
        refine w_goto rX10_names_99 ?_
        exact j82 _ (if_neg h82).symm
    replace q := q.1
    refine w_ifeq rX10_names_25 (fun h25 => ?_) (fun h25 => ?_)
    · replace q := q.1 h25
      refine w_aload_n rX10_names_48 rfl ?_
      refine w_getR rX10_names_49 rfl rfl (G_is (by decide) rfl) (x := 503) rfl ?_
      refine w_iload rX10_names_52 rfl ?_
      have h54 := q.1
      replace q := q.2
      refine x_iaload rX10_names_54 (G_at (by decide) rfl rfl h54) ?_
      refine w_bipush rX10_names_55 (x := 109) (by decide) ?_
      refine w_icmpeq rX10_names_57 (fun h57 => ?_) (fun h57 => ?_)
      · skip
        refine w_iconst rX10_names_72 (x := 1) (by decide) ?_
        refine w_goto rX10_names_73 ?_
        exact j25 _ ((if_pos h25).trans (if_pos h57)).symm
      · replace q := q h57
        refine w_aload_n rX10_names_60 rfl ?_
        refine w_getR rX10_names_61 rfl rfl (G_is (by decide) rfl) (x := 503) rfl ?_
        refine w_iload rX10_names_64 rfl ?_
        have h66 := q.1
        replace q := q.2
        refine x_iaload rX10_names_66 (G_at (by decide) rfl rfl h66) ?_
        refine w_bipush rX10_names_67 (x := 113) (by decide) ?_
        refine w_icmpne rX10_names_69 (fun h69 => ?_) (fun h69 => ?_)
        · skip
          refine w_iconst rX10_names_76 (x := 0) (by decide) ?_
          exact j25 _ (((if_pos h25).trans (if_neg h57)).trans (if_neg h69)).symm
        · skip
          refine w_iconst rX10_names_72 (x := 1) (by decide) ?_
          refine w_goto rX10_names_73 ?_
          exact j25 _ (((if_pos h25).trans (if_neg h57)).trans (if_pos h69)).symm
    · replace q := q.2 h25
      refine w_aload_n rX10_names_28 rfl ?_
      refine w_getR rX10_names_29 rfl rfl (G_is (by decide) rfl) (x := 503) rfl ?_
      refine w_iload rX10_names_32 rfl ?_
      have h34 := q.1
      replace q := q.2
      refine x_iaload rX10_names_34 (G_at (by decide) rfl rfl h34) ?_
      refine w_bipush rX10_names_35 (x := 103) (by decide) ?_
      refine w_icmpne rX10_names_37 (fun h37 => ?_) (fun h37 => ?_)
      · skip
        refine w_iconst rX10_names_44 (x := 0) (by decide) ?_
        refine w_goto rX10_names_45 ?_
        exact j25 _ ((if_neg h25).trans (if_neg h37)).symm
      · skip
        refine w_iconst rX10_names_40 (x := 1) (by decide) ?_
        refine w_goto rX10_names_41 ?_
        exact j25 _ ((if_neg h25).trans (if_pos h37)).symm
theorem k_X10_namesOfDraft_0 {X : Nat × (Nat → Int32)} {I : Nat → Nat → Int32} {L : Nat → Nat → Int64} {F : Nat → Nat → UInt32} {Q : AQ}  (q : WP mX10_namesOfDraft 4 [some (.ref 498), some (.int 0), some (.int 0)] [] (G X I L F) 0 0 Q) : WP mX10_namesOfDraft 0 (am_ent 3 [.ref 498]) [] (G X I L F) 0 0 Q := by
  refine w_iconst rX10_namesOfDraft_0 (x := 0) (by decide) ?_
  refine w_istore_n rX10_namesOfDraft_1 rfl trivial ?_
  refine w_iconst rX10_namesOfDraft_2 (x := 0) (by decide) ?_
  refine w_istore_n rX10_namesOfDraft_3 rfl trivial ?_
  exact q
theorem k_X10_namesOfDraft_4 {X : Nat × (Nat → Int32)} {I : Nat → Nat → Int32} {L : Nat → Nat → Int64} {F : Nat → Nat → UInt32} {Q : AQ} {x1 : Int32} {x2 : Int32} (q : ((I 498 2) ≤ x2 → Q (.inl (some (.int x1))) (G X I L F)) ∧ (¬ (I 498 2) ≤ x2 → vp_in x2 40 ∧ ((((I 499 (Int32.toNatClampNeg x2)) = 109 → vp_in (x2 + 1) 40 ∧ (True)) ∧ (¬ (I 499 (Int32.toNatClampNeg x2)) = 109 → vp_in x2 40 ∧ (((I 499 (Int32.toNatClampNeg x2)) = 113 → vp_in (x2 + 1) 40 ∧ (True))))) ∧ (∀ s21_1 : Int32, s21_1 = (if (I 499 (Int32.toNatClampNeg x2)) = 109 then ((1 : Int32) <<< (((I 499 (Int32.toNatClampNeg (x2 + 1))) - 48) &&& 31 : Int32)) else (if (I 499 (Int32.toNatClampNeg x2)) = 113 then ((1 : Int32) <<< (((I 499 (Int32.toNatClampNeg (x2 + 1))) - 48) &&& 31 : Int32)) else 0 : Int32) : Int32) → (WP mX10_namesOfDraft 4 [some (.ref 498), some (.int (x1 ||| s21_1)), some (.int (x2 + 1))] [] (G X I L F) 0 0 Q))))) : WP mX10_namesOfDraft 4 [some (.ref 498), some (.int x1), some (.int x2)] [] (G X I L F) 0 0 Q := by
  refine w_iload_n rX10_namesOfDraft_4 rfl ?_
  refine w_aload_n rX10_namesOfDraft_5 rfl ?_
  refine x_getI rX10_namesOfDraft_6 rfl rfl (G_is (by decide) rfl) ?_
  refine w_icmpge rX10_namesOfDraft_9 (fun h9 => ?_) (fun h9 => ?_)
  · replace q := q.1 h9
    refine w_iload_n rX10_namesOfDraft_60 rfl ?_
    refine w_ireturn rX10_namesOfDraft_61 trivial ?_
    exact q
  · replace q := q.2 h9
    refine w_iload_n rX10_namesOfDraft_12 rfl ?_
    refine w_aload_n rX10_namesOfDraft_13 rfl ?_
    refine w_getR rX10_namesOfDraft_14 rfl rfl (G_is (by decide) rfl) (x := 499) rfl ?_
    refine w_iload_n rX10_namesOfDraft_17 rfl ?_
    have h18 := q.1
    replace q := q.2
    refine x_iaload rX10_namesOfDraft_18 (G_at (by decide) rfl rfl h18) ?_
    refine w_bipush rX10_namesOfDraft_19 (x := 109) (by decide) ?_
    have j21 : ∀ s21_1 : Int32, s21_1 = (if (I 499 (Int32.toNatClampNeg x2)) = 109 then ((1 : Int32) <<< (((I 499 (Int32.toNatClampNeg (x2 + 1))) - 48) &&& 31 : Int32)) else (if (I 499 (Int32.toNatClampNeg x2)) = 113 then ((1 : Int32) <<< (((I 499 (Int32.toNatClampNeg (x2 + 1))) - 48) &&& 31 : Int32)) else 0 : Int32) : Int32) → WP mX10_namesOfDraft 52 [some (.ref 498), some (.int x1), some (.int x2)] [.int s21_1, .int x1] (G X I L F) 0 0 Q := by
      intro s21_1 es21_1
      replace q := q.2
      replace q := q s21_1 es21_1
      refine w_ior rX10_namesOfDraft_52 ?_
      refine w_istore_n rX10_namesOfDraft_53 rfl trivial ?_
      refine w_iinc rX10_namesOfDraft_54 rfl rfl trivial ?_
      refine w_goto rX10_namesOfDraft_57 ?_
      exact q
    replace q := q.1
    refine w_icmpeq rX10_namesOfDraft_21 (fun h21 => ?_) (fun h21 => ?_)
    · replace q := q.1 h21
      refine w_iconst rX10_namesOfDraft_35 (x := 1) (by decide) ?_
      refine w_aload_n rX10_namesOfDraft_36 rfl ?_
      refine w_getR rX10_namesOfDraft_37 rfl rfl (G_is (by decide) rfl) (x := 499) rfl ?_
      refine w_iload_n rX10_namesOfDraft_40 rfl ?_
      refine w_iconst rX10_namesOfDraft_41 (x := 1) (by decide) ?_
      refine w_iadd rX10_namesOfDraft_42 ?_
      have h43 := q.1
      replace q := q.2
      refine x_iaload rX10_namesOfDraft_43 (G_at (by decide) rfl rfl h43) ?_
      refine w_bipush rX10_namesOfDraft_44 (x := 48) (by decide) ?_
      refine w_isub rX10_namesOfDraft_46 ?_
      refine w_ishl rX10_namesOfDraft_47 ?_
      refine w_goto rX10_namesOfDraft_48 ?_
      exact j21 _ (if_pos h21).symm
    · replace q := q.2 h21
      refine w_aload_n rX10_namesOfDraft_24 rfl ?_
      refine w_getR rX10_namesOfDraft_25 rfl rfl (G_is (by decide) rfl) (x := 499) rfl ?_
      refine w_iload_n rX10_namesOfDraft_28 rfl ?_
      have h29 := q.1
      replace q := q.2
      refine x_iaload rX10_namesOfDraft_29 (G_at (by decide) rfl rfl h29) ?_
      refine w_bipush rX10_namesOfDraft_30 (x := 113) (by decide) ?_
      refine w_icmpne rX10_namesOfDraft_32 (fun h32 => ?_) (fun h32 => ?_)
      · skip
        refine w_iconst rX10_namesOfDraft_51 (x := 0) (by decide) ?_
        exact j21 _ ((if_neg h21).trans (if_neg h32)).symm
      · replace q := q h32
        refine w_iconst rX10_namesOfDraft_35 (x := 1) (by decide) ?_
        refine w_aload_n rX10_namesOfDraft_36 rfl ?_
        refine w_getR rX10_namesOfDraft_37 rfl rfl (G_is (by decide) rfl) (x := 499) rfl ?_
        refine w_iload_n rX10_namesOfDraft_40 rfl ?_
        refine w_iconst rX10_namesOfDraft_41 (x := 1) (by decide) ?_
        refine w_iadd rX10_namesOfDraft_42 ?_
        have h43 := q.1
        replace q := q.2
        refine x_iaload rX10_namesOfDraft_43 (G_at (by decide) rfl rfl h43) ?_
        refine w_bipush rX10_namesOfDraft_44 (x := 48) (by decide) ?_
        refine w_isub rX10_namesOfDraft_46 ?_
        refine w_ishl rX10_namesOfDraft_47 ?_
        refine w_goto rX10_namesOfDraft_48 ?_
        exact j21 _ ((if_neg h21).trans (if_pos h32)).symm
theorem k_X10_laysReach_0 {X : Nat × (Nat → Int32)} {I : Nat → Nat → Int32} {L : Nat → Nat → Int64} {F : Nat → Nat → UInt32} {Q : AQ}  (q : WP mX10_laysReach 2 [some (.ref 498), some (.int 0), none, none] [] (G X I L F) 0 0 Q) : WP mX10_laysReach 0 (am_ent 4 [.ref 498]) [] (G X I L F) 0 0 Q := by
  refine w_iconst rX10_laysReach_0 (x := 0) (by decide) ?_
  refine w_istore_n rX10_laysReach_1 rfl trivial ?_
  exact q
theorem k_X10_laysReach_2 {X : Nat × (Nat → Int32)} {I : Nat → Nat → Int32} {L : Nat → Nat → Int64} {F : Nat → Nat → UInt32} {Q : AQ} {x1 : Int32} (q : (6 ≤ x1 → WP mX10_laysReach 47 [some (.ref 498), some (.int 0), none, none] [] (G X I L F) 0 0 Q) ∧ (¬ 6 ≤ x1 → vp_in x1 6 ∧ (((I 505 (Int32.toNatClampNeg x1)) = (-1) → WP mX10_laysReach 38 [some (.ref 498), some (.int x1), none, none] [.int 0, .int x1, .ref 506] (G X I L F) 0 0 Q) ∧ (¬ (I 505 (Int32.toNatClampNeg x1)) = (-1) → vp_in x1 6 ∧ (WP mX10_names 0 (am_ent 6 [.ref 498, .int (I 505 (Int32.toNatClampNeg x1)), .int 0]) [] (G X I L F) 0 0 (am_kq mX10_laysReach 35 [some (.ref 498), some (.int x1), none, none] [.int x1, .ref 506] (0 + am_bc mX10_names) (0 + am_bs mX10_names) Q)))))) : WP mX10_laysReach 2 [some (.ref 498), some (.int x1), none, none] [] (G X I L F) 0 0 Q := by
  refine w_iload_n rX10_laysReach_2 rfl ?_
  refine w_bipush rX10_laysReach_3 (x := 6) (by decide) ?_
  refine w_icmpge rX10_laysReach_5 (fun h5 => ?_) (fun h5 => ?_)
  · replace q := q.1 h5
    refine w_iconst rX10_laysReach_45 (x := 0) (by decide) ?_
    refine w_istore_n rX10_laysReach_46 rfl trivial ?_
    exact q
  · replace q := q.2 h5
    refine w_aload_n rX10_laysReach_8 rfl ?_
    refine w_getR rX10_laysReach_9 rfl rfl (G_is (by decide) rfl) (x := 506) rfl ?_
    refine w_iload_n rX10_laysReach_12 rfl ?_
    refine w_aload_n rX10_laysReach_13 rfl ?_
    refine w_getR rX10_laysReach_14 rfl rfl (G_is (by decide) rfl) (x := 505) rfl ?_
    refine w_iload_n rX10_laysReach_17 rfl ?_
    have h18 := q.1
    replace q := q.2
    refine x_iaload rX10_laysReach_18 (G_at (by decide) rfl rfl h18) ?_
    refine w_iconst rX10_laysReach_19 (x := -1) (by decide) ?_
    refine w_icmpne rX10_laysReach_20 (fun h20 => ?_) (fun h20 => ?_)
    · replace q := q.2 h20
      refine w_aload_n rX10_laysReach_27 rfl ?_
      refine w_aload_n rX10_laysReach_28 rfl ?_
      refine w_getR rX10_laysReach_29 rfl rfl (G_is (by decide) rfl) (x := 505) rfl ?_
      refine w_iload_n rX10_laysReach_32 rfl ?_
      have h33 := q.1
      replace q := q.2
      refine x_iaload rX10_laysReach_33 (G_at (by decide) rfl rfl h33) ?_
      refine w_iconst rX10_laysReach_34 (x := 0) (by decide) ?_
      refine w_invokevirtual rX10_laysReach_35 rfl rfl rfl (Nat.le_of_ble_eq_true rfl) ⟨trivial, trivial, trivial, trivial⟩ (G_is (by decide) rfl) (by decide) (by decide) ?_
      exact q
    · replace q := q.1 h20
      refine w_iconst rX10_laysReach_23 (x := 0) (by decide) ?_
      refine w_goto rX10_laysReach_24 ?_
      exact q
theorem k_X10_laysReach_38 {X : Nat × (Nat → Int32)} {I : Nat → Nat → Int32} {L : Nat → Nat → Int64} {F : Nat → Nat → UInt32} {Q : AQ} {x1 : Int32} {e1 : Int32} {e2 : Int32} (q : vp_in e1 6 ∧ (WP mX10_laysReach 2 [some (.ref 498), some (.int (x1 + 1)), none, none] [] (G X (am_u I 506 (Int32.toNatClampNeg e1) e2) L F) 0 0 Q)) : WP mX10_laysReach 38 [some (.ref 498), some (.int x1), none, none] [.int e2, .int e1, .ref 506] (G X I L F) 0 0 Q := by
  have h38 := q.1
  replace q := q.2
  refine x_iastore rX10_laysReach_38 (G_at (by decide) rfl rfl h38) ?_
  refine w_iinc rX10_laysReach_39 rfl rfl trivial ?_
  refine w_goto rX10_laysReach_42 ?_
  exact q
theorem k_X10_laysReach_47 {X : Nat × (Nat → Int32)} {I : Nat → Nat → Int32} {L : Nat → Nat → Int64} {F : Nat → Nat → UInt32} {Q : AQ} {x1 : Int32} {d2 : Option Value} {d3 : Option Value} (q : (6 ≤ x1 → Q (.inl none) (G X I L F)) ∧ (¬ 6 ≤ x1 → WP mX10_laysReach 55 [some (.ref 498), some (.int x1), some (.int 0), d3] [] (G X I L F) 0 0 Q)) : WP mX10_laysReach 47 [some (.ref 498), some (.int x1), d2, d3] [] (G X I L F) 0 0 Q := by
  refine w_iload_n rX10_laysReach_47 rfl ?_
  refine w_bipush rX10_laysReach_48 (x := 6) (by decide) ?_
  refine w_icmpge rX10_laysReach_50 (fun h50 => ?_) (fun h50 => ?_)
  · replace q := q.1 h50
    refine w_return rX10_laysReach_120 ?_
    exact q
  · replace q := q.2 h50
    refine w_iconst rX10_laysReach_53 (x := 0) (by decide) ?_
    refine w_istore_n rX10_laysReach_54 rfl trivial ?_
    exact q
theorem k_X10_laysReach_55 {X : Nat × (Nat → Int32)} {I : Nat → Nat → Int32} {L : Nat → Nat → Int64} {F : Nat → Nat → UInt32} {Q : AQ} {x1 : Int32} {x2 : Int32} {d3 : Option Value} (q : (6 ≤ x2 → WP mX10_laysReach 47 [some (.ref 498), some (.int (x1 + 1)), some (.int x2), d3] [] (G X I L F) 0 0 Q) ∧ (¬ 6 ≤ x2 → WP mX10_laysReach 63 [some (.ref 498), some (.int x1), some (.int x2), some (.int 0)] [] (G X I L F) 0 0 Q)) : WP mX10_laysReach 55 [some (.ref 498), some (.int x1), some (.int x2), d3] [] (G X I L F) 0 0 Q := by
  refine w_iload_n rX10_laysReach_55 rfl ?_
  refine w_bipush rX10_laysReach_56 (x := 6) (by decide) ?_
  refine w_icmpge rX10_laysReach_58 (fun h58 => ?_) (fun h58 => ?_)
  · replace q := q.1 h58
    refine w_iinc rX10_laysReach_114 rfl rfl trivial ?_
    refine w_goto rX10_laysReach_117 ?_
    exact q
  · replace q := q.2 h58
    refine w_iconst rX10_laysReach_61 (x := 0) (by decide) ?_
    refine w_istore_n rX10_laysReach_62 rfl trivial ?_
    exact q
theorem k_X10_laysReach_63 {X : Nat × (Nat → Int32)} {I : Nat → Nat → Int32} {L : Nat → Nat → Int64} {F : Nat → Nat → UInt32} {Q : AQ} {x1 : Int32} {x2 : Int32} {x3 : Int32} (q : (6 ≤ x3 → WP mX10_laysReach 55 [some (.ref 498), some (.int x1), some (.int (x2 + 1)), some (.int x3)] [] (G X I L F) 0 0 Q) ∧ (¬ 6 ≤ x3 → vp_in x2 6 ∧ (vp_in x2 6 ∧ (((((((I 506 (Int32.toNatClampNeg x2)) : Int32) >>> (x3 &&& 31 : Int32)) &&& 1) = 1 → vp_in x3 6 ∧ (True))) ∧ (∀ s87_3 : Int32, s87_3 = (if ((((I 506 (Int32.toNatClampNeg x2)) : Int32) >>> (x3 &&& 31 : Int32)) &&& 1) = 1 then (I 506 (Int32.toNatClampNeg x3)) else 0 : Int32) → (vp_in x2 6 ∧ (WP mX10_laysReach 63 [some (.ref 498), some (.int x1), some (.int x2), some (.int (x3 + 1))] [] (G X (am_u I 506 (Int32.toNatClampNeg x2) ((I 506 (Int32.toNatClampNeg x2)) ||| s87_3)) L F) 0 0 Q))))))) : WP mX10_laysReach 63 [some (.ref 498), some (.int x1), some (.int x2), some (.int x3)] [] (G X I L F) 0 0 Q := by
  refine w_iload_n rX10_laysReach_63 rfl ?_
  refine w_bipush rX10_laysReach_64 (x := 6) (by decide) ?_
  refine w_icmpge rX10_laysReach_66 (fun h66 => ?_) (fun h66 => ?_)
  · replace q := q.1 h66
    refine w_iinc rX10_laysReach_108 rfl rfl trivial ?_
    refine w_goto rX10_laysReach_111 ?_
    exact q
  · replace q := q.2 h66
    refine w_aload_n rX10_laysReach_69 rfl ?_
    refine w_getR rX10_laysReach_70 rfl rfl (G_is (by decide) rfl) (x := 506) rfl ?_
    refine w_iload_n rX10_laysReach_73 rfl ?_
    refine w_dup2 rX10_laysReach_74 trivial trivial ?_
    have h75 := q.1
    replace q := q.2
    refine x_iaload rX10_laysReach_75 (G_at (by decide) rfl rfl h75) ?_
    refine w_aload_n rX10_laysReach_76 rfl ?_
    refine w_getR rX10_laysReach_77 rfl rfl (G_is (by decide) rfl) (x := 506) rfl ?_
    refine w_iload_n rX10_laysReach_80 rfl ?_
    have h81 := q.1
    replace q := q.2
    refine x_iaload rX10_laysReach_81 (G_at (by decide) rfl rfl h81) ?_
    refine w_iload_n rX10_laysReach_82 rfl ?_
    refine w_ishr rX10_laysReach_83 ?_
    refine w_iconst rX10_laysReach_84 (x := 1) (by decide) ?_
    refine w_iand rX10_laysReach_85 ?_
    refine w_iconst rX10_laysReach_86 (x := 1) (by decide) ?_
    have j87 : ∀ s87_3 : Int32, s87_3 = (if ((((I 506 (Int32.toNatClampNeg x2)) : Int32) >>> (x3 &&& 31 : Int32)) &&& 1) = 1 then (I 506 (Int32.toNatClampNeg x3)) else 0 : Int32) → WP mX10_laysReach 100 [some (.ref 498), some (.int x1), some (.int x2), some (.int x3)] [.int s87_3, .int (I 506 (Int32.toNatClampNeg x2)), .int x2, .ref 506] (G X I L F) 0 0 Q := by
      intro s87_3 es87_3
      replace q := q.2
      replace q := q s87_3 es87_3
      refine w_ior rX10_laysReach_100 ?_
      have h101 := q.1
      replace q := q.2
      refine x_iastore rX10_laysReach_101 (G_at (by decide) rfl rfl h101) ?_
      refine w_iinc rX10_laysReach_102 rfl rfl trivial ?_
      refine w_goto rX10_laysReach_105 ?_
      exact q
    replace q := q.1
    refine w_icmpne rX10_laysReach_87 (fun h87 => ?_) (fun h87 => ?_)
    · skip
      refine w_iconst rX10_laysReach_99 (x := 0) (by decide) ?_
      exact j87 _ (if_neg h87).symm
    · replace q := q h87
      refine w_aload_n rX10_laysReach_90 rfl ?_
      refine w_getR rX10_laysReach_91 rfl rfl (G_is (by decide) rfl) (x := 506) rfl ?_
      refine w_iload_n rX10_laysReach_94 rfl ?_
      have h95 := q.1
      replace q := q.2
      refine x_iaload rX10_laysReach_95 (G_at (by decide) rfl rfl h95) ?_
      refine w_goto rX10_laysReach_96 ?_
      exact j87 _ (if_pos h87).symm
theorem k_X10_resting_0 {X : Nat × (Nat → Int32)} {I : Nat → Nat → Int32} {L : Nat → Nat → Int64} {F : Nat → Nat → UInt32} {Q : AQ} {on : Int32} (q : WP mX10_laysReach 0 (am_ent 4 [.ref 498]) [] (G X I L F) 0 0 (am_kq mX10_resting 1 [some (.ref 498), some (.int on), none, none] [] (0 + am_bc mX10_laysReach) (0 + am_bs mX10_laysReach) Q)) : WP mX10_resting 0 (am_ent 4 [.ref 498, .int on]) [] (G X I L F) 0 0 Q := by
  refine w_aload_n rX10_resting_0 rfl ?_
  refine w_invokevirtual rX10_resting_1 rfl rfl rfl (Nat.le_of_ble_eq_true rfl) ⟨trivial, trivial⟩ (G_is (by decide) rfl) (by decide) (by decide) ?_
  exact q
theorem k_X10_resting_4 {X : Nat × (Nat → Int32)} {I : Nat → Nat → Int32} {L : Nat → Nat → Int64} {F : Nat → Nat → UInt32} {Q : AQ} {x1 : Int32} (q : WP mX10_resting 8 [some (.ref 498), some (.int x1), some (.int 0), some (.int 0)] [] (G X I L F) 0 0 Q) : WP mX10_resting 4 [some (.ref 498), some (.int x1), none, none] [] (G X I L F) 0 0 Q := by
  refine w_iconst rX10_resting_4 (x := 0) (by decide) ?_
  refine w_istore_n rX10_resting_5 rfl trivial ?_
  refine w_iconst rX10_resting_6 (x := 0) (by decide) ?_
  refine w_istore_n rX10_resting_7 rfl trivial ?_
  exact q
theorem k_X10_resting_8 {X : Nat × (Nat → Int32)} {I : Nat → Nat → Int32} {L : Nat → Nat → Int64} {F : Nat → Nat → UInt32} {Q : AQ} {x1 : Int32} {x2 : Int32} {x3 : Int32} (q : (6 ≤ x3 → Q (.inl (some (.int x2))) (G X I L F)) ∧ (¬ 6 ≤ x3 → (p_X10_restsOn x3 x1) ∧ (∀ s21_1 : Int32, s21_1 = (if (f_X10_restsOn x3 x1 I) = 0 then 0 else 1 : Int32) → (WP mX10_resting 8 [some (.ref 498), some (.int x1), some (.int (x2 + s21_1)), some (.int (x3 + 1))] [] (G X I L F) 0 0 Q)))) : WP mX10_resting 8 [some (.ref 498), some (.int x1), some (.int x2), some (.int x3)] [] (G X I L F) 0 0 Q := by
  refine w_iload_n rX10_resting_8 rfl ?_
  refine w_bipush rX10_resting_9 (x := 6) (by decide) ?_
  refine w_icmpge rX10_resting_11 (fun h11 => ?_) (fun h11 => ?_)
  · replace q := q.1 h11
    refine w_iload_n rX10_resting_37 rfl ?_
    refine w_ireturn rX10_resting_38 trivial ?_
    exact q
  · replace q := q.2 h11
    refine w_iload_n rX10_resting_14 rfl ?_
    refine w_aload_n rX10_resting_15 rfl ?_
    refine w_iload_n rX10_resting_16 rfl ?_
    refine w_iload_n rX10_resting_17 rfl ?_
    refine w_invokevirtual rX10_resting_18 rfl rfl rfl (Nat.le_of_ble_eq_true rfl) ⟨trivial, trivial, trivial, trivial⟩ (G_is (by decide) rfl) (by decide) (by decide) ?_
    refine s_X10_restsOn q.1 ?_
    replace q := q.2
    show WP mX10_resting 21 _ _ _ 0 0 _
    have j21 : ∀ s21_1 : Int32, s21_1 = (if (f_X10_restsOn x3 x1 I) = 0 then 0 else 1 : Int32) → WP mX10_resting 29 [some (.ref 498), some (.int x1), some (.int x2), some (.int x3)] [.int s21_1, .int x2] (G X I L F) 0 0 Q := by
      intro s21_1 es21_1
      replace q := q s21_1 es21_1
      refine w_iadd rX10_resting_29 ?_
      refine w_istore_n rX10_resting_30 rfl trivial ?_
      refine w_iinc rX10_resting_31 rfl rfl trivial ?_
      refine w_goto rX10_resting_34 ?_
      exact q
    refine w_ifeq rX10_resting_21 (fun h21 => ?_) (fun h21 => ?_)
    · skip
      refine w_iconst rX10_resting_28 (x := 0) (by decide) ?_
      exact j21 _ (if_pos h21).symm
    · skip
      refine w_iconst rX10_resting_24 (x := 1) (by decide) ?_
      refine w_goto rX10_resting_25 ?_
      exact j21 _ (if_neg h21).symm
theorem k_X10_canName_0 {X : Nat × (Nat → Int32)} {I : Nat → Nat → Int32} {L : Nat → Nat → Int64} {F : Nat → Nat → UInt32} {Q : AQ} {model : Int32} (q : WP mX10_namesOfDraft 0 (am_ent 3 [.ref 498]) [] (G X I L F) 0 0 (am_kq mX10_canName 1 [some (.ref 498), some (.int model), none, none, none] [] (0 + am_bc mX10_namesOfDraft) (0 + am_bs mX10_namesOfDraft) Q)) : WP mX10_canName 0 (am_ent 5 [.ref 498, .int model]) [] (G X I L F) 0 0 Q := by
  refine w_aload_n rX10_canName_0 rfl ?_
  refine w_invokevirtual rX10_canName_1 rfl rfl rfl (Nat.le_of_ble_eq_true rfl) ⟨trivial, trivial⟩ (G_is (by decide) rfl) (by decide) (by decide) ?_
  exact q
theorem k_X10_canName_4 {X : Nat × (Nat → Int32)} {I : Nat → Nat → Int32} {L : Nat → Nat → Int64} {F : Nat → Nat → UInt32} {Q : AQ} {x1 : Int32} {e0 : Int32} (q : WP mX10_laysReach 0 (am_ent 4 [.ref 498]) [] (G X I L F) 0 0 (am_kq mX10_canName 6 [some (.ref 498), some (.int x1), some (.int e0), none, none] [] (0 + am_bc mX10_laysReach) (0 + am_bs mX10_laysReach) Q)) : WP mX10_canName 4 [some (.ref 498), some (.int x1), none, none, none] [.int e0] (G X I L F) 0 0 Q := by
  refine w_istore_n rX10_canName_4 rfl trivial ?_
  refine w_aload_n rX10_canName_5 rfl ?_
  refine w_invokevirtual rX10_canName_6 rfl rfl rfl (Nat.le_of_ble_eq_true rfl) ⟨trivial, trivial⟩ (G_is (by decide) rfl) (by decide) (by decide) ?_
  exact q
theorem k_X10_canName_9 {X : Nat × (Nat → Int32)} {I : Nat → Nat → Int32} {L : Nat → Nat → Int64} {F : Nat → Nat → UInt32} {Q : AQ} {x1 : Int32} {x2 : Int32} (q : ∀ s14_0 : Int32, s14_0 = (if (((x2 : Int32) >>> (x1 &&& 31 : Int32)) &&& 1) = 0 then 1 else 0 : Int32) → (WP mX10_canName 26 [some (.ref 498), some (.int x1), some (.int x2), some (.int s14_0), some (.int 0)] [] (G X I L F) 0 0 Q)) : WP mX10_canName 9 [some (.ref 498), some (.int x1), some (.int x2), none, none] [] (G X I L F) 0 0 Q := by
  refine w_iload_n rX10_canName_9 rfl ?_
  refine w_iload_n rX10_canName_10 rfl ?_
  refine w_ishr rX10_canName_11 ?_
  refine w_iconst rX10_canName_12 (x := 1) (by decide) ?_
  refine w_iand rX10_canName_13 ?_
  have j14 : ∀ s14_0 : Int32, s14_0 = (if (((x2 : Int32) >>> (x1 &&& 31 : Int32)) &&& 1) = 0 then 1 else 0 : Int32) → WP mX10_canName 22 [some (.ref 498), some (.int x1), some (.int x2), none, none] [.int s14_0] (G X I L F) 0 0 Q := by
    intro s14_0 es14_0
    replace q := q s14_0 es14_0
    refine w_istore_n rX10_canName_22 rfl trivial ?_
    refine w_iconst rX10_canName_23 (x := 0) (by decide) ?_
    refine w_istore rX10_canName_24 rfl trivial ?_
    exact q
  refine w_ifne rX10_canName_14 (fun h14 => ?_) (fun h14 => ?_)
  · skip
    refine w_iconst rX10_canName_21 (x := 0) (by decide) ?_
    exact j14 _ (if_neg h14).symm
  · skip
    refine w_iconst rX10_canName_17 (x := 1) (by decide) ?_
    refine w_goto rX10_canName_18 ?_
    exact j14 _ (if_pos h14).symm
theorem k_X10_canName_26 {X : Nat × (Nat → Int32)} {I : Nat → Nat → Int32} {L : Nat → Nat → Int64} {F : Nat → Nat → UInt32} {Q : AQ} {x1 : Int32} {x2 : Int32} {x3 : Int32} {x4 : Int32} (q : (6 ≤ x4 → (x3 = 0 ∨ x3 = 1) ∧ (Q (.inl (some (.int x3))) (G X I L F))) ∧ (¬ 6 ≤ x4 → ((¬ x3 = 0 → (¬ (((x2 : Int32) >>> (x4 &&& 31 : Int32)) &&& 1) = 0 → vp_in x4 6 ∧ ((¬ (I 505 (Int32.toNatClampNeg x4)) = (-1) → (p_X10_restsOn x4 x1) ∧ (True)))))) ∧ (∀ s34_0 : Int32, s34_0 = (if x3 = 0 then 0 else (if (((x2 : Int32) >>> (x4 &&& 31 : Int32)) &&& 1) = 0 then 1 else (if (I 505 (Int32.toNatClampNeg x4)) = (-1) then 0 else (if (f_X10_restsOn x4 x1 I) = 0 then 1 else 0 : Int32) : Int32) : Int32) : Int32) → (WP mX10_canName 26 [some (.ref 498), some (.int x1), some (.int x2), some (.int s34_0), some (.int (x4 + 1))] [] (G X I L F) 0 0 Q)))) : WP mX10_canName 26 [some (.ref 498), some (.int x1), some (.int x2), some (.int x3), some (.int x4)] [] (G X I L F) 0 0 Q := by
  refine w_iload rX10_canName_26 rfl ?_
  refine w_bipush rX10_canName_28 (x := 6) (by decide) ?_
  refine w_icmpge rX10_canName_30 (fun h30 => ?_) (fun h30 => ?_)
  · replace q := q.1 h30
    refine w_iload_n rX10_canName_79 rfl ?_
    have z80 := q.1
    replace q := q.2
    refine w_ireturn rX10_canName_80 z80 ?_
    exact q
  · replace q := q.2 h30
    refine w_iload_n rX10_canName_33 rfl ?_
    have j34 : ∀ s34_0 : Int32, s34_0 = (if x3 = 0 then 0 else (if (((x2 : Int32) >>> (x4 &&& 31 : Int32)) &&& 1) = 0 then 1 else (if (I 505 (Int32.toNatClampNeg x4)) = (-1) then 0 else (if (f_X10_restsOn x4 x1 I) = 0 then 1 else 0 : Int32) : Int32) : Int32) : Int32) → WP mX10_canName 72 [some (.ref 498), some (.int x1), some (.int x2), some (.int x3), some (.int x4)] [.int s34_0] (G X I L F) 0 0 Q := by
      intro s34_0 es34_0
      replace q := q.2
      replace q := q s34_0 es34_0
      refine w_istore_n rX10_canName_72 rfl trivial ?_
      refine w_iinc rX10_canName_73 rfl rfl trivial ?_
      refine w_goto rX10_canName_76 ?_
      exact q
    replace q := q.1
    refine w_ifeq rX10_canName_34 (fun h34 => ?_) (fun h34 => ?_)
    · skip
      refine w_iconst rX10_canName_71 (x := 0) (by decide) ?_
      exact j34 _ (if_pos h34).symm
    · replace q := q h34
      refine w_iload_n rX10_canName_37 rfl ?_
      refine w_iload rX10_canName_38 rfl ?_
      refine w_ishr rX10_canName_40 ?_
      refine w_iconst rX10_canName_41 (x := 1) (by decide) ?_
      refine w_iand rX10_canName_42 ?_
      refine w_ifeq rX10_canName_43 (fun h43 => ?_) (fun h43 => ?_)
      · skip
        refine w_iconst rX10_canName_67 (x := 1) (by decide) ?_
        refine w_goto rX10_canName_68 ?_
        exact j34 _ ((if_neg h34).trans (if_pos h43)).symm
      · replace q := q h43
        refine w_aload_n rX10_canName_46 rfl ?_
        refine w_getR rX10_canName_47 rfl rfl (G_is (by decide) rfl) (x := 505) rfl ?_
        refine w_iload rX10_canName_50 rfl ?_
        have h52 := q.1
        replace q := q.2
        refine x_iaload rX10_canName_52 (G_at (by decide) rfl rfl h52) ?_
        refine w_iconst rX10_canName_53 (x := -1) (by decide) ?_
        refine w_icmpeq rX10_canName_54 (fun h54 => ?_) (fun h54 => ?_)
        · skip
          refine w_iconst rX10_canName_71 (x := 0) (by decide) ?_
          exact j34 _ (((if_neg h34).trans (if_neg h43)).trans (if_pos h54)).symm
        · replace q := q h54
          refine w_aload_n rX10_canName_57 rfl ?_
          refine w_iload rX10_canName_58 rfl ?_
          refine w_iload_n rX10_canName_60 rfl ?_
          refine w_invokevirtual rX10_canName_61 rfl rfl rfl (Nat.le_of_ble_eq_true rfl) ⟨trivial, trivial, trivial, trivial⟩ (G_is (by decide) rfl) (by decide) (by decide) ?_
          refine s_X10_restsOn q.1 ?_
          replace q := q.2
          show WP mX10_canName 64 _ _ _ 0 0 _
          refine w_ifne rX10_canName_64 (fun h64 => ?_) (fun h64 => ?_)
          · skip
            refine w_iconst rX10_canName_71 (x := 0) (by decide) ?_
            exact j34 _ ((((if_neg h34).trans (if_neg h43)).trans (if_neg h54)).trans (if_neg h64)).symm
          · skip
            refine w_iconst rX10_canName_67 (x := 1) (by decide) ?_
            refine w_goto rX10_canName_68 ?_
            exact j34 _ ((((if_neg h34).trans (if_neg h43)).trans (if_neg h54)).trans (if_pos h64)).symm
theorem k_X10_enters_0 {X : Nat × (Nat → Int32)} {I : Nat → Nat → Int32} {L : Nat → Nat → Int64} {F : Nat → Nat → UInt32} {Q : AQ} {model : Int32} (q : WP mX10_names 0 (am_ent 6 [.ref 498, .int (I 498 5), .int 0]) [] (G X I L F) 0 0 (am_kq mX10_enters 6 [some (.ref 498), some (.int model), none, none] [] (0 + am_bc mX10_names) (0 + am_bs mX10_names) Q)) : WP mX10_enters 0 (am_ent 4 [.ref 498, .int model]) [] (G X I L F) 0 0 Q := by
  refine w_aload_n rX10_enters_0 rfl ?_
  refine w_aload_n rX10_enters_1 rfl ?_
  refine x_getI rX10_enters_2 rfl rfl (G_is (by decide) rfl) ?_
  refine w_iconst rX10_enters_5 (x := 0) (by decide) ?_
  refine w_invokevirtual rX10_enters_6 rfl rfl rfl (Nat.le_of_ble_eq_true rfl) ⟨trivial, trivial, trivial, trivial⟩ (G_is (by decide) rfl) (by decide) (by decide) ?_
  exact q
theorem k_X10_enters_9 {X : Nat × (Nat → Int32)} {I : Nat → Nat → Int32} {L : Nat → Nat → Int64} {F : Nat → Nat → UInt32} {Q : AQ} {x1 : Int32} {e0 : Int32} (q : vp_in (I 498 5) 60 ∧ (vp_in (I 498 5) 60 ∧ (WP mX10_enters 32 [some (.ref 498), some (.int x1), some (.int e0), some (.int 0)] [] (G X (am_u (am_u I 501 (Int32.toNatClampNeg (I 498 5)) x1) 510 (Int32.toNatClampNeg (I 498 5)) 0) L F) 0 0 Q))) : WP mX10_enters 9 [some (.ref 498), some (.int x1), none, none] [.int e0] (G X I L F) 0 0 Q := by
  refine w_istore_n rX10_enters_9 rfl trivial ?_
  refine w_aload_n rX10_enters_10 rfl ?_
  refine w_getR rX10_enters_11 rfl rfl (G_is (by decide) rfl) (x := 501) rfl ?_
  refine w_aload_n rX10_enters_14 rfl ?_
  refine x_getI rX10_enters_15 rfl rfl (G_is (by decide) rfl) ?_
  refine w_iload_n rX10_enters_18 rfl ?_
  have h19 := q.1
  replace q := q.2
  refine x_iastore rX10_enters_19 (G_at (by decide) rfl rfl h19) ?_
  refine w_aload_n rX10_enters_20 rfl ?_
  refine w_getR rX10_enters_21 rfl rfl (G_is (by decide) rfl) (x := 510) rfl ?_
  refine w_aload_n rX10_enters_24 rfl ?_
  refine x_getI rX10_enters_25 rfl rfl (G_is (by decide) rfl) ?_
  rw [au_ne (f := I) (o := 501) (k := (Int32.toNatClampNeg (I 498 5))) (a := 498) (b := 5) (fun z => absurd z.1 (by decide))]
  refine w_iconst rX10_enters_28 (x := 0) (by decide) ?_
  have h29 := q.1
  replace q := q.2
  refine x_iastore rX10_enters_29 (G_at (by decide) rfl rfl h29) ?_
  refine w_iconst rX10_enters_30 (x := 0) (by decide) ?_
  refine w_istore_n rX10_enters_31 rfl trivial ?_
  exact q
theorem k_X10_enters_32 {X : Nat × (Nat → Int32)} {I : Nat → Nat → Int32} {L : Nat → Nat → Int64} {F : Nat → Nat → UInt32} {Q : AQ} {x1 : Int32} {x2 : Int32} {x3 : Int32} (q : (6 ≤ x3 → vp_in x1 6 ∧ (Q (.inl none) (G X (am_u (am_u I 505 (Int32.toNatClampNeg x1) (I 498 5)) 498 5 ((I 498 5) + 1)) L F))) ∧ (¬ 6 ≤ x3 → (((((x2 : Int32) >>> (x3 &&& 31 : Int32)) &&& 1) = 1 → vp_in x3 6 ∧ (True))) ∧ (∀ s57_2 : Int32, s57_2 = (if (((x2 : Int32) >>> (x3 &&& 31 : Int32)) &&& 1) = 1 then (I 505 (Int32.toNatClampNeg x3)) else (-1) : Int32) → (vp_in ((6 * (I 498 5)) + x3) 360 ∧ (WP mX10_enters 32 [some (.ref 498), some (.int x1), some (.int x2), some (.int (x3 + 1))] [] (G X (am_u I 504 (Int32.toNatClampNeg ((6 * (I 498 5)) + x3)) s57_2) L F) 0 0 Q))))) : WP mX10_enters 32 [some (.ref 498), some (.int x1), some (.int x2), some (.int x3)] [] (G X I L F) 0 0 Q := by
  refine w_iload_n rX10_enters_32 rfl ?_
  refine w_bipush rX10_enters_33 (x := 6) (by decide) ?_
  refine w_icmpge rX10_enters_35 (fun h35 => ?_) (fun h35 => ?_)
  · replace q := q.1 h35
    refine w_aload_n rX10_enters_77 rfl ?_
    refine w_getR rX10_enters_78 rfl rfl (G_is (by decide) rfl) (x := 505) rfl ?_
    refine w_iload_n rX10_enters_81 rfl ?_
    refine w_aload_n rX10_enters_82 rfl ?_
    refine x_getI rX10_enters_83 rfl rfl (G_is (by decide) rfl) ?_
    have h86 := q.1
    replace q := q.2
    refine x_iastore rX10_enters_86 (G_at (by decide) rfl rfl h86) ?_
    refine w_aload_n rX10_enters_87 rfl ?_
    refine w_dup rX10_enters_88 trivial ?_
    refine x_getI rX10_enters_89 rfl rfl (G_is (by decide) rfl) ?_
    rw [au_ne (f := I) (o := 505) (k := (Int32.toNatClampNeg x1)) (a := 498) (b := 5) (fun z => absurd z.1 (by decide))]
    refine w_iconst rX10_enters_92 (x := 1) (by decide) ?_
    refine w_iadd rX10_enters_93 ?_
    refine x_putI rX10_enters_94 rfl (G_is (by decide) rfl) trivial ?_
    refine w_return rX10_enters_97 ?_
    exact q
  · replace q := q.2 h35
    refine w_aload_n rX10_enters_38 rfl ?_
    refine w_getR rX10_enters_39 rfl rfl (G_is (by decide) rfl) (x := 504) rfl ?_
    refine w_bipush rX10_enters_42 (x := 6) (by decide) ?_
    refine w_aload_n rX10_enters_44 rfl ?_
    refine x_getI rX10_enters_45 rfl rfl (G_is (by decide) rfl) ?_
    refine w_imul rX10_enters_48 ?_
    refine w_iload_n rX10_enters_49 rfl ?_
    refine w_iadd rX10_enters_50 ?_
    refine w_iload_n rX10_enters_51 rfl ?_
    refine w_iload_n rX10_enters_52 rfl ?_
    refine w_ishr rX10_enters_53 ?_
    refine w_iconst rX10_enters_54 (x := 1) (by decide) ?_
    refine w_iand rX10_enters_55 ?_
    refine w_iconst rX10_enters_56 (x := 1) (by decide) ?_
    have j57 : ∀ s57_2 : Int32, s57_2 = (if (((x2 : Int32) >>> (x3 &&& 31 : Int32)) &&& 1) = 1 then (I 505 (Int32.toNatClampNeg x3)) else (-1) : Int32) → WP mX10_enters 70 [some (.ref 498), some (.int x1), some (.int x2), some (.int x3)] [.int s57_2, .int ((6 * (I 498 5)) + x3), .ref 504] (G X I L F) 0 0 Q := by
      intro s57_2 es57_2
      replace q := q.2
      replace q := q s57_2 es57_2
      have h70 := q.1
      replace q := q.2
      refine x_iastore rX10_enters_70 (G_at (by decide) rfl rfl h70) ?_
      refine w_iinc rX10_enters_71 rfl rfl trivial ?_
      refine w_goto rX10_enters_74 ?_
      exact q
    replace q := q.1
    refine w_icmpne rX10_enters_57 (fun h57 => ?_) (fun h57 => ?_)
    · skip
      refine w_iconst rX10_enters_69 (x := -1) (by decide) ?_
      exact j57 _ (if_neg h57).symm
    · replace q := q h57
      refine w_aload_n rX10_enters_60 rfl ?_
      refine w_getR rX10_enters_61 rfl rfl (G_is (by decide) rfl) (x := 505) rfl ?_
      refine w_iload_n rX10_enters_64 rfl ?_
      have h65 := q.1
      replace q := q.2
      refine x_iaload rX10_enters_65 (G_at (by decide) rfl rfl h65) ?_
      refine w_goto rX10_enters_66 ?_
      exact j57 _ (if_pos h57).symm
theorem k_X10_isStale_0 {X : Nat × (Nat → Int32)} {I : Nat → Nat → Int32} {L : Nat → Nat → Int64} {F : Nat → Nat → UInt32} {Q : AQ} {model : Int32} (q : WP mX10_isStale 4 [some (.ref 498), some (.int model), some (.int 0), some (.int 0), none] [] (G X I L F) 0 0 Q) : WP mX10_isStale 0 (am_ent 5 [.ref 498, .int model]) [] (G X I L F) 0 0 Q := by
  refine w_iconst rX10_isStale_0 (x := 0) (by decide) ?_
  refine w_istore_n rX10_isStale_1 rfl trivial ?_
  refine w_iconst rX10_isStale_2 (x := 0) (by decide) ?_
  refine w_istore_n rX10_isStale_3 rfl trivial ?_
  exact q
theorem k_X10_isStale_4 {X : Nat × (Nat → Int32)} {I : Nat → Nat → Int32} {L : Nat → Nat → Int64} {F : Nat → Nat → UInt32} {Q : AQ} {x1 : Int32} {x2 : Int32} {x3 : Int32} {d4 : Option Value} (q : (6 ≤ x3 → (x2 = 0 ∨ x2 = 1) ∧ (Q (.inl (some (.int x2))) (G X I L F))) ∧ (¬ 6 ≤ x3 → vp_in x1 6 ∧ (((I 505 (Int32.toNatClampNeg x1)) = (-1) → (x2 = 0 ∨ x2 = 1) ∧ (Q (.inl (some (.int x2))) (G X I L F))) ∧ (¬ (I 505 (Int32.toNatClampNeg x1)) = (-1) → vp_in x1 6 ∧ (vp_in ((6 * (I 505 (Int32.toNatClampNeg x1))) + x3) 360 ∧ (((x2 = 0 → (¬ (I 504 (Int32.toNatClampNeg ((6 * (I 505 (Int32.toNatClampNeg x1))) + x3))) = (-1) → vp_in x3 6 ∧ (True)))) ∧ (∀ s39_0 : Int32, s39_0 = (if x2 = 0 then (if (I 504 (Int32.toNatClampNeg ((6 * (I 505 (Int32.toNatClampNeg x1))) + x3))) = (-1) then 0 else (if (I 504 (Int32.toNatClampNeg ((6 * (I 505 (Int32.toNatClampNeg x1))) + x3))) = (I 505 (Int32.toNatClampNeg x3)) then 0 else 1 : Int32) : Int32) else 1 : Int32) → (WP mX10_isStale 4 [some (.ref 498), some (.int x1), some (.int s39_0), some (.int (x3 + 1)), some (.int (I 504 (Int32.toNatClampNeg ((6 * (I 505 (Int32.toNatClampNeg x1))) + x3))))] [] (G X I L F) 0 0 Q)))))))) : WP mX10_isStale 4 [some (.ref 498), some (.int x1), some (.int x2), some (.int x3), d4] [] (G X I L F) 0 0 Q := by
  refine w_iload_n rX10_isStale_4 rfl ?_
  refine w_bipush rX10_isStale_5 (x := 6) (by decide) ?_
  refine w_icmpge rX10_isStale_7 (fun h7 => ?_) (fun h7 => ?_)
  · replace q := q.1 h7
    refine w_iload_n rX10_isStale_71 rfl ?_
    have z72 := q.1
    replace q := q.2
    refine w_ireturn rX10_isStale_72 z72 ?_
    exact q
  · replace q := q.2 h7
    refine w_aload_n rX10_isStale_10 rfl ?_
    refine w_getR rX10_isStale_11 rfl rfl (G_is (by decide) rfl) (x := 505) rfl ?_
    refine w_iload_n rX10_isStale_14 rfl ?_
    have h15 := q.1
    replace q := q.2
    refine x_iaload rX10_isStale_15 (G_at (by decide) rfl rfl h15) ?_
    refine w_iconst rX10_isStale_16 (x := -1) (by decide) ?_
    refine w_icmpeq rX10_isStale_17 (fun h17 => ?_) (fun h17 => ?_)
    · replace q := q.1 h17
      refine w_iload_n rX10_isStale_71 rfl ?_
      have z72 := q.1
      replace q := q.2
      refine w_ireturn rX10_isStale_72 z72 ?_
      exact q
    · replace q := q.2 h17
      refine w_aload_n rX10_isStale_20 rfl ?_
      refine w_getR rX10_isStale_21 rfl rfl (G_is (by decide) rfl) (x := 504) rfl ?_
      refine w_bipush rX10_isStale_24 (x := 6) (by decide) ?_
      refine w_aload_n rX10_isStale_26 rfl ?_
      refine w_getR rX10_isStale_27 rfl rfl (G_is (by decide) rfl) (x := 505) rfl ?_
      refine w_iload_n rX10_isStale_30 rfl ?_
      have h31 := q.1
      replace q := q.2
      refine x_iaload rX10_isStale_31 (G_at (by decide) rfl rfl h31) ?_
      refine w_imul rX10_isStale_32 ?_
      refine w_iload_n rX10_isStale_33 rfl ?_
      refine w_iadd rX10_isStale_34 ?_
      have h35 := q.1
      replace q := q.2
      refine x_iaload rX10_isStale_35 (G_at (by decide) rfl rfl h35) ?_
      refine w_istore rX10_isStale_36 rfl trivial ?_
      refine w_iload_n rX10_isStale_38 rfl ?_
      have j39 : ∀ s39_0 : Int32, s39_0 = (if x2 = 0 then (if (I 504 (Int32.toNatClampNeg ((6 * (I 505 (Int32.toNatClampNeg x1))) + x3))) = (-1) then 0 else (if (I 504 (Int32.toNatClampNeg ((6 * (I 505 (Int32.toNatClampNeg x1))) + x3))) = (I 505 (Int32.toNatClampNeg x3)) then 0 else 1 : Int32) : Int32) else 1 : Int32) → WP mX10_isStale 64 [some (.ref 498), some (.int x1), some (.int x2), some (.int x3), some (.int (I 504 (Int32.toNatClampNeg ((6 * (I 505 (Int32.toNatClampNeg x1))) + x3))))] [.int s39_0] (G X I L F) 0 0 Q := by
        intro s39_0 es39_0
        replace q := q.2
        replace q := q s39_0 es39_0
        refine w_istore_n rX10_isStale_64 rfl trivial ?_
        refine w_iinc rX10_isStale_65 rfl rfl trivial ?_
        refine w_goto rX10_isStale_68 ?_
        exact q
      replace q := q.1
      refine w_ifne rX10_isStale_39 (fun h39 => ?_) (fun h39 => ?_)
      · skip
        refine w_iconst rX10_isStale_59 (x := 1) (by decide) ?_
        refine w_goto rX10_isStale_60 ?_
        exact j39 _ (if_neg h39).symm
      · replace q := q h39
        refine w_iload rX10_isStale_42 rfl ?_
        refine w_iconst rX10_isStale_44 (x := -1) (by decide) ?_
        refine w_icmpeq rX10_isStale_45 (fun h45 => ?_) (fun h45 => ?_)
        · skip
          refine w_iconst rX10_isStale_63 (x := 0) (by decide) ?_
          exact j39 _ ((if_pos h39).trans (if_pos h45)).symm
        · replace q := q h45
          refine w_iload rX10_isStale_48 rfl ?_
          refine w_aload_n rX10_isStale_50 rfl ?_
          refine w_getR rX10_isStale_51 rfl rfl (G_is (by decide) rfl) (x := 505) rfl ?_
          refine w_iload_n rX10_isStale_54 rfl ?_
          have h55 := q.1
          replace q := q.2
          refine x_iaload rX10_isStale_55 (G_at (by decide) rfl rfl h55) ?_
          refine w_icmpeq rX10_isStale_56 (fun h56 => ?_) (fun h56 => ?_)
          · skip
            refine w_iconst rX10_isStale_63 (x := 0) (by decide) ?_
            exact j39 _ (((if_pos h39).trans (if_neg h45)).trans (if_pos h56)).symm
          · skip
            refine w_iconst rX10_isStale_59 (x := 1) (by decide) ?_
            refine w_goto rX10_isStale_60 ?_
            exact j39 _ (((if_pos h39).trans (if_neg h45)).trans (if_neg h56)).symm
theorem k_X10_nextStale_0 {X : Nat × (Nat → Int32)} {I : Nat → Nat → Int32} {L : Nat → Nat → Int64} {F : Nat → Nat → UInt32} {Q : AQ}  (q : WP mX10_laysReach 0 (am_ent 4 [.ref 498]) [] (G X I L F) 0 0 (am_kq mX10_nextStale 1 [some (.ref 498), none, none, none, none] [] (0 + am_bc mX10_laysReach) (0 + am_bs mX10_laysReach) Q)) : WP mX10_nextStale 0 (am_ent 5 [.ref 498]) [] (G X I L F) 0 0 Q := by
  refine w_aload_n rX10_nextStale_0 rfl ?_
  refine w_invokevirtual rX10_nextStale_1 rfl rfl rfl (Nat.le_of_ble_eq_true rfl) ⟨trivial, trivial⟩ (G_is (by decide) rfl) (by decide) (by decide) ?_
  exact q
theorem k_X10_nextStale_4 {X : Nat × (Nat → Int32)} {I : Nat → Nat → Int32} {L : Nat → Nat → Int64} {F : Nat → Nat → UInt32} {Q : AQ}  (q : WP mX10_nextStale 8 [some (.ref 498), some (.int (-1)), some (.int 5), none, none] [] (G X I L F) 0 0 Q) : WP mX10_nextStale 4 [some (.ref 498), none, none, none, none] [] (G X I L F) 0 0 Q := by
  refine w_iconst rX10_nextStale_4 (x := -1) (by decide) ?_
  refine w_istore_n rX10_nextStale_5 rfl trivial ?_
  refine w_iconst rX10_nextStale_6 (x := 5) (by decide) ?_
  refine w_istore_n rX10_nextStale_7 rfl trivial ?_
  exact q
theorem k_X10_nextStale_8 {X : Nat × (Nat → Int32)} {I : Nat → Nat → Int32} {L : Nat → Nat → Int64} {F : Nat → Nat → UInt32} {Q : AQ} {x1 : Int32} {x2 : Int32} {d3 : Option Value} {d4 : Option Value} (q : (x2 < 0 → Q (.inl (some (.int x1))) (G X I L F)) ∧ (¬ x2 < 0 → WP mX10_isStale 0 (am_ent 5 [.ref 498, .int x2]) [] (G X I L F) 0 0 (am_kq mX10_nextStale 14 [some (.ref 498), some (.int x1), some (.int x2), d3, d4] [] (0 + am_bc mX10_isStale) (0 + am_bs mX10_isStale) Q))) : WP mX10_nextStale 8 [some (.ref 498), some (.int x1), some (.int x2), d3, d4] [] (G X I L F) 0 0 Q := by
  refine w_iload_n rX10_nextStale_8 rfl ?_
  refine w_iflt rX10_nextStale_9 (fun h9 => ?_) (fun h9 => ?_)
  · replace q := q.1 h9
    refine w_iload_n rX10_nextStale_85 rfl ?_
    refine w_ireturn rX10_nextStale_86 trivial ?_
    exact q
  · replace q := q.2 h9
    refine w_aload_n rX10_nextStale_12 rfl ?_
    refine w_iload_n rX10_nextStale_13 rfl ?_
    refine w_invokevirtual rX10_nextStale_14 rfl rfl rfl (Nat.le_of_ble_eq_true rfl) ⟨trivial, trivial, trivial⟩ (G_is (by decide) rfl) (by decide) (by decide) ?_
    exact q
theorem k_X10_nextStale_17 {X : Nat × (Nat → Int32)} {I : Nat → Nat → Int32} {L : Nat → Nat → Int64} {F : Nat → Nat → UInt32} {Q : AQ} {x1 : Int32} {x2 : Int32} {d3 : Option Value} {d4 : Option Value} {e0 : Int32} (q : WP mX10_nextStale 21 [some (.ref 498), some (.int x1), some (.int x2), some (.int e0), some (.int 0)] [] (G X I L F) 0 0 Q) : WP mX10_nextStale 17 [some (.ref 498), some (.int x1), some (.int x2), d3, d4] [.int e0] (G X I L F) 0 0 Q := by
  refine w_istore_n rX10_nextStale_17 rfl trivial ?_
  refine w_iconst rX10_nextStale_18 (x := 0) (by decide) ?_
  refine w_istore rX10_nextStale_19 rfl trivial ?_
  exact q
theorem k_X10_nextStale_21 {X : Nat × (Nat → Int32)} {I : Nat → Nat → Int32} {L : Nat → Nat → Int64} {F : Nat → Nat → UInt32} {Q : AQ} {x1 : Int32} {x2 : Int32} {x3 : Int32} {x4 : Int32} (q : (6 ≤ x4 → ∀ s70_0 : Int32, s70_0 = (if x3 = 0 then x1 else x2 : Int32) → (WP mX10_nextStale 8 [some (.ref 498), some (.int s70_0), some (.int (x2 + (-1))), some (.int x3), some (.int x4)] [] (G X I L F) 0 0 Q)) ∧ (¬ 6 ≤ x4 → (x3 = 0 → WP mX10_nextStale 21 [some (.ref 498), some (.int x1), some (.int x2), some (.int 0), some (.int (x4 + 1))] [] (G X I L F) 0 0 Q) ∧ (¬ x3 = 0 → (x4 = x2 → WP mX10_nextStale 21 [some (.ref 498), some (.int x1), some (.int x2), some (.int 1), some (.int (x4 + 1))] [] (G X I L F) 0 0 Q) ∧ (¬ x4 = x2 → WP mX10_isStale 0 (am_ent 5 [.ref 498, .int x4]) [] (G X I L F) 0 0 (am_kq mX10_nextStale 41 [some (.ref 498), some (.int x1), some (.int x2), some (.int x3), some (.int x4)] [] (0 + am_bc mX10_isStale) (0 + am_bs mX10_isStale) Q))))) : WP mX10_nextStale 21 [some (.ref 498), some (.int x1), some (.int x2), some (.int x3), some (.int x4)] [] (G X I L F) 0 0 Q := by
  refine w_iload rX10_nextStale_21 rfl ?_
  refine w_bipush rX10_nextStale_23 (x := 6) (by decide) ?_
  refine w_icmpge rX10_nextStale_25 (fun h25 => ?_) (fun h25 => ?_)
  · replace q := q.1 h25
    refine w_iload_n rX10_nextStale_69 rfl ?_
    have j70 : ∀ s70_0 : Int32, s70_0 = (if x3 = 0 then x1 else x2 : Int32) → WP mX10_nextStale 78 [some (.ref 498), some (.int x1), some (.int x2), some (.int x3), some (.int x4)] [.int s70_0] (G X I L F) 0 0 Q := by
      intro s70_0 es70_0
      replace q := q s70_0 es70_0
      refine w_istore_n rX10_nextStale_78 rfl trivial ?_
      refine w_iinc rX10_nextStale_79 rfl rfl trivial ?_
      refine w_goto rX10_nextStale_82 ?_
      exact q
    refine w_ifeq rX10_nextStale_70 (fun h70 => ?_) (fun h70 => ?_)
    · skip
      refine w_iload_n rX10_nextStale_77 rfl ?_
      exact j70 _ (if_pos h70).symm
    · skip
      refine w_iload_n rX10_nextStale_73 rfl ?_
      refine w_goto rX10_nextStale_74 ?_
      exact j70 _ (if_neg h70).symm
  · replace q := q.2 h25
    refine w_iload_n rX10_nextStale_28 rfl ?_
    refine w_ifeq rX10_nextStale_29 (fun h29 => ?_) (fun h29 => ?_)
    · replace q := q.1 h29
      refine w_iconst rX10_nextStale_61 (x := 0) (by decide) ?_
      refine w_istore_n rX10_nextStale_62 rfl trivial ?_
      refine w_iinc rX10_nextStale_63 rfl rfl trivial ?_
      refine w_goto rX10_nextStale_66 ?_
      exact q
    · replace q := q.2 h29
      refine w_iload rX10_nextStale_32 rfl ?_
      refine w_iload_n rX10_nextStale_34 rfl ?_
      refine w_icmpeq rX10_nextStale_35 (fun h35 => ?_) (fun h35 => ?_)
      · replace q := q.1 h35
        refine w_iconst rX10_nextStale_57 (x := 1) (by decide) ?_
        refine w_goto rX10_nextStale_58 ?_
        refine w_istore_n rX10_nextStale_62 rfl trivial ?_
        refine w_iinc rX10_nextStale_63 rfl rfl trivial ?_
        refine w_goto rX10_nextStale_66 ?_
        exact q
      · replace q := q.2 h35
        refine w_aload_n rX10_nextStale_38 rfl ?_
        refine w_iload rX10_nextStale_39 rfl ?_
        refine w_invokevirtual rX10_nextStale_41 rfl rfl rfl (Nat.le_of_ble_eq_true rfl) ⟨trivial, trivial, trivial⟩ (G_is (by decide) rfl) (by decide) (by decide) ?_
        exact q
theorem k_X10_nextStale_44 {X : Nat × (Nat → Int32)} {I : Nat → Nat → Int32} {L : Nat → Nat → Int64} {F : Nat → Nat → UInt32} {Q : AQ} {x1 : Int32} {x2 : Int32} {x3 : Int32} {x4 : Int32} {e0 : Int32} (q : ((¬ e0 = 0 → (p_X10_restsOn x2 x4) ∧ (True))) ∧ (∀ s44_0 : Int32, s44_0 = (if e0 = 0 then 1 else (if (f_X10_restsOn x2 x4 I) = 0 then 1 else 0 : Int32) : Int32) → (WP mX10_nextStale 21 [some (.ref 498), some (.int x1), some (.int x2), some (.int s44_0), some (.int (x4 + 1))] [] (G X I L F) 0 0 Q))) : WP mX10_nextStale 44 [some (.ref 498), some (.int x1), some (.int x2), some (.int x3), some (.int x4)] [.int e0] (G X I L F) 0 0 Q := by
  have j44 : ∀ s44_0 : Int32, s44_0 = (if e0 = 0 then 1 else (if (f_X10_restsOn x2 x4 I) = 0 then 1 else 0 : Int32) : Int32) → WP mX10_nextStale 62 [some (.ref 498), some (.int x1), some (.int x2), some (.int x3), some (.int x4)] [.int s44_0] (G X I L F) 0 0 Q := by
    intro s44_0 es44_0
    replace q := q.2
    replace q := q s44_0 es44_0
    refine w_istore_n rX10_nextStale_62 rfl trivial ?_
    refine w_iinc rX10_nextStale_63 rfl rfl trivial ?_
    refine w_goto rX10_nextStale_66 ?_
    exact q
  replace q := q.1
  refine w_ifeq rX10_nextStale_44 (fun h44 => ?_) (fun h44 => ?_)
  · skip
    refine w_iconst rX10_nextStale_57 (x := 1) (by decide) ?_
    refine w_goto rX10_nextStale_58 ?_
    exact j44 _ (if_pos h44).symm
  · replace q := q h44
    refine w_aload_n rX10_nextStale_47 rfl ?_
    refine w_iload_n rX10_nextStale_48 rfl ?_
    refine w_iload rX10_nextStale_49 rfl ?_
    refine w_invokevirtual rX10_nextStale_51 rfl rfl rfl (Nat.le_of_ble_eq_true rfl) ⟨trivial, trivial, trivial, trivial⟩ (G_is (by decide) rfl) (by decide) (by decide) ?_
    refine s_X10_restsOn q.1 ?_
    replace q := q.2
    show WP mX10_nextStale 54 _ _ _ 0 0 _
    refine w_ifne rX10_nextStale_54 (fun h54 => ?_) (fun h54 => ?_)
    · skip
      refine w_iconst rX10_nextStale_61 (x := 0) (by decide) ?_
      exact j44 _ ((if_neg h44).trans (if_neg h54)).symm
    · skip
      refine w_iconst rX10_nextStale_57 (x := 1) (by decide) ?_
      refine w_goto rX10_nextStale_58 ?_
      exact j44 _ ((if_neg h44).trans (if_pos h54)).symm
theorem k_X10_publish_0 {X : Nat × (Nat → Int32)} {I : Nat → Nat → Int32} {L : Nat → Nat → Int64} {F : Nat → Nat → UInt32} {Q : AQ} {model : Int32} (q : ((f_X10_isModel model) = 0 → ((f_X10_holds 1) = 0 → Q (.inl (some (.int 0))) (G X (fI_X10_holds 1 I) L F)) ∧ (¬ (f_X10_holds 1) = 0 → vp_in ((fI_X10_holds 1 I) 498 5) 60 ∧ (WP mX10_publish 117 [some (.ref 498), some (.int model), some (.int (f_X10_isModel model)), some (.int 0), some (.int 0), some (.int ((fI_X10_holds 1 I) 498 5)), some (.int 0), none] [] (G X (am_u (fI_X10_holds 1 I) 502 (Int32.toNatClampNeg ((fI_X10_holds 1 I) 498 5)) ((fI_X10_holds 1 I) 498 2)) L F) 0 0 Q))) ∧ (¬ (f_X10_isModel model) = 0 → WP mX10_faultOf 0 (am_ent 11 [.ref 498, .int 0]) [] (G X I L F) 0 0 (am_kq mX10_publish 11 [some (.ref 498), some (.int model), some (.int (f_X10_isModel model)), none, none, none, none, none] [] (0 + am_bc mX10_faultOf) (0 + am_bs mX10_faultOf) Q))) : WP mX10_publish 0 (am_ent 8 [.ref 498, .int model]) [] (G X I L F) 0 0 Q := by
  refine w_iload_n rX10_publish_0 rfl ?_
  refine w_invokestatic rX10_publish_1 rfl rfl rfl (Nat.le_of_ble_eq_true rfl) ⟨trivial, trivial⟩ trivial (by decide) (by decide) ?_
  refine s_X10_isModel ?_
  show WP mX10_publish 4 _ _ _ 0 0 _
  refine w_istore_n rX10_publish_4 rfl trivial ?_
  refine w_iload_n rX10_publish_5 rfl ?_
  refine w_ifeq rX10_publish_6 (fun h6 => ?_) (fun h6 => ?_)
  · replace q := q.1 h6
    refine w_iconst rX10_publish_22 (x := 0) (by decide) ?_
    refine w_istore_n rX10_publish_23 rfl trivial ?_
    refine w_iload_n rX10_publish_24 rfl ?_
    refine w_ifeq rX10_publish_25 (fun _ => ?_) (fun h => absurd (show (0 : Int32) = 0 from by decide) h)
    refine w_iconst rX10_publish_57 (x := 0) (by decide) ?_
    refine w_istore rX10_publish_58 rfl trivial ?_
    refine w_aload_n rX10_publish_60 rfl ?_
    refine w_iload_n rX10_publish_61 rfl ?_
    refine w_ifne rX10_publish_62 (fun h => absurd h6 h) (fun _ => ?_)
    refine w_iconst rX10_publish_65 (x := 1) (by decide) ?_
    refine w_goto rX10_publish_66 ?_
    refine w_invokevirtual rX10_publish_87 rfl rfl rfl (Nat.le_of_ble_eq_true rfl) ⟨trivial, trivial, trivial⟩ (G_is (by decide) rfl) (by decide) (by decide) ?_
    refine s_X10_holds ?_
    show WP mX10_publish 90 _ _ _ 0 0 _
    refine w_ifne rX10_publish_90 (fun h90 => ?_) (fun h90 => ?_)
    · replace q := q.2 h90
      refine w_aload_n rX10_publish_95 rfl ?_
      refine x_getI rX10_publish_96 rfl rfl (G_is (by decide) rfl) ?_
      refine w_istore rX10_publish_99 rfl trivial ?_
      refine w_aload_n rX10_publish_101 rfl ?_
      refine w_getR rX10_publish_102 rfl rfl (G_is (by decide) rfl) (x := 502) rfl ?_
      refine w_aload_n rX10_publish_105 rfl ?_
      refine x_getI rX10_publish_106 rfl rfl (G_is (by decide) rfl) ?_
      refine w_aload_n rX10_publish_109 rfl ?_
      refine x_getI rX10_publish_110 rfl rfl (G_is (by decide) rfl) ?_
      have h113 := q.1
      replace q := q.2
      refine x_iastore rX10_publish_113 (G_at (by decide) rfl rfl h113) ?_
      refine w_iconst rX10_publish_114 (x := 0) (by decide) ?_
      refine w_istore rX10_publish_115 rfl trivial ?_
      exact q
    · replace q := q.1 h90
      refine w_iconst rX10_publish_93 (x := 0) (by decide) ?_
      refine w_ireturn rX10_publish_94 trivial ?_
      exact q
  · replace q := q.2 h6
    refine w_aload_n rX10_publish_9 rfl ?_
    refine w_iconst rX10_publish_10 (x := 0) (by decide) ?_
    refine w_invokevirtual rX10_publish_11 rfl rfl rfl (Nat.le_of_ble_eq_true rfl) ⟨trivial, trivial, trivial⟩ (G_is (by decide) rfl) (by decide) (by decide) ?_
    exact q
theorem k_X10_publish_14 {X : Nat × (Nat → Int32)} {I : Nat → Nat → Int32} {L : Nat → Nat → Int64} {F : Nat → Nat → UInt32} {Q : AQ} {x1 : Int32} {x2 : Int32} {e0 : Int32} (q : ∀ s15_0 : Int32, s15_0 = (if e0 = (-1) then 1 else 0 : Int32) → ((s15_0 = 0 → ∀ s62_1 : Int32, s62_1 = (if x2 = 0 then 1 else 2 : Int32) → (((f_X10_holds s62_1) = 0 → Q (.inl (some (.int 0))) (G X (fI_X10_holds s62_1 I) L F)) ∧ (¬ (f_X10_holds s62_1) = 0 → vp_in ((fI_X10_holds s62_1 I) 498 5) 60 ∧ (WP mX10_publish 117 [some (.ref 498), some (.int x1), some (.int x2), some (.int s15_0), some (.int 0), some (.int ((fI_X10_holds s62_1 I) 498 5)), some (.int 0), none] [] (G X (am_u (fI_X10_holds s62_1 I) 502 (Int32.toNatClampNeg ((fI_X10_holds s62_1 I) 498 5)) ((fI_X10_holds s62_1 I) 498 2)) L F) 0 0 Q)))) ∧ (¬ s15_0 = 0 → WP mX10_canName 0 (am_ent 5 [.ref 498, .int x1]) [] (G X I L F) 0 0 (am_kq mX10_publish 30 [some (.ref 498), some (.int x1), some (.int x2), some (.int s15_0), none, none, none, none] [] (0 + am_bc mX10_canName) (0 + am_bs mX10_canName) Q)))) : WP mX10_publish 14 [some (.ref 498), some (.int x1), some (.int x2), none, none, none, none, none] [.int e0] (G X I L F) 0 0 Q := by
  refine w_iconst rX10_publish_14 (x := -1) (by decide) ?_
  have j15 : ∀ s15_0 : Int32, s15_0 = (if e0 = (-1) then 1 else 0 : Int32) → WP mX10_publish 23 [some (.ref 498), some (.int x1), some (.int x2), none, none, none, none, none] [.int s15_0] (G X I L F) 0 0 Q := by
    intro s15_0 es15_0
    replace q := q s15_0 es15_0
    refine w_istore_n rX10_publish_23 rfl trivial ?_
    refine w_iload_n rX10_publish_24 rfl ?_
    refine w_ifeq rX10_publish_25 (fun h25 => ?_) (fun h25 => ?_)
    · replace q := q.1 h25
      refine w_iconst rX10_publish_57 (x := 0) (by decide) ?_
      refine w_istore rX10_publish_58 rfl trivial ?_
      refine w_aload_n rX10_publish_60 rfl ?_
      refine w_iload_n rX10_publish_61 rfl ?_
      have j62 : ∀ s62_1 : Int32, s62_1 = (if x2 = 0 then 1 else 2 : Int32) → WP mX10_publish 87 [some (.ref 498), some (.int x1), some (.int x2), some (.int s15_0), some (.int 0), none, none, none] [.int s62_1, .ref 498] (G X I L F) 0 0 Q := by
        intro s62_1 es62_1
        replace q := q s62_1 es62_1
        refine w_invokevirtual rX10_publish_87 rfl rfl rfl (Nat.le_of_ble_eq_true rfl) ⟨trivial, trivial, trivial⟩ (G_is (by decide) rfl) (by decide) (by decide) ?_
        refine s_X10_holds ?_
        show WP mX10_publish 90 _ _ _ 0 0 _
        refine w_ifne rX10_publish_90 (fun h90 => ?_) (fun h90 => ?_)
        · replace q := q.2 h90
          refine w_aload_n rX10_publish_95 rfl ?_
          refine x_getI rX10_publish_96 rfl rfl (G_is (by decide) rfl) ?_
          refine w_istore rX10_publish_99 rfl trivial ?_
          refine w_aload_n rX10_publish_101 rfl ?_
          refine w_getR rX10_publish_102 rfl rfl (G_is (by decide) rfl) (x := 502) rfl ?_
          refine w_aload_n rX10_publish_105 rfl ?_
          refine x_getI rX10_publish_106 rfl rfl (G_is (by decide) rfl) ?_
          refine w_aload_n rX10_publish_109 rfl ?_
          refine x_getI rX10_publish_110 rfl rfl (G_is (by decide) rfl) ?_
          have h113 := q.1
          replace q := q.2
          refine x_iastore rX10_publish_113 (G_at (by decide) rfl rfl h113) ?_
          refine w_iconst rX10_publish_114 (x := 0) (by decide) ?_
          refine w_istore rX10_publish_115 rfl trivial ?_
          exact q
        · replace q := q.1 h90
          refine w_iconst rX10_publish_93 (x := 0) (by decide) ?_
          refine w_ireturn rX10_publish_94 trivial ?_
          exact q
      refine w_ifne rX10_publish_62 (fun h62 => ?_) (fun h62 => ?_)
      · skip
        refine w_iload_n rX10_publish_69 rfl ?_
        refine w_ifne rX10_publish_70 (fun h => absurd h25 h) (fun _ => ?_)
        refine w_iconst rX10_publish_73 (x := 2) (by decide) ?_
        refine w_goto rX10_publish_74 ?_
        exact j62 _ (if_neg h62).symm
      · skip
        refine w_iconst rX10_publish_65 (x := 1) (by decide) ?_
        refine w_goto rX10_publish_66 ?_
        exact j62 _ (if_pos h62).symm
    · replace q := q.2 h25
      refine w_aload_n rX10_publish_28 rfl ?_
      refine w_iload_n rX10_publish_29 rfl ?_
      refine w_invokevirtual rX10_publish_30 rfl rfl rfl (Nat.le_of_ble_eq_true rfl) ⟨trivial, trivial, trivial⟩ (G_is (by decide) rfl) (by decide) (by decide) ?_
      exact q
  refine w_icmpne rX10_publish_15 (fun h15 => ?_) (fun h15 => ?_)
  · skip
    refine w_iconst rX10_publish_22 (x := 0) (by decide) ?_
    exact j15 _ (if_neg h15).symm
  · skip
    refine w_iconst rX10_publish_18 (x := 1) (by decide) ?_
    refine w_goto rX10_publish_19 ?_
    exact j15 _ (if_pos h15).symm
theorem k_X10_publish_33 {X : Nat × (Nat → Int32)} {I : Nat → Nat → Int32} {L : Nat → Nat → Int64} {F : Nat → Nat → UInt32} {Q : AQ} {x1 : Int32} {x2 : Int32} {x3 : Int32} {e0 : Int32} (q : (e0 = 0 → ∀ s62_1 : Int32, s62_1 = (if x2 = 0 then 1 else (if x3 = 0 then 2 else 3 : Int32) : Int32) → (((f_X10_holds s62_1) = 0 → Q (.inl (some (.int 0))) (G X (fI_X10_holds s62_1 I) L F)) ∧ (¬ (f_X10_holds s62_1) = 0 → vp_in ((fI_X10_holds s62_1 I) 498 5) 60 ∧ (WP mX10_publish 117 [some (.ref 498), some (.int x1), some (.int x2), some (.int x3), some (.int 0), some (.int ((fI_X10_holds s62_1 I) 498 5)), some (.int 0), none] [] (G X (am_u (fI_X10_holds s62_1 I) 502 (Int32.toNatClampNeg ((fI_X10_holds s62_1 I) 498 5)) ((fI_X10_holds s62_1 I) 498 2)) L F) 0 0 Q)))) ∧ (¬ e0 = 0 → WP mX10_resting 0 (am_ent 4 [.ref 498, .int x1]) [] (G X I L F) 0 0 (am_kq mX10_publish 44 [some (.ref 498), some (.int x1), some (.int x2), some (.int x3), none, none, none, none] [.int ((I 498 5) + 1)] (0 + am_bc mX10_resting) (0 + am_bs mX10_resting) Q))) : WP mX10_publish 33 [some (.ref 498), some (.int x1), some (.int x2), some (.int x3), none, none, none, none] [.int e0] (G X I L F) 0 0 Q := by
  refine w_ifeq rX10_publish_33 (fun h33 => ?_) (fun h33 => ?_)
  · replace q := q.1 h33
    refine w_iconst rX10_publish_57 (x := 0) (by decide) ?_
    refine w_istore rX10_publish_58 rfl trivial ?_
    refine w_aload_n rX10_publish_60 rfl ?_
    refine w_iload_n rX10_publish_61 rfl ?_
    have j62 : ∀ s62_1 : Int32, s62_1 = (if x2 = 0 then 1 else (if x3 = 0 then 2 else 3 : Int32) : Int32) → WP mX10_publish 87 [some (.ref 498), some (.int x1), some (.int x2), some (.int x3), some (.int 0), none, none, none] [.int s62_1, .ref 498] (G X I L F) 0 0 Q := by
      intro s62_1 es62_1
      replace q := q s62_1 es62_1
      refine w_invokevirtual rX10_publish_87 rfl rfl rfl (Nat.le_of_ble_eq_true rfl) ⟨trivial, trivial, trivial⟩ (G_is (by decide) rfl) (by decide) (by decide) ?_
      refine s_X10_holds ?_
      show WP mX10_publish 90 _ _ _ 0 0 _
      refine w_ifne rX10_publish_90 (fun h90 => ?_) (fun h90 => ?_)
      · replace q := q.2 h90
        refine w_aload_n rX10_publish_95 rfl ?_
        refine x_getI rX10_publish_96 rfl rfl (G_is (by decide) rfl) ?_
        refine w_istore rX10_publish_99 rfl trivial ?_
        refine w_aload_n rX10_publish_101 rfl ?_
        refine w_getR rX10_publish_102 rfl rfl (G_is (by decide) rfl) (x := 502) rfl ?_
        refine w_aload_n rX10_publish_105 rfl ?_
        refine x_getI rX10_publish_106 rfl rfl (G_is (by decide) rfl) ?_
        refine w_aload_n rX10_publish_109 rfl ?_
        refine x_getI rX10_publish_110 rfl rfl (G_is (by decide) rfl) ?_
        have h113 := q.1
        replace q := q.2
        refine x_iastore rX10_publish_113 (G_at (by decide) rfl rfl h113) ?_
        refine w_iconst rX10_publish_114 (x := 0) (by decide) ?_
        refine w_istore rX10_publish_115 rfl trivial ?_
        exact q
      · replace q := q.1 h90
        refine w_iconst rX10_publish_93 (x := 0) (by decide) ?_
        refine w_ireturn rX10_publish_94 trivial ?_
        exact q
    refine w_ifne rX10_publish_62 (fun h62 => ?_) (fun h62 => ?_)
    · skip
      refine w_iload_n rX10_publish_69 rfl ?_
      refine w_ifne rX10_publish_70 (fun h70 => ?_) (fun h70 => ?_)
      · skip
        refine w_iload rX10_publish_77 rfl ?_
        refine w_ifeq rX10_publish_79 (fun _ => ?_) (fun h => absurd (show (0 : Int32) = 0 from by decide) h)
        refine w_iconst rX10_publish_86 (x := 3) (by decide) ?_
        exact j62 _ ((if_neg h62).trans (if_neg h70)).symm
      · skip
        refine w_iconst rX10_publish_73 (x := 2) (by decide) ?_
        refine w_goto rX10_publish_74 ?_
        exact j62 _ ((if_neg h62).trans (if_pos h70)).symm
    · skip
      refine w_iconst rX10_publish_65 (x := 1) (by decide) ?_
      refine w_goto rX10_publish_66 ?_
      exact j62 _ (if_pos h62).symm
  · replace q := q.2 h33
    refine w_aload_n rX10_publish_36 rfl ?_
    refine x_getI rX10_publish_37 rfl rfl (G_is (by decide) rfl) ?_
    refine w_iconst rX10_publish_40 (x := 1) (by decide) ?_
    refine w_iadd rX10_publish_41 ?_
    refine w_aload_n rX10_publish_42 rfl ?_
    refine w_iload_n rX10_publish_43 rfl ?_
    refine w_invokevirtual rX10_publish_44 rfl rfl rfl (Nat.le_of_ble_eq_true rfl) ⟨trivial, trivial, trivial⟩ (G_is (by decide) rfl) (by decide) (by decide) ?_
    exact q
theorem k_X10_publish_47 {X : Nat × (Nat → Int32)} {I : Nat → Nat → Int32} {L : Nat → Nat → Int64} {F : Nat → Nat → UInt32} {Q : AQ} {x1 : Int32} {x2 : Int32} {x3 : Int32} {e0 : Int32} {e1 : Int32} (q : ∀ s50_0 : Int32, s50_0 = (if 60 < (e0 + e1) then 0 else 1 : Int32) → (∀ s62_1 : Int32, s62_1 = (if x2 = 0 then 1 else (if x3 = 0 then 2 else (if s50_0 = 0 then 3 else 0 : Int32) : Int32) : Int32) → (((f_X10_holds s62_1) = 0 → Q (.inl (some (.int 0))) (G X (fI_X10_holds s62_1 I) L F)) ∧ (¬ (f_X10_holds s62_1) = 0 → vp_in ((fI_X10_holds s62_1 I) 498 5) 60 ∧ (WP mX10_publish 117 [some (.ref 498), some (.int x1), some (.int x2), some (.int x3), some (.int s50_0), some (.int ((fI_X10_holds s62_1 I) 498 5)), some (.int 0), none] [] (G X (am_u (fI_X10_holds s62_1 I) 502 (Int32.toNatClampNeg ((fI_X10_holds s62_1 I) 498 5)) ((fI_X10_holds s62_1 I) 498 2)) L F) 0 0 Q))))) : WP mX10_publish 47 [some (.ref 498), some (.int x1), some (.int x2), some (.int x3), none, none, none, none] [.int e1, .int e0] (G X I L F) 0 0 Q := by
  refine w_iadd rX10_publish_47 ?_
  refine w_bipush rX10_publish_48 (x := 60) (by decide) ?_
  have j50 : ∀ s50_0 : Int32, s50_0 = (if 60 < (e0 + e1) then 0 else 1 : Int32) → WP mX10_publish 58 [some (.ref 498), some (.int x1), some (.int x2), some (.int x3), none, none, none, none] [.int s50_0] (G X I L F) 0 0 Q := by
    intro s50_0 es50_0
    replace q := q s50_0 es50_0
    refine w_istore rX10_publish_58 rfl trivial ?_
    refine w_aload_n rX10_publish_60 rfl ?_
    refine w_iload_n rX10_publish_61 rfl ?_
    have j62 : ∀ s62_1 : Int32, s62_1 = (if x2 = 0 then 1 else (if x3 = 0 then 2 else (if s50_0 = 0 then 3 else 0 : Int32) : Int32) : Int32) → WP mX10_publish 87 [some (.ref 498), some (.int x1), some (.int x2), some (.int x3), some (.int s50_0), none, none, none] [.int s62_1, .ref 498] (G X I L F) 0 0 Q := by
      intro s62_1 es62_1
      replace q := q s62_1 es62_1
      refine w_invokevirtual rX10_publish_87 rfl rfl rfl (Nat.le_of_ble_eq_true rfl) ⟨trivial, trivial, trivial⟩ (G_is (by decide) rfl) (by decide) (by decide) ?_
      refine s_X10_holds ?_
      show WP mX10_publish 90 _ _ _ 0 0 _
      refine w_ifne rX10_publish_90 (fun h90 => ?_) (fun h90 => ?_)
      · replace q := q.2 h90
        refine w_aload_n rX10_publish_95 rfl ?_
        refine x_getI rX10_publish_96 rfl rfl (G_is (by decide) rfl) ?_
        refine w_istore rX10_publish_99 rfl trivial ?_
        refine w_aload_n rX10_publish_101 rfl ?_
        refine w_getR rX10_publish_102 rfl rfl (G_is (by decide) rfl) (x := 502) rfl ?_
        refine w_aload_n rX10_publish_105 rfl ?_
        refine x_getI rX10_publish_106 rfl rfl (G_is (by decide) rfl) ?_
        refine w_aload_n rX10_publish_109 rfl ?_
        refine x_getI rX10_publish_110 rfl rfl (G_is (by decide) rfl) ?_
        have h113 := q.1
        replace q := q.2
        refine x_iastore rX10_publish_113 (G_at (by decide) rfl rfl h113) ?_
        refine w_iconst rX10_publish_114 (x := 0) (by decide) ?_
        refine w_istore rX10_publish_115 rfl trivial ?_
        exact q
      · replace q := q.1 h90
        refine w_iconst rX10_publish_93 (x := 0) (by decide) ?_
        refine w_ireturn rX10_publish_94 trivial ?_
        exact q
    refine w_ifne rX10_publish_62 (fun h62 => ?_) (fun h62 => ?_)
    · skip
      refine w_iload_n rX10_publish_69 rfl ?_
      refine w_ifne rX10_publish_70 (fun h70 => ?_) (fun h70 => ?_)
      · skip
        refine w_iload rX10_publish_77 rfl ?_
        refine w_ifeq rX10_publish_79 (fun h79 => ?_) (fun h79 => ?_)
        · skip
          refine w_iconst rX10_publish_86 (x := 3) (by decide) ?_
          exact j62 _ (((if_neg h62).trans (if_neg h70)).trans (if_pos h79)).symm
        · skip
          refine w_iconst rX10_publish_82 (x := 0) (by decide) ?_
          refine w_goto rX10_publish_83 ?_
          exact j62 _ (((if_neg h62).trans (if_neg h70)).trans (if_neg h79)).symm
      · skip
        refine w_iconst rX10_publish_73 (x := 2) (by decide) ?_
        refine w_goto rX10_publish_74 ?_
        exact j62 _ ((if_neg h62).trans (if_pos h70)).symm
    · skip
      refine w_iconst rX10_publish_65 (x := 1) (by decide) ?_
      refine w_goto rX10_publish_66 ?_
      exact j62 _ (if_pos h62).symm
  refine w_icmpgt rX10_publish_50 (fun h50 => ?_) (fun h50 => ?_)
  · skip
    refine w_iconst rX10_publish_57 (x := 0) (by decide) ?_
    exact j50 _ (if_pos h50).symm
  · skip
    refine w_iconst rX10_publish_53 (x := 1) (by decide) ?_
    refine w_goto rX10_publish_54 ?_
    exact j50 _ (if_neg h50).symm
theorem k_X10_publish_117 {X : Nat × (Nat → Int32)} {I : Nat → Nat → Int32} {L : Nat → Nat → Int64} {F : Nat → Nat → UInt32} {Q : AQ} {x1 : Int32} {x2 : Int32} {x3 : Int32} {x4 : Int32} {x5 : Int32} {x6 : Int32} (q : ((I 498 2) ≤ x6 → WP mX10_enters 0 (am_ent 4 [.ref 498, .int x1]) [] (G X I L F) 0 0 (am_kq mX10_publish 156 [some (.ref 498), some (.int x1), some (.int x2), some (.int x3), some (.int x4), some (.int x5), some (.int x6), none] [] (0 + am_bc mX10_enters) (0 + am_bs mX10_enters) Q)) ∧ (¬ (I 498 2) ≤ x6 → vp_in x6 40 ∧ (vp_in ((40 * (I 498 5)) + x6) 2400 ∧ (WP mX10_publish 117 [some (.ref 498), some (.int x1), some (.int x2), some (.int x3), some (.int x4), some (.int x5), some (.int (x6 + 1)), none] [] (G X (am_u I 503 (Int32.toNatClampNeg ((40 * (I 498 5)) + x6)) (I 499 (Int32.toNatClampNeg x6))) L F) 0 0 Q)))) : WP mX10_publish 117 [some (.ref 498), some (.int x1), some (.int x2), some (.int x3), some (.int x4), some (.int x5), some (.int x6), none] [] (G X I L F) 0 0 Q := by
  refine w_iload rX10_publish_117 rfl ?_
  refine w_aload_n rX10_publish_119 rfl ?_
  refine x_getI rX10_publish_120 rfl rfl (G_is (by decide) rfl) ?_
  refine w_icmpge rX10_publish_123 (fun h123 => ?_) (fun h123 => ?_)
  · replace q := q.1 h123
    refine w_aload_n rX10_publish_154 rfl ?_
    refine w_iload_n rX10_publish_155 rfl ?_
    refine w_invokevirtual rX10_publish_156 rfl rfl rfl (Nat.le_of_ble_eq_true rfl) ⟨trivial, trivial, trivial⟩ (G_is (by decide) rfl) (by decide) (by decide) ?_
    exact q
  · replace q := q.2 h123
    refine w_aload_n rX10_publish_126 rfl ?_
    refine w_getR rX10_publish_127 rfl rfl (G_is (by decide) rfl) (x := 503) rfl ?_
    refine w_bipush rX10_publish_130 (x := 40) (by decide) ?_
    refine w_aload_n rX10_publish_132 rfl ?_
    refine x_getI rX10_publish_133 rfl rfl (G_is (by decide) rfl) ?_
    refine w_imul rX10_publish_136 ?_
    refine w_iload rX10_publish_137 rfl ?_
    refine w_iadd rX10_publish_139 ?_
    refine w_aload_n rX10_publish_140 rfl ?_
    refine w_getR rX10_publish_141 rfl rfl (G_is (by decide) rfl) (x := 499) rfl ?_
    refine w_iload rX10_publish_144 rfl ?_
    have h146 := q.1
    replace q := q.2
    refine x_iaload rX10_publish_146 (G_at (by decide) rfl rfl h146) ?_
    have h147 := q.1
    replace q := q.2
    refine x_iastore rX10_publish_147 (G_at (by decide) rfl rfl h147) ?_
    refine w_iinc rX10_publish_148 rfl rfl trivial ?_
    refine w_goto rX10_publish_151 ?_
    exact q
theorem k_X10_publish_159 {X : Nat × (Nat → Int32)} {I : Nat → Nat → Int32} {L : Nat → Nat → Int64} {F : Nat → Nat → UInt32} {Q : AQ} {x1 : Int32} {x2 : Int32} {x3 : Int32} {x4 : Int32} {x5 : Int32} {x6 : Int32} (q : WP mX10_nextStale 0 (am_ent 5 [.ref 498]) [] (G X I L F) 0 0 (am_kq mX10_publish 160 [some (.ref 498), some (.int x1), some (.int x2), some (.int x3), some (.int x4), some (.int x5), some (.int x6), none] [] (0 + am_bc mX10_nextStale) (0 + am_bs mX10_nextStale) Q)) : WP mX10_publish 159 [some (.ref 498), some (.int x1), some (.int x2), some (.int x3), some (.int x4), some (.int x5), some (.int x6), none] [] (G X I L F) 0 0 Q := by
  refine w_aload_n rX10_publish_159 rfl ?_
  refine w_invokevirtual rX10_publish_160 rfl rfl rfl (Nat.le_of_ble_eq_true rfl) ⟨trivial, trivial⟩ (G_is (by decide) rfl) (by decide) (by decide) ?_
  exact q
theorem k_X10_publish_163 {X : Nat × (Nat → Int32)} {I : Nat → Nat → Int32} {L : Nat → Nat → Int64} {F : Nat → Nat → UInt32} {Q : AQ} {x1 : Int32} {x2 : Int32} {x3 : Int32} {x4 : Int32} {x5 : Int32} {x6 : Int32} {e0 : Int32} (q : WP mX10_publish 165 [some (.ref 498), some (.int x1), some (.int x2), some (.int x3), some (.int x4), some (.int x5), some (.int e0), none] [] (G X I L F) 0 0 Q) : WP mX10_publish 163 [some (.ref 498), some (.int x1), some (.int x2), some (.int x3), some (.int x4), some (.int x5), some (.int x6), none] [.int e0] (G X I L F) 0 0 Q := by
  refine w_istore rX10_publish_163 rfl trivial ?_
  exact q
theorem k_X10_publish_165 {X : Nat × (Nat → Int32)} {I : Nat → Nat → Int32} {L : Nat → Nat → Int64} {F : Nat → Nat → UInt32} {Q : AQ} {x1 : Int32} {x2 : Int32} {x3 : Int32} {x4 : Int32} {x5 : Int32} {x6 : Int32} {d7 : Option Value} (q : (x6 = (-1) → Q (.inl (some (.int x5))) (G X I L F)) ∧ (¬ x6 = (-1) → vp_in x6 6 ∧ (vp_in (I 505 (Int32.toNatClampNeg x6)) 60 ∧ (vp_in (I 498 5) 60 ∧ (WP mX10_publish 195 [some (.ref 498), some (.int x1), some (.int x2), some (.int x3), some (.int x4), some (.int x5), some (.int x6), some (.int 0)] [] (G X (am_u I 502 (Int32.toNatClampNeg (I 498 5)) (I 502 (Int32.toNatClampNeg (I 505 (Int32.toNatClampNeg x6))))) L F) 0 0 Q))))) : WP mX10_publish 165 [some (.ref 498), some (.int x1), some (.int x2), some (.int x3), some (.int x4), some (.int x5), some (.int x6), d7] [] (G X I L F) 0 0 Q := by
  refine w_iload rX10_publish_165 rfl ?_
  refine w_iconst rX10_publish_167 (x := -1) (by decide) ?_
  refine w_icmpeq rX10_publish_168 (fun h168 => ?_) (fun h168 => ?_)
  · replace q := q.1 h168
    refine w_iload rX10_publish_256 rfl ?_
    refine w_ireturn rX10_publish_258 trivial ?_
    exact q
  · replace q := q.2 h168
    refine w_aload_n rX10_publish_171 rfl ?_
    refine w_getR rX10_publish_172 rfl rfl (G_is (by decide) rfl) (x := 502) rfl ?_
    refine w_aload_n rX10_publish_175 rfl ?_
    refine x_getI rX10_publish_176 rfl rfl (G_is (by decide) rfl) ?_
    refine w_aload_n rX10_publish_179 rfl ?_
    refine w_getR rX10_publish_180 rfl rfl (G_is (by decide) rfl) (x := 502) rfl ?_
    refine w_aload_n rX10_publish_183 rfl ?_
    refine w_getR rX10_publish_184 rfl rfl (G_is (by decide) rfl) (x := 505) rfl ?_
    refine w_iload rX10_publish_187 rfl ?_
    have h189 := q.1
    replace q := q.2
    refine x_iaload rX10_publish_189 (G_at (by decide) rfl rfl h189) ?_
    have h190 := q.1
    replace q := q.2
    refine x_iaload rX10_publish_190 (G_at (by decide) rfl rfl h190) ?_
    have h191 := q.1
    replace q := q.2
    refine x_iastore rX10_publish_191 (G_at (by decide) rfl rfl h191) ?_
    refine w_iconst rX10_publish_192 (x := 0) (by decide) ?_
    refine w_istore rX10_publish_193 rfl trivial ?_
    exact q
theorem k_X10_publish_195 {X : Nat × (Nat → Int32)} {I : Nat → Nat → Int32} {L : Nat → Nat → Int64} {F : Nat → Nat → UInt32} {Q : AQ} {x1 : Int32} {x2 : Int32} {x3 : Int32} {x4 : Int32} {x5 : Int32} {x6 : Int32} {x7 : Int32} (q : (40 ≤ x7 → WP mX10_enters 0 (am_ent 4 [.ref 498, .int x6]) [] (G X I L F) 0 0 (am_kq mX10_publish 244 [some (.ref 498), some (.int x1), some (.int x2), some (.int x3), some (.int x4), some (.int x5), some (.int x6), some (.int x7)] [] (0 + am_bc mX10_enters) (0 + am_bs mX10_enters) Q)) ∧ (¬ 40 ≤ x7 → vp_in x6 6 ∧ (vp_in ((40 * (I 505 (Int32.toNatClampNeg x6))) + x7) 2400 ∧ (vp_in ((40 * (I 498 5)) + x7) 2400 ∧ (WP mX10_publish 195 [some (.ref 498), some (.int x1), some (.int x2), some (.int x3), some (.int x4), some (.int x5), some (.int x6), some (.int (x7 + 1))] [] (G X (am_u I 503 (Int32.toNatClampNeg ((40 * (I 498 5)) + x7)) (I 503 (Int32.toNatClampNeg ((40 * (I 505 (Int32.toNatClampNeg x6))) + x7)))) L F) 0 0 Q))))) : WP mX10_publish 195 [some (.ref 498), some (.int x1), some (.int x2), some (.int x3), some (.int x4), some (.int x5), some (.int x6), some (.int x7)] [] (G X I L F) 0 0 Q := by
  refine w_iload rX10_publish_195 rfl ?_
  refine w_bipush rX10_publish_197 (x := 40) (by decide) ?_
  refine w_icmpge rX10_publish_199 (fun h199 => ?_) (fun h199 => ?_)
  · replace q := q.1 h199
    refine w_aload_n rX10_publish_241 rfl ?_
    refine w_iload rX10_publish_242 rfl ?_
    refine w_invokevirtual rX10_publish_244 rfl rfl rfl (Nat.le_of_ble_eq_true rfl) ⟨trivial, trivial, trivial⟩ (G_is (by decide) rfl) (by decide) (by decide) ?_
    exact q
  · replace q := q.2 h199
    refine w_aload_n rX10_publish_202 rfl ?_
    refine w_getR rX10_publish_203 rfl rfl (G_is (by decide) rfl) (x := 503) rfl ?_
    refine w_bipush rX10_publish_206 (x := 40) (by decide) ?_
    refine w_aload_n rX10_publish_208 rfl ?_
    refine x_getI rX10_publish_209 rfl rfl (G_is (by decide) rfl) ?_
    refine w_imul rX10_publish_212 ?_
    refine w_iload rX10_publish_213 rfl ?_
    refine w_iadd rX10_publish_215 ?_
    refine w_aload_n rX10_publish_216 rfl ?_
    refine w_getR rX10_publish_217 rfl rfl (G_is (by decide) rfl) (x := 503) rfl ?_
    refine w_bipush rX10_publish_220 (x := 40) (by decide) ?_
    refine w_aload_n rX10_publish_222 rfl ?_
    refine w_getR rX10_publish_223 rfl rfl (G_is (by decide) rfl) (x := 505) rfl ?_
    refine w_iload rX10_publish_226 rfl ?_
    have h228 := q.1
    replace q := q.2
    refine x_iaload rX10_publish_228 (G_at (by decide) rfl rfl h228) ?_
    refine w_imul rX10_publish_229 ?_
    refine w_iload rX10_publish_230 rfl ?_
    refine w_iadd rX10_publish_232 ?_
    have h233 := q.1
    replace q := q.2
    refine x_iaload rX10_publish_233 (G_at (by decide) rfl rfl h233) ?_
    have h234 := q.1
    replace q := q.2
    refine x_iastore rX10_publish_234 (G_at (by decide) rfl rfl h234) ?_
    refine w_iinc rX10_publish_235 rfl rfl trivial ?_
    refine w_goto rX10_publish_238 ?_
    exact q
theorem k_X10_publish_247 {X : Nat × (Nat → Int32)} {I : Nat → Nat → Int32} {L : Nat → Nat → Int64} {F : Nat → Nat → UInt32} {Q : AQ} {x1 : Int32} {x2 : Int32} {x3 : Int32} {x4 : Int32} {x5 : Int32} {x6 : Int32} {x7 : Int32} (q : WP mX10_nextStale 0 (am_ent 5 [.ref 498]) [] (G X I L F) 0 0 (am_kq mX10_publish 248 [some (.ref 498), some (.int x1), some (.int x2), some (.int x3), some (.int x4), some (.int x5), some (.int x6), some (.int x7)] [] (0 + am_bc mX10_nextStale) (0 + am_bs mX10_nextStale) Q)) : WP mX10_publish 247 [some (.ref 498), some (.int x1), some (.int x2), some (.int x3), some (.int x4), some (.int x5), some (.int x6), some (.int x7)] [] (G X I L F) 0 0 Q := by
  refine w_aload_n rX10_publish_247 rfl ?_
  refine w_invokevirtual rX10_publish_248 rfl rfl rfl (Nat.le_of_ble_eq_true rfl) ⟨trivial, trivial⟩ (G_is (by decide) rfl) (by decide) (by decide) ?_
  exact q
theorem k_X10_publish_251 {X : Nat × (Nat → Int32)} {I : Nat → Nat → Int32} {L : Nat → Nat → Int64} {F : Nat → Nat → UInt32} {Q : AQ} {x1 : Int32} {x2 : Int32} {x3 : Int32} {x4 : Int32} {x5 : Int32} {x6 : Int32} {x7 : Int32} {e0 : Int32} (q : WP mX10_publish 165 [some (.ref 498), some (.int x1), some (.int x2), some (.int x3), some (.int x4), some (.int x5), some (.int e0), some (.int x7)] [] (G X I L F) 0 0 Q) : WP mX10_publish 251 [some (.ref 498), some (.int x1), some (.int x2), some (.int x3), some (.int x4), some (.int x5), some (.int x6), some (.int x7)] [.int e0] (G X I L F) 0 0 Q := by
  refine w_istore rX10_publish_251 rfl trivial ?_
  refine w_goto rX10_publish_253 ?_
  exact q
theorem k_X10_retire_0 {X : Nat × (Nat → Int32)} {I : Nat → Nat → Int32} {L : Nat → Nat → Int64} {F : Nat → Nat → UInt32} {Q : AQ} {model : Int32} (q : ((f_X10_isModel model) = 0 → ((f_X10_holds 1) = 0 → Q (.inl (some (.int 0))) (G X (fI_X10_holds 1 I) L F)) ∧ (¬ (f_X10_holds 1) = 0 → vp_in model 6 ∧ (vp_in model 6 ∧ (Q (.inl (some (.int ((fI_X10_holds 1 I) 505 (Int32.toNatClampNeg model))))) (G X (am_u (fI_X10_holds 1 I) 505 (Int32.toNatClampNeg model) (-1)) L F))))) ∧ (¬ (f_X10_isModel model) = 0 → ((I 505 (Int32.toNatClampNeg model)) = (-1) → ((f_X10_holds 2) = 0 → Q (.inl (some (.int 0))) (G X (fI_X10_holds 2 I) L F)) ∧ (¬ (f_X10_holds 2) = 0 → Q (.inl (some (.int ((fI_X10_holds 2 I) 505 (Int32.toNatClampNeg model))))) (G X (am_u (fI_X10_holds 2 I) 505 (Int32.toNatClampNeg model) (-1)) L F))) ∧ (¬ (I 505 (Int32.toNatClampNeg model)) = (-1) → WP mX10_resting 0 (am_ent 4 [.ref 498, .int model]) [] (G X I L F) 0 0 (am_kq mX10_retire 26 [some (.ref 498), some (.int model), some (.int (f_X10_isModel model)), none] [.ref 498] (0 + am_bc mX10_resting) (0 + am_bs mX10_resting) Q)))) : WP mX10_retire 0 (am_ent 4 [.ref 498, .int model]) [] (G X I L F) 0 0 Q := by
  refine w_iload_n rX10_retire_0 rfl ?_
  refine w_invokestatic rX10_retire_1 rfl rfl rfl (Nat.le_of_ble_eq_true rfl) ⟨trivial, trivial⟩ trivial (by decide) (by decide) ?_
  refine s_X10_isModel ?_
  show WP mX10_retire 4 _ _ _ 0 0 _
  refine w_istore_n rX10_retire_4 rfl trivial ?_
  refine w_aload_n rX10_retire_5 rfl ?_
  refine w_iload_n rX10_retire_6 rfl ?_
  refine w_ifne rX10_retire_7 (fun h7 => ?_) (fun h7 => ?_)
  · replace q := q.2 h7
    refine w_aload_n rX10_retire_14 rfl ?_
    refine w_getR rX10_retire_15 rfl rfl (G_is (by decide) rfl) (x := 505) rfl ?_
    refine w_iload_n rX10_retire_18 rfl ?_
    refine x_iaload rX10_retire_19 (G_at (by decide) rfl rfl (gd_X10_isModel h7)) ?_
    refine w_iconst rX10_retire_20 (x := -1) (by decide) ?_
    refine w_icmpeq rX10_retire_21 (fun h21 => ?_) (fun h21 => ?_)
    · replace q := q.1 h21
      refine w_iconst rX10_retire_32 (x := 2) (by decide) ?_
      refine w_goto rX10_retire_33 ?_
      refine w_invokevirtual rX10_retire_37 rfl rfl rfl (Nat.le_of_ble_eq_true rfl) ⟨trivial, trivial, trivial⟩ (G_is (by decide) rfl) (by decide) (by decide) ?_
      refine s_X10_holds ?_
      show WP mX10_retire 40 _ _ _ 0 0 _
      refine w_ifne rX10_retire_40 (fun h40 => ?_) (fun h40 => ?_)
      · replace q := q.2 h40
        refine w_aload_n rX10_retire_45 rfl ?_
        refine w_getR rX10_retire_46 rfl rfl (G_is (by decide) rfl) (x := 505) rfl ?_
        refine w_iload_n rX10_retire_49 rfl ?_
        refine x_iaload rX10_retire_50 (G_at (by decide) rfl rfl (gd_X10_isModel h7)) ?_
        refine w_istore_n rX10_retire_51 rfl trivial ?_
        refine w_aload_n rX10_retire_52 rfl ?_
        refine w_getR rX10_retire_53 rfl rfl (G_is (by decide) rfl) (x := 505) rfl ?_
        refine w_iload_n rX10_retire_56 rfl ?_
        refine w_iconst rX10_retire_57 (x := -1) (by decide) ?_
        refine x_iastore rX10_retire_58 (G_at (by decide) rfl rfl (gd_X10_isModel h7)) ?_
        refine w_iload_n rX10_retire_59 rfl ?_
        refine w_ireturn rX10_retire_60 trivial ?_
        exact q
      · replace q := q.1 h40
        refine w_iconst rX10_retire_43 (x := 0) (by decide) ?_
        refine w_ireturn rX10_retire_44 trivial ?_
        exact q
    · replace q := q.2 h21
      refine w_aload_n rX10_retire_24 rfl ?_
      refine w_iload_n rX10_retire_25 rfl ?_
      refine w_invokevirtual rX10_retire_26 rfl rfl rfl (Nat.le_of_ble_eq_true rfl) ⟨trivial, trivial, trivial⟩ (G_is (by decide) rfl) (by decide) (by decide) ?_
      exact q
  · replace q := q.1 h7
    refine w_iconst rX10_retire_10 (x := 1) (by decide) ?_
    refine w_goto rX10_retire_11 ?_
    refine w_invokevirtual rX10_retire_37 rfl rfl rfl (Nat.le_of_ble_eq_true rfl) ⟨trivial, trivial, trivial⟩ (G_is (by decide) rfl) (by decide) (by decide) ?_
    refine s_X10_holds ?_
    show WP mX10_retire 40 _ _ _ 0 0 _
    refine w_ifne rX10_retire_40 (fun h40 => ?_) (fun h40 => ?_)
    · replace q := q.2 h40
      refine w_aload_n rX10_retire_45 rfl ?_
      refine w_getR rX10_retire_46 rfl rfl (G_is (by decide) rfl) (x := 505) rfl ?_
      refine w_iload_n rX10_retire_49 rfl ?_
      have h50 := q.1
      replace q := q.2
      refine x_iaload rX10_retire_50 (G_at (by decide) rfl rfl h50) ?_
      refine w_istore_n rX10_retire_51 rfl trivial ?_
      refine w_aload_n rX10_retire_52 rfl ?_
      refine w_getR rX10_retire_53 rfl rfl (G_is (by decide) rfl) (x := 505) rfl ?_
      refine w_iload_n rX10_retire_56 rfl ?_
      refine w_iconst rX10_retire_57 (x := -1) (by decide) ?_
      have h58 := q.1
      replace q := q.2
      refine x_iastore rX10_retire_58 (G_at (by decide) rfl rfl h58) ?_
      refine w_iload_n rX10_retire_59 rfl ?_
      refine w_ireturn rX10_retire_60 trivial ?_
      exact q
    · replace q := q.1 h40
      refine w_iconst rX10_retire_43 (x := 0) (by decide) ?_
      refine w_ireturn rX10_retire_44 trivial ?_
      exact q
theorem k_X10_retire_29 {X : Nat × (Nat → Int32)} {I : Nat → Nat → Int32} {L : Nat → Nat → Int64} {F : Nat → Nat → UInt32} {Q : AQ} {x1 : Int32} {x2 : Int32} {e1 : Int32} (q : ∀ s29_1 : Int32, s29_1 = (if e1 ≤ 0 then 0 else 2 : Int32) → (((f_X10_holds s29_1) = 0 → Q (.inl (some (.int 0))) (G X (fI_X10_holds s29_1 I) L F)) ∧ (¬ (f_X10_holds s29_1) = 0 → vp_in x1 6 ∧ (vp_in x1 6 ∧ (Q (.inl (some (.int ((fI_X10_holds s29_1 I) 505 (Int32.toNatClampNeg x1))))) (G X (am_u (fI_X10_holds s29_1 I) 505 (Int32.toNatClampNeg x1) (-1)) L F)))))) : WP mX10_retire 29 [some (.ref 498), some (.int x1), some (.int x2), none] [.int e1, .ref 498] (G X I L F) 0 0 Q := by
  have j29 : ∀ s29_1 : Int32, s29_1 = (if e1 ≤ 0 then 0 else 2 : Int32) → WP mX10_retire 37 [some (.ref 498), some (.int x1), some (.int x2), none] [.int s29_1, .ref 498] (G X I L F) 0 0 Q := by
    intro s29_1 es29_1
    replace q := q s29_1 es29_1
    refine w_invokevirtual rX10_retire_37 rfl rfl rfl (Nat.le_of_ble_eq_true rfl) ⟨trivial, trivial, trivial⟩ (G_is (by decide) rfl) (by decide) (by decide) ?_
    refine s_X10_holds ?_
    show WP mX10_retire 40 _ _ _ 0 0 _
    refine w_ifne rX10_retire_40 (fun h40 => ?_) (fun h40 => ?_)
    · replace q := q.2 h40
      refine w_aload_n rX10_retire_45 rfl ?_
      refine w_getR rX10_retire_46 rfl rfl (G_is (by decide) rfl) (x := 505) rfl ?_
      refine w_iload_n rX10_retire_49 rfl ?_
      have h50 := q.1
      replace q := q.2
      refine x_iaload rX10_retire_50 (G_at (by decide) rfl rfl h50) ?_
      refine w_istore_n rX10_retire_51 rfl trivial ?_
      refine w_aload_n rX10_retire_52 rfl ?_
      refine w_getR rX10_retire_53 rfl rfl (G_is (by decide) rfl) (x := 505) rfl ?_
      refine w_iload_n rX10_retire_56 rfl ?_
      refine w_iconst rX10_retire_57 (x := -1) (by decide) ?_
      have h58 := q.1
      replace q := q.2
      refine x_iastore rX10_retire_58 (G_at (by decide) rfl rfl h58) ?_
      refine w_iload_n rX10_retire_59 rfl ?_
      refine w_ireturn rX10_retire_60 trivial ?_
      exact q
    · replace q := q.1 h40
      refine w_iconst rX10_retire_43 (x := 0) (by decide) ?_
      refine w_ireturn rX10_retire_44 trivial ?_
      exact q
  refine w_ifle rX10_retire_29 (fun h29 => ?_) (fun h29 => ?_)
  · skip
    refine w_iconst rX10_retire_36 (x := 0) (by decide) ?_
    exact j29 _ (if_pos h29).symm
  · skip
    refine w_iconst rX10_retire_32 (x := 2) (by decide) ?_
    refine w_goto rX10_retire_33 ?_
    exact j29 _ (if_neg h29).symm
