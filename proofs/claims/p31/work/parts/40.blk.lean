/-! own: the blocks of the methods that go round or call on, written by a program -/
set_option maxRecDepth 100000
theorem k_X1_mayHold_0 {X : Nat × (Nat × (Nat → Int32))} {I : Nat → Nat → Int32} {L : Nat → Nat → Int64} {F : Nat → Nat → UInt32} {Q : AQ} {ch : Int32} (q : (ch < 97 → (ch < 48 → WP mJ0_indexOf_0f7a4 0 (am_ent 2 [.ref 1000001, .int ch]) [] (G X I L F) 0 0 (am_kq mX1_mayHold 27 [some (.int ch)] [] (0 + am_bc mJ0_indexOf_0f7a4) (0 + am_bs mJ0_indexOf_0f7a4) Q)) ∧ (¬ ch < 48 → (ch ≤ 57 → Q (.inl (some (.int 1))) (G X I L F)) ∧ (¬ ch ≤ 57 → WP mJ0_indexOf_0f7a4 0 (am_ent 2 [.ref 1000001, .int ch]) [] (G X I L F) 0 0 (am_kq mX1_mayHold 27 [some (.int ch)] [] (0 + am_bc mJ0_indexOf_0f7a4) (0 + am_bs mJ0_indexOf_0f7a4) Q)))) ∧ (¬ ch < 97 → (ch ≤ 122 → Q (.inl (some (.int 1))) (G X I L F)) ∧ (¬ ch ≤ 122 → (ch < 48 → WP mJ0_indexOf_0f7a4 0 (am_ent 2 [.ref 1000001, .int ch]) [] (G X I L F) 0 0 (am_kq mX1_mayHold 27 [some (.int ch)] [] (0 + am_bc mJ0_indexOf_0f7a4) (0 + am_bs mJ0_indexOf_0f7a4) Q)) ∧ (¬ ch < 48 → (ch ≤ 57 → Q (.inl (some (.int 1))) (G X I L F)) ∧ (¬ ch ≤ 57 → WP mJ0_indexOf_0f7a4 0 (am_ent 2 [.ref 1000001, .int ch]) [] (G X I L F) 0 0 (am_kq mX1_mayHold 27 [some (.int ch)] [] (0 + am_bc mJ0_indexOf_0f7a4) (0 + am_bs mJ0_indexOf_0f7a4) Q)))))) : WP mX1_mayHold 0 (am_ent 1 [.int ch]) [] (G X I L F) 0 0 Q := by
  refine w_iload_n rX1_mayHold_0 rfl ?_
  refine w_bipush rX1_mayHold_1 (x := 97) (by decide) ?_
  refine w_icmplt rX1_mayHold_3 (fun h3 => ?_) (fun h3 => ?_)
  · replace q := q.1 h3
    refine w_iload_n rX1_mayHold_12 rfl ?_
    refine w_bipush rX1_mayHold_13 (x := 48) (by decide) ?_
    refine w_icmplt rX1_mayHold_15 (fun h15 => ?_) (fun h15 => ?_)
    · replace q := q.1 h15
      refine w_ldcS rX1_mayHold_24 ?_
      refine w_iload_n rX1_mayHold_26 rfl ?_
      refine w_invokevirtual rX1_mayHold_27 rfl rfl rfl (Nat.le_of_ble_eq_true rfl) ⟨trivial, trivial, trivial⟩ rfl (by decide) (by decide) ?_
      exact q
    · replace q := q.2 h15
      refine w_iload_n rX1_mayHold_18 rfl ?_
      refine w_bipush rX1_mayHold_19 (x := 57) (by decide) ?_
      refine w_icmple rX1_mayHold_21 (fun h21 => ?_) (fun h21 => ?_)
      · replace q := q.1 h21
        refine w_iconst rX1_mayHold_33 (x := 1) (by decide) ?_
        refine w_goto rX1_mayHold_34 ?_
        refine w_ireturn rX1_mayHold_38 (Or.inr rfl) ?_
        exact q
      · replace q := q.2 h21
        refine w_ldcS rX1_mayHold_24 ?_
        refine w_iload_n rX1_mayHold_26 rfl ?_
        refine w_invokevirtual rX1_mayHold_27 rfl rfl rfl (Nat.le_of_ble_eq_true rfl) ⟨trivial, trivial, trivial⟩ rfl (by decide) (by decide) ?_
        exact q
  · replace q := q.2 h3
    refine w_iload_n rX1_mayHold_6 rfl ?_
    refine w_bipush rX1_mayHold_7 (x := 122) (by decide) ?_
    refine w_icmple rX1_mayHold_9 (fun h9 => ?_) (fun h9 => ?_)
    · replace q := q.1 h9
      refine w_iconst rX1_mayHold_33 (x := 1) (by decide) ?_
      refine w_goto rX1_mayHold_34 ?_
      refine w_ireturn rX1_mayHold_38 (Or.inr rfl) ?_
      exact q
    · replace q := q.2 h9
      refine w_iload_n rX1_mayHold_12 rfl ?_
      refine w_bipush rX1_mayHold_13 (x := 48) (by decide) ?_
      refine w_icmplt rX1_mayHold_15 (fun h15 => ?_) (fun h15 => ?_)
      · replace q := q.1 h15
        refine w_ldcS rX1_mayHold_24 ?_
        refine w_iload_n rX1_mayHold_26 rfl ?_
        refine w_invokevirtual rX1_mayHold_27 rfl rfl rfl (Nat.le_of_ble_eq_true rfl) ⟨trivial, trivial, trivial⟩ rfl (by decide) (by decide) ?_
        exact q
      · replace q := q.2 h15
        refine w_iload_n rX1_mayHold_18 rfl ?_
        refine w_bipush rX1_mayHold_19 (x := 57) (by decide) ?_
        refine w_icmple rX1_mayHold_21 (fun h21 => ?_) (fun h21 => ?_)
        · replace q := q.1 h21
          refine w_iconst rX1_mayHold_33 (x := 1) (by decide) ?_
          refine w_goto rX1_mayHold_34 ?_
          refine w_ireturn rX1_mayHold_38 (Or.inr rfl) ?_
          exact q
        · replace q := q.2 h21
          refine w_ldcS rX1_mayHold_24 ?_
          refine w_iload_n rX1_mayHold_26 rfl ?_
          refine w_invokevirtual rX1_mayHold_27 rfl rfl rfl (Nat.le_of_ble_eq_true rfl) ⟨trivial, trivial, trivial⟩ rfl (by decide) (by decide) ?_
          exact q
theorem k_X1_mayHold_30 {X : Nat × (Nat × (Nat → Int32))} {I : Nat → Nat → Int32} {L : Nat → Nat → Int64} {F : Nat → Nat → UInt32} {Q : AQ} {x0 : Int32} {e0 : Int32} (q : ∀ s30_0 : Int32, s30_0 = (if e0 < 0 then 0 else 1 : Int32) → ((s30_0 = 0 ∨ s30_0 = 1) ∧ (Q (.inl (some (.int s30_0))) (G X I L F)))) : WP mX1_mayHold 30 [some (.int x0)] [.int e0] (G X I L F) 0 0 Q := by
  have j30 : ∀ s30_0 : Int32, s30_0 = (if e0 < 0 then 0 else 1 : Int32) → WP mX1_mayHold 38 [some (.int x0)] [.int s30_0] (G X I L F) 0 0 Q := by
    intro s30_0 es30_0
    replace q := q s30_0 es30_0
    have z38 := q.1
    replace q := q.2
    refine w_ireturn rX1_mayHold_38 z38 ?_
    exact q
  refine w_iflt rX1_mayHold_30 (fun h30 => ?_) (fun h30 => ?_)
  · skip
    refine w_iconst rX1_mayHold_37 (x := 0) (by decide) ?_
    exact j30 _ (if_pos h30).symm
  · skip
    refine w_iconst rX1_mayHold_33 (x := 1) (by decide) ?_
    refine w_goto rX1_mayHold_34 ?_
    exact j30 _ (if_neg h30).symm
theorem k_X2_copy_0 {X : Nat × (Nat × (Nat → Int32))} {I : Nat → Nat → Int32} {L : Nat → Nat → Int64} {F : Nat → Nat → UInt32} {Q : AQ} {o : Nat} {p : Nat} (ho : isFor o) (hp : isFor p) (q : WP mX2_copy 2 [some (.ref o), some (.ref p), some (.int 0)] [] (G X I L F) 0 0 Q) : WP mX2_copy 0 (am_ent 3 [.ref o, .ref p]) [] (G X I L F) 0 0 Q := by
  refine w_iconst rX2_copy_0 (x := 0) (by decide) ?_
  refine w_istore_n rX2_copy_1 rfl trivial ?_
  exact q
theorem k_X2_copy_2 {X : Nat × (Nat × (Nat → Int32))} {I : Nat → Nat → Int32} {L : Nat → Nat → Int64} {F : Nat → Nat → UInt32} {Q : AQ} {o0 : Nat} {o1 : Nat} {x2 : Int32} (ho0 : isFor o0) (ho1 : isFor o1) (q : (40 ≤ x2 → Q (.inl none) (G X (am_u (am_u (am_u I o0 2 (I o1 2)) o0 3 ((am_u I o0 2 (I o1 2)) o1 3)) o0 4 ((am_u (am_u I o0 2 (I o1 2)) o0 3 ((am_u I o0 2 (I o1 2)) o1 3)) o1 4)) L F)) ∧ (¬ 40 ≤ x2 → vp_in x2 40 ∧ (vp_in x2 40 ∧ (vp_in x2 40 ∧ (vp_in x2 40 ∧ (WP mX2_copy 2 [some (.ref o0), some (.ref o1), some (.int (x2 + 1))] [] (G X (am_u (am_u I (o0 + 1) (Int32.toNatClampNeg x2) (I (o1 + 1) (Int32.toNatClampNeg x2))) (o0 + 2) (Int32.toNatClampNeg x2) ((am_u I (o0 + 1) (Int32.toNatClampNeg x2) (I (o1 + 1) (Int32.toNatClampNeg x2))) (o1 + 2) (Int32.toNatClampNeg x2))) L F) 0 0 Q)))))) : WP mX2_copy 2 [some (.ref o0), some (.ref o1), some (.int x2)] [] (G X I L F) 0 0 Q := by
  refine w_iload_n rX2_copy_2 rfl ?_
  refine w_bipush rX2_copy_3 (x := 40) (by decide) ?_
  refine w_icmpge rX2_copy_5 (fun h5 => ?_) (fun h5 => ?_)
  · replace q := q.1 h5
    refine w_aload_n rX2_copy_38 rfl ?_
    refine w_aload_n rX2_copy_39 rfl ?_
    refine x_getI rX2_copy_40 rfl rfl (G_isk ho1.1) ?_
    refine x_putI rX2_copy_43 rfl (G_isk ho0.1) trivial ?_
    refine w_aload_n rX2_copy_46 rfl ?_
    refine w_aload_n rX2_copy_47 rfl ?_
    refine x_getI rX2_copy_48 rfl rfl (G_isk ho1.1) ?_
    refine x_putI rX2_copy_51 rfl (G_isk ho0.1) trivial ?_
    refine w_aload_n rX2_copy_54 rfl ?_
    refine w_aload_n rX2_copy_55 rfl ?_
    refine x_getI rX2_copy_56 rfl rfl (G_isk ho1.1) ?_
    refine x_putI rX2_copy_59 rfl (G_isk ho0.1) trivial ?_
    refine w_return rX2_copy_62 ?_
    exact q
  · replace q := q.2 h5
    refine w_aload_n rX2_copy_8 rfl ?_
    refine w_getR rX2_copy_9 rfl rfl (G_isk ho0.1) ho0.2.1 ?_
    refine w_iload_n rX2_copy_12 rfl ?_
    refine w_aload_n rX2_copy_13 rfl ?_
    refine w_getR rX2_copy_14 rfl rfl (G_isk ho1.1) ho1.2.1 ?_
    refine w_iload_n rX2_copy_17 rfl ?_
    have h18 := q.1
    replace q := q.2
    refine x_iaload rX2_copy_18 (G_atk ho1.2.2.2.1 h18) ?_
    have h19 := q.1
    replace q := q.2
    refine x_iastore rX2_copy_19 (G_atk ho0.2.2.2.1 h19) ?_
    refine w_aload_n rX2_copy_20 rfl ?_
    refine w_getR rX2_copy_21 rfl rfl (G_isk ho0.1) ho0.2.2.1 ?_
    refine w_iload_n rX2_copy_24 rfl ?_
    refine w_aload_n rX2_copy_25 rfl ?_
    refine w_getR rX2_copy_26 rfl rfl (G_isk ho1.1) ho1.2.2.1 ?_
    refine w_iload_n rX2_copy_29 rfl ?_
    have h30 := q.1
    replace q := q.2
    refine x_iaload rX2_copy_30 (G_atk ho1.2.2.2.2 h30) ?_
    have h31 := q.1
    replace q := q.2
    refine x_iastore rX2_copy_31 (G_atk ho0.2.2.2.2 h31) ?_
    refine w_iinc rX2_copy_32 rfl rfl trivial ?_
    refine w_goto rX2_copy_35 ?_
    exact q
theorem k_X3_read_0 {X : Nat × (Nat × (Nat → Int32))} {I : Nat → Nat → Int32} {L : Nat → Nat → Int64} {F : Nat → Nat → UInt32} {Q : AQ} {asRule : Int32} (q : (asRule = 0 ∨ asRule = 1) ∧ (WP mX3_read 24 [some (.ref 3), some (.ref 1), some (.int asRule), some (.int 0)] [] (G X (am_u (am_u (am_u (fI_X2_clear 4 I) 3 3 0) 3 4 0) 3 5 asRule) L F) 0 0 Q)) : WP mX3_read 0 (am_ent 4 [.ref 3, .ref 1, .int asRule]) [] (G X I L F) 0 0 Q := by
  refine w_aload_n rX3_read_0 rfl ?_
  refine w_getR rX3_read_1 rfl rfl (G_is (by decide) rfl) (x := 4) rfl ?_
  refine w_invokevirtual rX3_read_4 rfl rfl rfl (Nat.le_of_ble_eq_true rfl) ⟨trivial, trivial⟩ (G_is (by decide) rfl) (by decide) (by decide) ?_
  refine s_X2_clear isFor_4 ?_
  show WP mX3_read 7 _ _ _ 0 0 _
  refine w_aload_n rX3_read_7 rfl ?_
  refine w_iconst rX3_read_8 (x := 0) (by decide) ?_
  refine x_putI rX3_read_9 rfl (G_is (by decide) rfl) trivial ?_
  refine w_aload_n rX3_read_12 rfl ?_
  refine w_iconst rX3_read_13 (x := 0) (by decide) ?_
  refine x_putI rX3_read_14 rfl (G_is (by decide) rfl) trivial ?_
  refine w_aload_n rX3_read_17 rfl ?_
  refine w_iload_n rX3_read_18 rfl ?_
  have z19 := q.1
  replace q := q.2
  refine x_putI rX3_read_19 rfl (G_is (by decide) rfl) z19 ?_
  refine w_iconst rX3_read_22 (x := 0) (by decide) ?_
  refine w_istore_n rX3_read_23 rfl trivial ?_
  exact q
theorem k_X3_read_24 {X : Nat × (Nat × (Nat → Int32))} {I : Nat → Nat → Int32} {L : Nat → Nat → Int64} {F : Nat → Nat → UInt32} {Q : AQ} {x2 : Int32} {x3 : Int32} (q : ((I 1 1) ≤ x3 → WP mX3_settle 0 (am_ent 2 [.ref 3, .int 1]) [] (G X (fI_X3_endNumber I) L F) 0 0 (am_kq mX3_read 68 [some (.ref 3), some (.ref 1), some (.int x2), some (.int x3)] [] (0 + am_bc mX3_settle) (0 + am_bs mX3_settle) Q)) ∧ (¬ (I 1 1) ≤ x3 → (40 ≤ x3 → WP mX3_settle 0 (am_ent 2 [.ref 3, .int 1]) [] (G X (fI_X3_endNumber I) L F) 0 0 (am_kq mX3_read 68 [some (.ref 3), some (.ref 1), some (.int x2), some (.int x3)] [] (0 + am_bc mX3_settle) (0 + am_bs mX3_settle) Q)) ∧ (¬ 40 ≤ x3 → vp_in x3 40 ∧ (WP mX3_takes 0 (am_ent 3 [.ref 3, .int (I 2 (Int32.toNatClampNeg x3))]) [] (G X I L F) 0 0 (am_kq mX3_read 48 [some (.ref 3), some (.ref 1), some (.int x2), some (.int x3)] [] (0 + am_bc mX3_takes) (0 + am_bs mX3_takes) Q))))) : WP mX3_read 24 [some (.ref 3), some (.ref 1), some (.int x2), some (.int x3)] [] (G X I L F) 0 0 Q := by
  refine w_iload_n rX3_read_24 rfl ?_
  refine w_aload_n rX3_read_25 rfl ?_
  refine x_getI rX3_read_26 rfl rfl (G_is (by decide) rfl) ?_
  refine w_icmpge rX3_read_29 (fun h29 => ?_) (fun h29 => ?_)
  · replace q := q.1 h29
    refine w_aload_n rX3_read_62 rfl ?_
    refine w_invokevirtual rX3_read_63 rfl rfl rfl (Nat.le_of_ble_eq_true rfl) ⟨trivial, trivial⟩ (G_is (by decide) rfl) (by decide) (by decide) ?_
    refine s_X3_endNumber ?_
    show WP mX3_read 66 _ _ _ 0 0 _
    refine w_aload_n rX3_read_66 rfl ?_
    refine w_iconst rX3_read_67 (x := 1) (by decide) ?_
    refine w_invokevirtual rX3_read_68 rfl rfl rfl (Nat.le_of_ble_eq_true rfl) ⟨trivial, trivial, trivial⟩ (G_is (by decide) rfl) (by decide) (by decide) ?_
    exact q
  · replace q := q.2 h29
    refine w_iload_n rX3_read_32 rfl ?_
    refine w_aload_n rX3_read_33 rfl ?_
    refine w_getR rX3_read_34 rfl rfl (G_is (by decide) rfl) (x := 2) rfl ?_
    refine G_lenc rX3_read_37 (by decide) rfl (n := 40) rfl (x := 40) (by decide) ?_
    refine w_icmpge rX3_read_38 (fun h38 => ?_) (fun h38 => ?_)
    · replace q := q.1 h38
      refine w_aload_n rX3_read_62 rfl ?_
      refine w_invokevirtual rX3_read_63 rfl rfl rfl (Nat.le_of_ble_eq_true rfl) ⟨trivial, trivial⟩ (G_is (by decide) rfl) (by decide) (by decide) ?_
      refine s_X3_endNumber ?_
      show WP mX3_read 66 _ _ _ 0 0 _
      refine w_aload_n rX3_read_66 rfl ?_
      refine w_iconst rX3_read_67 (x := 1) (by decide) ?_
      refine w_invokevirtual rX3_read_68 rfl rfl rfl (Nat.le_of_ble_eq_true rfl) ⟨trivial, trivial, trivial⟩ (G_is (by decide) rfl) (by decide) (by decide) ?_
      exact q
    · replace q := q.2 h38
      refine w_aload_n rX3_read_41 rfl ?_
      refine w_aload_n rX3_read_42 rfl ?_
      refine w_getR rX3_read_43 rfl rfl (G_is (by decide) rfl) (x := 2) rfl ?_
      refine w_iload_n rX3_read_46 rfl ?_
      have h47 := q.1
      replace q := q.2
      refine x_caload rX3_read_47 (G_at (by decide) rfl rfl h47) ?_
      refine w_invokevirtual rX3_read_48 rfl rfl rfl (Nat.le_of_ble_eq_true rfl) ⟨trivial, trivial, trivial⟩ (G_is (by decide) rfl) (by decide) (by decide) ?_
      exact q
theorem k_X3_read_51 {X : Nat × (Nat × (Nat → Int32))} {I : Nat → Nat → Int32} {L : Nat → Nat → Int64} {F : Nat → Nat → UInt32} {Q : AQ} {x2 : Int32} {x3 : Int32} {e0 : Int32} (q : (e0 = 0 → Q (.inl (some (.int x3))) (G X I L F)) ∧ (¬ e0 = 0 → WP mX3_read 24 [some (.ref 3), some (.ref 1), some (.int x2), some (.int (x3 + 1))] [] (G X I L F) 0 0 Q)) : WP mX3_read 51 [some (.ref 3), some (.ref 1), some (.int x2), some (.int x3)] [.int e0] (G X I L F) 0 0 Q := by
  refine w_ifne rX3_read_51 (fun h51 => ?_) (fun h51 => ?_)
  · replace q := q.2 h51
    refine w_iinc rX3_read_56 rfl rfl trivial ?_
    refine w_goto rX3_read_59 ?_
    exact q
  · replace q := q.1 h51
    refine w_iload_n rX3_read_54 rfl ?_
    refine w_ireturn rX3_read_55 trivial ?_
    exact q
theorem k_X3_read_71 {X : Nat × (Nat × (Nat → Int32))} {I : Nat → Nat → Int32} {L : Nat → Nat → Int64} {F : Nat → Nat → UInt32} {Q : AQ} {x2 : Int32} {x3 : Int32} (q : ∀ s77_0 : Int32, s77_0 = (if (I 3 4) = 6 then (if (I 3 3) = 0 then (-1) else (I 1 1) : Int32) else (I 1 1) : Int32) → (Q (.inl (some (.int s77_0))) (G X I L F))) : WP mX3_read 71 [some (.ref 3), some (.ref 1), some (.int x2), some (.int x3)] [] (G X I L F) 0 0 Q := by
  refine w_aload_n rX3_read_71 rfl ?_
  refine x_getI rX3_read_72 rfl rfl (G_is (by decide) rfl) ?_
  refine w_bipush rX3_read_75 (x := 6) (by decide) ?_
  have j77 : ∀ s77_0 : Int32, s77_0 = (if (I 3 4) = 6 then (if (I 3 3) = 0 then (-1) else (I 1 1) : Int32) else (I 1 1) : Int32) → WP mX3_read 95 [some (.ref 3), some (.ref 1), some (.int x2), some (.int x3)] [.int s77_0] (G X I L F) 0 0 Q := by
    intro s77_0 es77_0
    replace q := q s77_0 es77_0
    refine w_ireturn rX3_read_95 trivial ?_
    exact q
  refine w_icmpne rX3_read_77 (fun h77 => ?_) (fun h77 => ?_)
  · skip
    refine w_aload_n rX3_read_91 rfl ?_
    refine x_getI rX3_read_92 rfl rfl (G_is (by decide) rfl) ?_
    exact j77 _ (if_neg h77).symm
  · skip
    refine w_aload_n rX3_read_80 rfl ?_
    refine x_getI rX3_read_81 rfl rfl (G_is (by decide) rfl) ?_
    refine w_ifne rX3_read_84 (fun h84 => ?_) (fun h84 => ?_)
    · skip
      refine w_aload_n rX3_read_91 rfl ?_
      refine x_getI rX3_read_92 rfl rfl (G_is (by decide) rfl) ?_
      exact j77 _ ((if_pos h77).trans (if_neg h84)).symm
    · skip
      refine w_iconst rX3_read_87 (x := -1) (by decide) ?_
      refine w_goto rX3_read_88 ?_
      exact j77 _ ((if_pos h77).trans (if_pos h84)).symm
theorem k_X3_takes_0 {X : Nat × (Nat × (Nat → Int32))} {I : Nat → Nat → Int32} {L : Nat → Nat → Int64} {F : Nat → Nat → UInt32} {Q : AQ} {ch : Int32} (q : ∀ s3_0 : Int32, s3_0 = (if ch < 48 then (-1) else (if 57 < ch then (-1) else (ch - 48) : Int32) : Int32) → (((I 3 4) = 0 → ∀ I62 : Nat → Nat → Int32, I62 = (if s3_0 = (-1) then (fI_X3_startsFactor ch I) else (fI_X3_startsNumber s3_0 I) : Nat → Nat → Int32) → ∀ s62_0 : Int32, s62_0 = (if s3_0 = (-1) then (f_X3_startsFactor ch I) else 1 : Int32) → ((s62_0 = 0 ∨ s62_0 = 1) ∧ (Q (.inl (some (.int s62_0))) (G X I62 L F)))) ∧ (¬ (I 3 4) = 0 → ((I 3 4) = 4 → ∀ I98 : Nat → Nat → Int32, I98 = (if s3_0 = (-1) then I else (if (I 3 9) ≤ s3_0 then I else (fI_X3_endsName ((I 3 8) + s3_0) I) : Nat → Nat → Int32) : Nat → Nat → Int32) → ∀ s98_0 : Int32, s98_0 = (if s3_0 = (-1) then 0 else (if (I 3 9) ≤ s3_0 then 0 else 1 : Int32) : Int32) → ((s98_0 = 0 ∨ s98_0 = 1) ∧ (Q (.inl (some (.int s98_0))) (G X I98 L F)))) ∧ (¬ (I 3 4) = 4 → ((I 3 4) = 5 → ∀ s87_0 : Int32, s87_0 = (if ch = 40 then 1 else 0 : Int32) → ((s87_0 = 0 ∨ s87_0 = 1) ∧ (Q (.inl (some (.int s87_0))) (G X (am_u I 3 4 0) L F)))) ∧ (¬ (I 3 4) = 5 → (s3_0 = (-1) → WP mX3_goesOn 0 (am_ent 2 [.ref 3, .int ch]) [] (G X I L F) 0 0 (am_kq mX3_takes 143 [some (.ref 3), some (.int ch), some (.int s3_0)] [] (0 + am_bc mX3_goesOn) (0 + am_bs mX3_goesOn) Q)) ∧ (¬ s3_0 = (-1) → WP mX3_takes 146 [some (.ref 3), some (.int ch), some (.int s3_0)] [.int (f_X3_takesFigure s3_0 I)] (G X (fI_X3_takesFigure s3_0 I) L F) 0 0 Q)))))) : WP mX3_takes 0 (am_ent 3 [.ref 3, .int ch]) [] (G X I L F) 0 0 Q := by
  refine w_iload_n rX3_takes_0 rfl ?_
  refine w_bipush rX3_takes_1 (x := 48) (by decide) ?_
  have j3 : ∀ s3_0 : Int32, s3_0 = (if ch < 48 then (-1) else (if 57 < ch then (-1) else (ch - 48) : Int32) : Int32) → WP mX3_takes 20 [some (.ref 3), some (.int ch), none] [.int s3_0] (G X I L F) 0 0 Q := by
    intro s3_0 es3_0
    replace q := q s3_0 es3_0
    refine w_istore_n rX3_takes_20 rfl trivial ?_
    refine w_aload_n rX3_takes_21 rfl ?_
    refine x_getI rX3_takes_22 rfl rfl (G_is (by decide) rfl) ?_
    refine w_lsw rX3_takes_25 ?_
    refine ⟨fun h25_0 => ?_, fun h25_0 => ?_⟩
    · replace q := q.1 h25_0
      refine w_iload_n rX3_takes_60 rfl ?_
      refine w_iconst rX3_takes_61 (x := -1) (by decide) ?_
      have j62 : ∀ I62 : Nat → Nat → Int32, I62 = (if s3_0 = (-1) then (fI_X3_startsFactor ch I) else (fI_X3_startsNumber s3_0 I) : Nat → Nat → Int32) → ∀ s62_0 : Int32, s62_0 = (if s3_0 = (-1) then (f_X3_startsFactor ch I) else 1 : Int32) → WP mX3_takes 78 [some (.ref 3), some (.int ch), some (.int s3_0)] [.int s62_0] (G X I62 L F) 0 0 Q := by
        intro I62 eI62 s62_0 es62_0
        replace q := q I62 eI62 s62_0 es62_0
        have z78 := q.1
        replace q := q.2
        refine w_ireturn rX3_takes_78 z78 ?_
        exact q
      refine w_icmpeq rX3_takes_62 (fun h62 => ?_) (fun h62 => ?_)
      · skip
        refine w_aload_n rX3_takes_73 rfl ?_
        refine w_iload_n rX3_takes_74 rfl ?_
        refine w_invokevirtual rX3_takes_75 rfl rfl rfl (Nat.le_of_ble_eq_true rfl) ⟨trivial, trivial, trivial⟩ (G_is (by decide) rfl) (by decide) (by decide) ?_
        refine s_X3_startsFactor ?_
        show WP mX3_takes 78 _ _ _ 0 0 _
        exact j62 _ (if_pos h62).symm _ (if_pos h62).symm
      · skip
        refine w_aload_n rX3_takes_65 rfl ?_
        refine w_iload_n rX3_takes_66 rfl ?_
        refine w_invokevirtual rX3_takes_67 rfl rfl rfl (Nat.le_of_ble_eq_true rfl) ⟨trivial, trivial, trivial⟩ (G_is (by decide) rfl) (by decide) (by decide) ?_
        refine s_X3_startsNumber ?_
        show WP mX3_takes 70 _ _ _ 0 0 _
        refine w_goto rX3_takes_70 ?_
        exact j62 _ (if_neg h62).symm _ (if_neg h62).symm
    · replace q := q.2 h25_0
      refine ⟨fun h25_1 => ?_, fun h25_1 => ?_⟩
      · replace q := q.1 h25_1
        refine w_iload_n rX3_takes_96 rfl ?_
        refine w_iconst rX3_takes_97 (x := -1) (by decide) ?_
        have j98 : ∀ I98 : Nat → Nat → Int32, I98 = (if s3_0 = (-1) then I else (if (I 3 9) ≤ s3_0 then I else (fI_X3_endsName ((I 3 8) + s3_0) I) : Nat → Nat → Int32) : Nat → Nat → Int32) → ∀ s98_0 : Int32, s98_0 = (if s3_0 = (-1) then 0 else (if (I 3 9) ≤ s3_0 then 0 else 1 : Int32) : Int32) → WP mX3_takes 127 [some (.ref 3), some (.int ch), some (.int s3_0)] [.int s98_0] (G X I98 L F) 0 0 Q := by
          intro I98 eI98 s98_0 es98_0
          replace q := q I98 eI98 s98_0 es98_0
          have z127 := q.1
          replace q := q.2
          refine w_ireturn rX3_takes_127 z127 ?_
          exact q
        refine w_icmpeq rX3_takes_98 (fun h98 => ?_) (fun h98 => ?_)
        · skip
          refine w_iconst rX3_takes_126 (x := 0) (by decide) ?_
          exact j98 _ (if_pos h98).symm _ (if_pos h98).symm
        · skip
          refine w_iload_n rX3_takes_101 rfl ?_
          refine w_aload_n rX3_takes_102 rfl ?_
          refine x_getI rX3_takes_103 rfl rfl (G_is (by decide) rfl) ?_
          refine w_icmpge rX3_takes_106 (fun h106 => ?_) (fun h106 => ?_)
          · skip
            refine w_iconst rX3_takes_126 (x := 0) (by decide) ?_
            exact j98 _ ((if_neg h98).trans (if_pos h106)).symm _ ((if_neg h98).trans (if_pos h106)).symm
          · skip
            refine w_aload_n rX3_takes_109 rfl ?_
            refine w_aload_n rX3_takes_110 rfl ?_
            refine x_getI rX3_takes_111 rfl rfl (G_is (by decide) rfl) ?_
            refine w_iload_n rX3_takes_114 rfl ?_
            refine w_iadd rX3_takes_115 ?_
            refine w_invokevirtual rX3_takes_116 rfl rfl rfl (Nat.le_of_ble_eq_true rfl) ⟨trivial, trivial, trivial⟩ (G_is (by decide) rfl) (by decide) (by decide) ?_
            refine s_X3_endsName ?_
            show WP mX3_takes 119 _ _ _ 0 0 _
            refine w_ifeq rX3_takes_119 (fun h => absurd h (show ¬ (1 : Int32) = 0 from by decide)) (fun _ => ?_)
            refine w_iconst rX3_takes_122 (x := 1) (by decide) ?_
            refine w_goto rX3_takes_123 ?_
            exact j98 _ ((if_neg h98).trans (if_neg h106)).symm _ ((if_neg h98).trans (if_neg h106)).symm
      · replace q := q.2 h25_1
        refine ⟨fun h25_2 => ?_, fun h25_2 => ?_⟩
        · replace q := q.1 h25_2
          refine w_aload_n rX3_takes_79 rfl ?_
          refine w_iconst rX3_takes_80 (x := 0) (by decide) ?_
          refine x_putI rX3_takes_81 rfl (G_is (by decide) rfl) trivial ?_
          refine w_iload_n rX3_takes_84 rfl ?_
          refine w_bipush rX3_takes_85 (x := 40) (by decide) ?_
          have j87 : ∀ s87_0 : Int32, s87_0 = (if ch = 40 then 1 else 0 : Int32) → WP mX3_takes 95 [some (.ref 3), some (.int ch), some (.int s3_0)] [.int s87_0] (G X (am_u I 3 4 0) L F) 0 0 Q := by
            intro s87_0 es87_0
            replace q := q s87_0 es87_0
            have z95 := q.1
            replace q := q.2
            refine w_ireturn rX3_takes_95 z95 ?_
            exact q
          refine w_icmpne rX3_takes_87 (fun h87 => ?_) (fun h87 => ?_)
          · skip
            refine w_iconst rX3_takes_94 (x := 0) (by decide) ?_
            exact j87 _ (if_neg h87).symm
          · skip
            refine w_iconst rX3_takes_90 (x := 1) (by decide) ?_
            refine w_goto rX3_takes_91 ?_
            exact j87 _ (if_pos h87).symm
        · replace q := q.2 h25_2
          refine w_iload_n rX3_takes_128 rfl ?_
          refine w_iconst rX3_takes_129 (x := -1) (by decide) ?_
          refine w_icmpeq rX3_takes_130 (fun h130 => ?_) (fun h130 => ?_)
          · replace q := q.1 h130
            refine w_aload_n rX3_takes_141 rfl ?_
            refine w_iload_n rX3_takes_142 rfl ?_
            refine w_invokevirtual rX3_takes_143 rfl rfl rfl (Nat.le_of_ble_eq_true rfl) ⟨trivial, trivial, trivial⟩ (G_is (by decide) rfl) (by decide) (by decide) ?_
            exact q
          · replace q := q.2 h130
            refine w_aload_n rX3_takes_133 rfl ?_
            refine w_iload_n rX3_takes_134 rfl ?_
            refine w_invokevirtual rX3_takes_135 rfl rfl rfl (Nat.le_of_ble_eq_true rfl) ⟨trivial, trivial, trivial⟩ (G_is (by decide) rfl) (by decide) (by decide) ?_
            refine s_X3_takesFigure ?_
            show WP mX3_takes 138 _ _ _ 0 0 _
            refine w_goto rX3_takes_138 ?_
            exact q
  refine w_icmplt rX3_takes_3 (fun h3 => ?_) (fun h3 => ?_)
  · skip
    refine w_iconst rX3_takes_19 (x := -1) (by decide) ?_
    exact j3 _ (if_pos h3).symm
  · skip
    refine w_iload_n rX3_takes_6 rfl ?_
    refine w_bipush rX3_takes_7 (x := 57) (by decide) ?_
    refine w_icmpgt rX3_takes_9 (fun h9 => ?_) (fun h9 => ?_)
    · skip
      refine w_iconst rX3_takes_19 (x := -1) (by decide) ?_
      exact j3 _ ((if_neg h3).trans (if_pos h9)).symm
    · skip
      refine w_iload_n rX3_takes_12 rfl ?_
      refine w_bipush rX3_takes_13 (x := 48) (by decide) ?_
      refine w_isub rX3_takes_15 ?_
      refine w_goto rX3_takes_16 ?_
      exact j3 _ ((if_neg h3).trans (if_neg h9)).symm
theorem k_X3_takes_146 {X : Nat × (Nat × (Nat → Int32))} {I : Nat → Nat → Int32} {L : Nat → Nat → Int64} {F : Nat → Nat → UInt32} {Q : AQ} {x1 : Int32} {x2 : Int32} {e0 : Int32} (q : (e0 = 0 ∨ e0 = 1) ∧ (Q (.inl (some (.int e0))) (G X I L F))) : WP mX3_takes 146 [some (.ref 3), some (.int x1), some (.int x2)] [.int e0] (G X I L F) 0 0 Q := by
  have z146 := q.1
  replace q := q.2
  refine w_ireturn rX3_takes_146 z146 ?_
  exact q
theorem k_X3_goesOn_0 {X : Nat × (Nat × (Nat → Int32))} {I : Nat → Nat → Int32} {L : Nat → Nat → Int64} {F : Nat → Nat → UInt32} {Q : AQ} {ch : Int32} (q : ((I 3 4) = 1 → (ch = 46 → Q (.inl (some (.int 1))) (G X (am_u I 3 4 2) L F)) ∧ (¬ ch = 46 → (((fI_X3_endNumber I) 3 4) = 6 → (ch = 41 → WP mX3_takesBracket 0 (am_ent 2 [.ref 3]) [] (G X (fI_X3_endNumber I) L F) 0 0 (am_kq mX3_goesOn 114 [some (.ref 3), some (.int ch)] [] (0 + am_bc mX3_takesBracket) (0 + am_bs mX3_takesBracket) Q)) ∧ (¬ ch = 41 → (ch = 42 → WP mX3_operates 0 (am_ent 3 [.ref 3, .int 4, .int 2]) [] (G X (fI_X3_endNumber I) L F) 0 0 (am_kq mX3_goesOn 97 [some (.ref 3), some (.int ch)] [] (0 + am_bc mX3_operates) (0 + am_bs mX3_operates) Q)) ∧ (¬ ch = 42 → (ch = 43 → WP mX3_operates 0 (am_ent 3 [.ref 3, .int 2, .int 1]) [] (G X (fI_X3_endNumber I) L F) 0 0 (am_kq mX3_goesOn 83 [some (.ref 3), some (.int ch)] [] (0 + am_bc mX3_operates) (0 + am_bs mX3_operates) Q)) ∧ (¬ ch = 43 → (ch = 44 → WP mX3_takesComma 0 (am_ent 2 [.ref 3]) [] (G X (fI_X3_endNumber I) L F) 0 0 (am_kq mX3_goesOn 109 [some (.ref 3), some (.int ch)] [] (0 + am_bc mX3_takesComma) (0 + am_bs mX3_takesComma) Q)) ∧ (¬ ch = 44 → (ch = 45 → WP mX3_operates 0 (am_ent 3 [.ref 3, .int 3, .int 1]) [] (G X (fI_X3_endNumber I) L F) 0 0 (am_kq mX3_goesOn 90 [some (.ref 3), some (.int ch)] [] (0 + am_bc mX3_operates) (0 + am_bs mX3_operates) Q)) ∧ (¬ ch = 45 → (ch = 46 → Q (.inl (some (.int 0))) (G X (fI_X3_endNumber I) L F)) ∧ (¬ ch = 46 → (ch = 47 → WP mX3_operates 0 (am_ent 3 [.ref 3, .int 5, .int 2]) [] (G X (fI_X3_endNumber I) L F) 0 0 (am_kq mX3_goesOn 104 [some (.ref 3), some (.int ch)] [] (0 + am_bc mX3_operates) (0 + am_bs mX3_operates) Q)) ∧ (¬ ch = 47 → Q (.inl (some (.int 0))) (G X (fI_X3_endNumber I) L F))))))))) ∧ (¬ ((fI_X3_endNumber I) 3 4) = 6 → Q (.inl (some (.int 0))) (G X (fI_X3_endNumber I) L F)))) ∧ (¬ (I 3 4) = 1 → (((fI_X3_endNumber I) 3 4) = 6 → (ch = 41 → WP mX3_takesBracket 0 (am_ent 2 [.ref 3]) [] (G X (fI_X3_endNumber I) L F) 0 0 (am_kq mX3_goesOn 114 [some (.ref 3), some (.int ch)] [] (0 + am_bc mX3_takesBracket) (0 + am_bs mX3_takesBracket) Q)) ∧ (¬ ch = 41 → (ch = 42 → WP mX3_operates 0 (am_ent 3 [.ref 3, .int 4, .int 2]) [] (G X (fI_X3_endNumber I) L F) 0 0 (am_kq mX3_goesOn 97 [some (.ref 3), some (.int ch)] [] (0 + am_bc mX3_operates) (0 + am_bs mX3_operates) Q)) ∧ (¬ ch = 42 → (ch = 43 → WP mX3_operates 0 (am_ent 3 [.ref 3, .int 2, .int 1]) [] (G X (fI_X3_endNumber I) L F) 0 0 (am_kq mX3_goesOn 83 [some (.ref 3), some (.int ch)] [] (0 + am_bc mX3_operates) (0 + am_bs mX3_operates) Q)) ∧ (¬ ch = 43 → (ch = 44 → WP mX3_takesComma 0 (am_ent 2 [.ref 3]) [] (G X (fI_X3_endNumber I) L F) 0 0 (am_kq mX3_goesOn 109 [some (.ref 3), some (.int ch)] [] (0 + am_bc mX3_takesComma) (0 + am_bs mX3_takesComma) Q)) ∧ (¬ ch = 44 → (ch = 45 → WP mX3_operates 0 (am_ent 3 [.ref 3, .int 3, .int 1]) [] (G X (fI_X3_endNumber I) L F) 0 0 (am_kq mX3_goesOn 90 [some (.ref 3), some (.int ch)] [] (0 + am_bc mX3_operates) (0 + am_bs mX3_operates) Q)) ∧ (¬ ch = 45 → (ch = 46 → Q (.inl (some (.int 0))) (G X (fI_X3_endNumber I) L F)) ∧ (¬ ch = 46 → (ch = 47 → WP mX3_operates 0 (am_ent 3 [.ref 3, .int 5, .int 2]) [] (G X (fI_X3_endNumber I) L F) 0 0 (am_kq mX3_goesOn 104 [some (.ref 3), some (.int ch)] [] (0 + am_bc mX3_operates) (0 + am_bs mX3_operates) Q)) ∧ (¬ ch = 47 → Q (.inl (some (.int 0))) (G X (fI_X3_endNumber I) L F))))))))) ∧ (¬ ((fI_X3_endNumber I) 3 4) = 6 → Q (.inl (some (.int 0))) (G X (fI_X3_endNumber I) L F)))) : WP mX3_goesOn 0 (am_ent 2 [.ref 3, .int ch]) [] (G X I L F) 0 0 Q := by
  refine w_aload_n rX3_goesOn_0 rfl ?_
  refine x_getI rX3_goesOn_1 rfl rfl (G_is (by decide) rfl) ?_
  refine w_iconst rX3_goesOn_4 (x := 1) (by decide) ?_
  refine w_icmpne rX3_goesOn_5 (fun h5 => ?_) (fun h5 => ?_)
  · replace q := q.2 h5
    refine w_aload_n rX3_goesOn_21 rfl ?_
    refine w_invokevirtual rX3_goesOn_22 rfl rfl rfl (Nat.le_of_ble_eq_true rfl) ⟨trivial, trivial⟩ (G_is (by decide) rfl) (by decide) (by decide) ?_
    refine s_X3_endNumber ?_
    show WP mX3_goesOn 25 _ _ _ 0 0 _
    refine w_aload_n rX3_goesOn_25 rfl ?_
    refine x_getI rX3_goesOn_26 rfl rfl (G_is (by decide) rfl) ?_
    refine w_bipush rX3_goesOn_29 (x := 6) (by decide) ?_
    refine w_icmpeq rX3_goesOn_31 (fun h31 => ?_) (fun h31 => ?_)
    · replace q := q.1 h31
      refine w_iload_n rX3_goesOn_36 rfl ?_
      refine w_tsw rX3_goesOn_37 ?_
      refine ⟨fun h37_0 => ?_, fun h37_0 => ?_⟩
      · replace q := q.1 h37_0
        refine w_aload_n rX3_goesOn_113 rfl ?_
        refine w_invokevirtual rX3_goesOn_114 rfl rfl rfl (Nat.le_of_ble_eq_true rfl) ⟨trivial, trivial⟩ (G_is (by decide) rfl) (by decide) (by decide) ?_
        exact q
      · replace q := q.2 h37_0
        refine ⟨fun h37_1 => ?_, fun h37_1 => ?_⟩
        · replace q := q.1 h37_1
          refine w_aload_n rX3_goesOn_94 rfl ?_
          refine w_iconst rX3_goesOn_95 (x := 4) (by decide) ?_
          refine w_iconst rX3_goesOn_96 (x := 2) (by decide) ?_
          refine w_invokevirtual rX3_goesOn_97 rfl rfl rfl (Nat.le_of_ble_eq_true rfl) ⟨trivial, trivial, trivial, trivial⟩ (G_is (by decide) rfl) (by decide) (by decide) ?_
          exact q
        · replace q := q.2 h37_1
          refine ⟨fun h37_2 => ?_, fun h37_2 => ?_⟩
          · replace q := q.1 h37_2
            refine w_aload_n rX3_goesOn_80 rfl ?_
            refine w_iconst rX3_goesOn_81 (x := 2) (by decide) ?_
            refine w_iconst rX3_goesOn_82 (x := 1) (by decide) ?_
            refine w_invokevirtual rX3_goesOn_83 rfl rfl rfl (Nat.le_of_ble_eq_true rfl) ⟨trivial, trivial, trivial, trivial⟩ (G_is (by decide) rfl) (by decide) (by decide) ?_
            exact q
          · replace q := q.2 h37_2
            refine ⟨fun h37_3 => ?_, fun h37_3 => ?_⟩
            · replace q := q.1 h37_3
              refine w_aload_n rX3_goesOn_108 rfl ?_
              refine w_invokevirtual rX3_goesOn_109 rfl rfl rfl (Nat.le_of_ble_eq_true rfl) ⟨trivial, trivial⟩ (G_is (by decide) rfl) (by decide) (by decide) ?_
              exact q
            · replace q := q.2 h37_3
              refine ⟨fun h37_4 => ?_, fun h37_4 => ?_⟩
              · replace q := q.1 h37_4
                refine w_aload_n rX3_goesOn_87 rfl ?_
                refine w_iconst rX3_goesOn_88 (x := 3) (by decide) ?_
                refine w_iconst rX3_goesOn_89 (x := 1) (by decide) ?_
                refine w_invokevirtual rX3_goesOn_90 rfl rfl rfl (Nat.le_of_ble_eq_true rfl) ⟨trivial, trivial, trivial, trivial⟩ (G_is (by decide) rfl) (by decide) (by decide) ?_
                exact q
              · replace q := q.2 h37_4
                refine ⟨fun h37_5 => ?_, fun h37_5 => ?_⟩
                · replace q := q.1 h37_5
                  refine w_iconst rX3_goesOn_118 (x := 0) (by decide) ?_
                  refine w_ireturn rX3_goesOn_119 (Or.inl rfl) ?_
                  exact q
                · replace q := q.2 h37_5
                  refine ⟨fun h37_6 => ?_, fun h37_6 => ?_⟩
                  · replace q := q.1 h37_6
                    refine w_aload_n rX3_goesOn_101 rfl ?_
                    refine w_iconst rX3_goesOn_102 (x := 5) (by decide) ?_
                    refine w_iconst rX3_goesOn_103 (x := 2) (by decide) ?_
                    refine w_invokevirtual rX3_goesOn_104 rfl rfl rfl (Nat.le_of_ble_eq_true rfl) ⟨trivial, trivial, trivial, trivial⟩ (G_is (by decide) rfl) (by decide) (by decide) ?_
                    exact q
                  · replace q := q.2 h37_6
                    refine w_iconst rX3_goesOn_118 (x := 0) (by decide) ?_
                    refine w_ireturn rX3_goesOn_119 (Or.inl rfl) ?_
                    exact q
    · replace q := q.2 h31
      refine w_iconst rX3_goesOn_34 (x := 0) (by decide) ?_
      refine w_ireturn rX3_goesOn_35 (Or.inl rfl) ?_
      exact q
  · replace q := q.1 h5
    refine w_iload_n rX3_goesOn_8 rfl ?_
    refine w_bipush rX3_goesOn_9 (x := 46) (by decide) ?_
    refine w_icmpne rX3_goesOn_11 (fun h11 => ?_) (fun h11 => ?_)
    · replace q := q.2 h11
      refine w_aload_n rX3_goesOn_21 rfl ?_
      refine w_invokevirtual rX3_goesOn_22 rfl rfl rfl (Nat.le_of_ble_eq_true rfl) ⟨trivial, trivial⟩ (G_is (by decide) rfl) (by decide) (by decide) ?_
      refine s_X3_endNumber ?_
      show WP mX3_goesOn 25 _ _ _ 0 0 _
      refine w_aload_n rX3_goesOn_25 rfl ?_
      refine x_getI rX3_goesOn_26 rfl rfl (G_is (by decide) rfl) ?_
      refine w_bipush rX3_goesOn_29 (x := 6) (by decide) ?_
      refine w_icmpeq rX3_goesOn_31 (fun h31 => ?_) (fun h31 => ?_)
      · replace q := q.1 h31
        refine w_iload_n rX3_goesOn_36 rfl ?_
        refine w_tsw rX3_goesOn_37 ?_
        refine ⟨fun h37_0 => ?_, fun h37_0 => ?_⟩
        · replace q := q.1 h37_0
          refine w_aload_n rX3_goesOn_113 rfl ?_
          refine w_invokevirtual rX3_goesOn_114 rfl rfl rfl (Nat.le_of_ble_eq_true rfl) ⟨trivial, trivial⟩ (G_is (by decide) rfl) (by decide) (by decide) ?_
          exact q
        · replace q := q.2 h37_0
          refine ⟨fun h37_1 => ?_, fun h37_1 => ?_⟩
          · replace q := q.1 h37_1
            refine w_aload_n rX3_goesOn_94 rfl ?_
            refine w_iconst rX3_goesOn_95 (x := 4) (by decide) ?_
            refine w_iconst rX3_goesOn_96 (x := 2) (by decide) ?_
            refine w_invokevirtual rX3_goesOn_97 rfl rfl rfl (Nat.le_of_ble_eq_true rfl) ⟨trivial, trivial, trivial, trivial⟩ (G_is (by decide) rfl) (by decide) (by decide) ?_
            exact q
          · replace q := q.2 h37_1
            refine ⟨fun h37_2 => ?_, fun h37_2 => ?_⟩
            · replace q := q.1 h37_2
              refine w_aload_n rX3_goesOn_80 rfl ?_
              refine w_iconst rX3_goesOn_81 (x := 2) (by decide) ?_
              refine w_iconst rX3_goesOn_82 (x := 1) (by decide) ?_
              refine w_invokevirtual rX3_goesOn_83 rfl rfl rfl (Nat.le_of_ble_eq_true rfl) ⟨trivial, trivial, trivial, trivial⟩ (G_is (by decide) rfl) (by decide) (by decide) ?_
              exact q
            · replace q := q.2 h37_2
              refine ⟨fun h37_3 => ?_, fun h37_3 => ?_⟩
              · replace q := q.1 h37_3
                refine w_aload_n rX3_goesOn_108 rfl ?_
                refine w_invokevirtual rX3_goesOn_109 rfl rfl rfl (Nat.le_of_ble_eq_true rfl) ⟨trivial, trivial⟩ (G_is (by decide) rfl) (by decide) (by decide) ?_
                exact q
              · replace q := q.2 h37_3
                refine ⟨fun h37_4 => ?_, fun h37_4 => ?_⟩
                · replace q := q.1 h37_4
                  refine w_aload_n rX3_goesOn_87 rfl ?_
                  refine w_iconst rX3_goesOn_88 (x := 3) (by decide) ?_
                  refine w_iconst rX3_goesOn_89 (x := 1) (by decide) ?_
                  refine w_invokevirtual rX3_goesOn_90 rfl rfl rfl (Nat.le_of_ble_eq_true rfl) ⟨trivial, trivial, trivial, trivial⟩ (G_is (by decide) rfl) (by decide) (by decide) ?_
                  exact q
                · replace q := q.2 h37_4
                  refine ⟨fun h37_5 => ?_, fun h37_5 => ?_⟩
                  · replace q := q.1 h37_5
                    refine w_iconst rX3_goesOn_118 (x := 0) (by decide) ?_
                    refine w_ireturn rX3_goesOn_119 (Or.inl rfl) ?_
                    exact q
                  · replace q := q.2 h37_5
                    refine ⟨fun h37_6 => ?_, fun h37_6 => ?_⟩
                    · replace q := q.1 h37_6
                      refine w_aload_n rX3_goesOn_101 rfl ?_
                      refine w_iconst rX3_goesOn_102 (x := 5) (by decide) ?_
                      refine w_iconst rX3_goesOn_103 (x := 2) (by decide) ?_
                      refine w_invokevirtual rX3_goesOn_104 rfl rfl rfl (Nat.le_of_ble_eq_true rfl) ⟨trivial, trivial, trivial, trivial⟩ (G_is (by decide) rfl) (by decide) (by decide) ?_
                      exact q
                    · replace q := q.2 h37_6
                      refine w_iconst rX3_goesOn_118 (x := 0) (by decide) ?_
                      refine w_ireturn rX3_goesOn_119 (Or.inl rfl) ?_
                      exact q
      · replace q := q.2 h31
        refine w_iconst rX3_goesOn_34 (x := 0) (by decide) ?_
        refine w_ireturn rX3_goesOn_35 (Or.inl rfl) ?_
        exact q
    · replace q := q.1 h11
      refine w_aload_n rX3_goesOn_14 rfl ?_
      refine w_iconst rX3_goesOn_15 (x := 2) (by decide) ?_
      refine x_putI rX3_goesOn_16 rfl (G_is (by decide) rfl) trivial ?_
      refine w_iconst rX3_goesOn_19 (x := 1) (by decide) ?_
      refine w_ireturn rX3_goesOn_20 (Or.inr rfl) ?_
      exact q
theorem k_X3_goesOn_86 {X : Nat × (Nat × (Nat → Int32))} {I : Nat → Nat → Int32} {L : Nat → Nat → Int64} {F : Nat → Nat → UInt32} {Q : AQ} {x1 : Int32} {e0 : Int32} (q : (e0 = 0 ∨ e0 = 1) ∧ (Q (.inl (some (.int e0))) (G X I L F))) : WP mX3_goesOn 86 [some (.ref 3), some (.int x1)] [.int e0] (G X I L F) 0 0 Q := by
  have z86 := q.1
  replace q := q.2
  refine w_ireturn rX3_goesOn_86 z86 ?_
  exact q
theorem k_X3_goesOn_93 {X : Nat × (Nat × (Nat → Int32))} {I : Nat → Nat → Int32} {L : Nat → Nat → Int64} {F : Nat → Nat → UInt32} {Q : AQ} {x1 : Int32} {e0 : Int32} (q : (e0 = 0 ∨ e0 = 1) ∧ (Q (.inl (some (.int e0))) (G X I L F))) : WP mX3_goesOn 93 [some (.ref 3), some (.int x1)] [.int e0] (G X I L F) 0 0 Q := by
  have z93 := q.1
  replace q := q.2
  refine w_ireturn rX3_goesOn_93 z93 ?_
  exact q
theorem k_X3_goesOn_100 {X : Nat × (Nat × (Nat → Int32))} {I : Nat → Nat → Int32} {L : Nat → Nat → Int64} {F : Nat → Nat → UInt32} {Q : AQ} {x1 : Int32} {e0 : Int32} (q : (e0 = 0 ∨ e0 = 1) ∧ (Q (.inl (some (.int e0))) (G X I L F))) : WP mX3_goesOn 100 [some (.ref 3), some (.int x1)] [.int e0] (G X I L F) 0 0 Q := by
  have z100 := q.1
  replace q := q.2
  refine w_ireturn rX3_goesOn_100 z100 ?_
  exact q
theorem k_X3_goesOn_107 {X : Nat × (Nat × (Nat → Int32))} {I : Nat → Nat → Int32} {L : Nat → Nat → Int64} {F : Nat → Nat → UInt32} {Q : AQ} {x1 : Int32} {e0 : Int32} (q : (e0 = 0 ∨ e0 = 1) ∧ (Q (.inl (some (.int e0))) (G X I L F))) : WP mX3_goesOn 107 [some (.ref 3), some (.int x1)] [.int e0] (G X I L F) 0 0 Q := by
  have z107 := q.1
  replace q := q.2
  refine w_ireturn rX3_goesOn_107 z107 ?_
  exact q
theorem k_X3_goesOn_112 {X : Nat × (Nat × (Nat → Int32))} {I : Nat → Nat → Int32} {L : Nat → Nat → Int64} {F : Nat → Nat → UInt32} {Q : AQ} {x1 : Int32} {e0 : Int32} (q : (e0 = 0 ∨ e0 = 1) ∧ (Q (.inl (some (.int e0))) (G X I L F))) : WP mX3_goesOn 112 [some (.ref 3), some (.int x1)] [.int e0] (G X I L F) 0 0 Q := by
  have z112 := q.1
  replace q := q.2
  refine w_ireturn rX3_goesOn_112 z112 ?_
  exact q
theorem k_X3_goesOn_117 {X : Nat × (Nat × (Nat → Int32))} {I : Nat → Nat → Int32} {L : Nat → Nat → Int64} {F : Nat → Nat → UInt32} {Q : AQ} {x1 : Int32} {e0 : Int32} (q : (e0 = 0 ∨ e0 = 1) ∧ (Q (.inl (some (.int e0))) (G X I L F))) : WP mX3_goesOn 117 [some (.ref 3), some (.int x1)] [.int e0] (G X I L F) 0 0 Q := by
  have z117 := q.1
  replace q := q.2
  refine w_ireturn rX3_goesOn_117 z117 ?_
  exact q
theorem k_X3_operates_0 {X : Nat × (Nat × (Nat → Int32))} {I : Nat → Nat → Int32} {L : Nat → Nat → Int64} {F : Nat → Nat → UInt32} {Q : AQ} {kind : Int32} {strength : Int32} (q : WP mX3_settle 0 (am_ent 2 [.ref 3, .int strength]) [] (G X I L F) 0 0 (am_kq mX3_operates 2 [some (.ref 3), some (.int kind), some (.int strength)] [] (0 + am_bc mX3_settle) (0 + am_bs mX3_settle) Q)) : WP mX3_operates 0 (am_ent 3 [.ref 3, .int kind, .int strength]) [] (G X I L F) 0 0 Q := by
  refine w_aload_n rX3_operates_0 rfl ?_
  refine w_iload_n rX3_operates_1 rfl ?_
  refine w_invokevirtual rX3_operates_2 rfl rfl rfl (Nat.le_of_ble_eq_true rfl) ⟨trivial, trivial, trivial⟩ (G_is (by decide) rfl) (by decide) (by decide) ?_
  exact q
theorem k_X3_operates_5 {X : Nat × (Nat × (Nat → Int32))} {I : Nat → Nat → Int32} {L : Nat → Nat → Int64} {F : Nat → Nat → UInt32} {Q : AQ} {x1 : Int32} {x2 : Int32} (q : Q (.inl (some (.int (f_X3_hold x1 0 (am_u I 3 4 0))))) (G X (fI_X3_hold x1 0 (am_u I 3 4 0)) L F)) : WP mX3_operates 5 [some (.ref 3), some (.int x1), some (.int x2)] [] (G X I L F) 0 0 Q := by
  refine w_aload_n rX3_operates_5 rfl ?_
  refine w_iconst rX3_operates_6 (x := 0) (by decide) ?_
  refine x_putI rX3_operates_7 rfl (G_is (by decide) rfl) trivial ?_
  refine w_aload_n rX3_operates_10 rfl ?_
  refine w_iload_n rX3_operates_11 rfl ?_
  refine w_iconst rX3_operates_12 (x := 0) (by decide) ?_
  refine w_invokevirtual rX3_operates_13 rfl rfl rfl (Nat.le_of_ble_eq_true rfl) ⟨trivial, trivial, trivial, trivial⟩ (G_is (by decide) rfl) (by decide) (by decide) ?_
  refine s_X3_hold ?_
  show WP mX3_operates 16 _ _ _ 0 0 _
  refine w_ireturn rX3_operates_16 b01_X3_hold ?_
  exact q
theorem k_X3_takesComma_0 {X : Nat × (Nat × (Nat → Int32))} {I : Nat → Nat → Int32} {L : Nat → Nat → Int64} {F : Nat → Nat → UInt32} {Q : AQ}  (q : WP mX3_settle 0 (am_ent 2 [.ref 3, .int 1]) [] (G X I L F) 0 0 (am_kq mX3_takesComma 2 [some (.ref 3), none] [] (0 + am_bc mX3_settle) (0 + am_bs mX3_settle) Q)) : WP mX3_takesComma 0 (am_ent 2 [.ref 3]) [] (G X I L F) 0 0 Q := by
  refine w_aload_n rX3_takesComma_0 rfl ?_
  refine w_iconst rX3_takesComma_1 (x := 1) (by decide) ?_
  refine w_invokevirtual rX3_takesComma_2 rfl rfl rfl (Nat.le_of_ble_eq_true rfl) ⟨trivial, trivial, trivial⟩ (G_is (by decide) rfl) (by decide) (by decide) ?_
  exact q
theorem k_X3_takesComma_5 {X : Nat × (Nat × (Nat → Int32))} {I : Nat → Nat → Int32} {L : Nat → Nat → Int64} {F : Nat → Nat → UInt32} {Q : AQ}  (q : (((I 3 3) - 1) < 0 → Q (.inl (some (.int 0))) (G X I L F)) ∧ (¬ ((I 3 3) - 1) < 0 → (40 ≤ ((I 3 3) - 1) → Q (.inl (some (.int 0))) (G X I L F)) ∧ (¬ 40 ≤ ((I 3 3) - 1) → ((I 8 (Int32.toNatClampNeg ((I 3 3) - 1))) = 0 → Q (.inl (some (.int 0))) (G X I L F)) ∧ (¬ (I 8 (Int32.toNatClampNeg ((I 3 3) - 1))) = 0 → Q (.inl (some (.int 1))) (G X (am_u (am_u I 8 (Int32.toNatClampNeg ((I 3 3) - 1)) ((I 8 (Int32.toNatClampNeg ((I 3 3) - 1))) - 1)) 3 4 0) L F))))) : WP mX3_takesComma 5 [some (.ref 3), none] [] (G X I L F) 0 0 Q := by
  refine w_aload_n rX3_takesComma_5 rfl ?_
  refine x_getI rX3_takesComma_6 rfl rfl (G_is (by decide) rfl) ?_
  refine w_iconst rX3_takesComma_9 (x := 1) (by decide) ?_
  refine w_isub rX3_takesComma_10 ?_
  refine w_istore_n rX3_takesComma_11 rfl trivial ?_
  refine w_iload_n rX3_takesComma_12 rfl ?_
  refine w_iflt rX3_takesComma_13 (fun h13 => ?_) (fun h13 => ?_)
  · replace q := q.1 h13
    refine w_iconst rX3_takesComma_34 (x := 0) (by decide) ?_
    refine w_ireturn rX3_takesComma_35 (Or.inl rfl) ?_
    exact q
  · replace q := q.2 h13
    refine w_iload_n rX3_takesComma_16 rfl ?_
    refine w_aload_n rX3_takesComma_17 rfl ?_
    refine w_getR rX3_takesComma_18 rfl rfl (G_is (by decide) rfl) (x := 8) rfl ?_
    refine G_lenc rX3_takesComma_21 (by decide) rfl (n := 40) rfl (x := 40) (by decide) ?_
    refine w_icmpge rX3_takesComma_22 (fun h22 => ?_) (fun h22 => ?_)
    · replace q := q.1 h22
      refine w_iconst rX3_takesComma_34 (x := 0) (by decide) ?_
      refine w_ireturn rX3_takesComma_35 (Or.inl rfl) ?_
      exact q
    · replace q := q.2 h22
      refine w_aload_n rX3_takesComma_25 rfl ?_
      refine w_getR rX3_takesComma_26 rfl rfl (G_is (by decide) rfl) (x := 8) rfl ?_
      refine w_iload_n rX3_takesComma_29 rfl ?_
      refine x_iaload rX3_takesComma_30 (G_at (by decide) rfl rfl (vi_b (n := 40) (by decide) (by decide) h13 h22)) ?_
      refine w_ifne rX3_takesComma_31 (fun h31 => ?_) (fun h31 => ?_)
      · replace q := q.2 h31
        refine w_aload_n rX3_takesComma_36 rfl ?_
        refine w_getR rX3_takesComma_37 rfl rfl (G_is (by decide) rfl) (x := 8) rfl ?_
        refine w_iload_n rX3_takesComma_40 rfl ?_
        refine w_dup2 rX3_takesComma_41 trivial trivial ?_
        refine x_iaload rX3_takesComma_42 (G_at (by decide) rfl rfl (vi_b (n := 40) (by decide) (by decide) h13 h22)) ?_
        refine w_iconst rX3_takesComma_43 (x := 1) (by decide) ?_
        refine w_isub rX3_takesComma_44 ?_
        refine x_iastore rX3_takesComma_45 (G_at (by decide) rfl rfl (vi_b (n := 40) (by decide) (by decide) h13 h22)) ?_
        refine w_aload_n rX3_takesComma_46 rfl ?_
        refine w_iconst rX3_takesComma_47 (x := 0) (by decide) ?_
        refine x_putI rX3_takesComma_48 rfl (G_is (by decide) rfl) trivial ?_
        refine w_iconst rX3_takesComma_51 (x := 1) (by decide) ?_
        refine w_ireturn rX3_takesComma_52 (Or.inr rfl) ?_
        exact q
      · replace q := q.1 h31
        refine w_iconst rX3_takesComma_34 (x := 0) (by decide) ?_
        refine w_ireturn rX3_takesComma_35 (Or.inl rfl) ?_
        exact q
theorem k_X3_takesBracket_0 {X : Nat × (Nat × (Nat → Int32))} {I : Nat → Nat → Int32} {L : Nat → Nat → Int64} {F : Nat → Nat → UInt32} {Q : AQ}  (q : WP mX3_settle 0 (am_ent 2 [.ref 3, .int 1]) [] (G X I L F) 0 0 (am_kq mX3_takesBracket 2 [some (.ref 3), none] [] (0 + am_bc mX3_settle) (0 + am_bs mX3_settle) Q)) : WP mX3_takesBracket 0 (am_ent 2 [.ref 3]) [] (G X I L F) 0 0 Q := by
  refine w_aload_n rX3_takesBracket_0 rfl ?_
  refine w_iconst rX3_takesBracket_1 (x := 1) (by decide) ?_
  refine w_invokevirtual rX3_takesBracket_2 rfl rfl rfl (Nat.le_of_ble_eq_true rfl) ⟨trivial, trivial, trivial⟩ (G_is (by decide) rfl) (by decide) (by decide) ?_
  exact q
theorem k_X3_takesBracket_5 {X : Nat × (Nat × (Nat → Int32))} {I : Nat → Nat → Int32} {L : Nat → Nat → Int64} {F : Nat → Nat → UInt32} {Q : AQ}  (q : (((I 3 3) - 1) < 0 → Q (.inl (some (.int 0))) (G X I L F)) ∧ (¬ ((I 3 3) - 1) < 0 → (40 ≤ ((I 3 3) - 1) → Q (.inl (some (.int 0))) (G X I L F)) ∧ (¬ 40 ≤ ((I 3 3) - 1) → ((I 8 (Int32.toNatClampNeg ((I 3 3) - 1))) = 0 → ∀ I58 : Nat → Nat → Int32, I58 = (if (I 7 (Int32.toNatClampNeg ((I 3 3) - 1))) = 12 then (am_u I 3 3 ((I 3 3) - 1)) else (fI_X2_add 4 (I 7 (Int32.toNatClampNeg ((I 3 3) - 1))) 0 (am_u I 3 3 ((I 3 3) - 1))) : Nat → Nat → Int32) → (Q (.inl (some (.int 1))) (G X I58 L F))) ∧ (¬ (I 8 (Int32.toNatClampNeg ((I 3 3) - 1))) = 0 → Q (.inl (some (.int 0))) (G X I L F))))) : WP mX3_takesBracket 5 [some (.ref 3), none] [] (G X I L F) 0 0 Q := by
  refine w_aload_n rX3_takesBracket_5 rfl ?_
  refine x_getI rX3_takesBracket_6 rfl rfl (G_is (by decide) rfl) ?_
  refine w_iconst rX3_takesBracket_9 (x := 1) (by decide) ?_
  refine w_isub rX3_takesBracket_10 ?_
  refine w_istore_n rX3_takesBracket_11 rfl trivial ?_
  refine w_iload_n rX3_takesBracket_12 rfl ?_
  refine w_iflt rX3_takesBracket_13 (fun h13 => ?_) (fun h13 => ?_)
  · replace q := q.1 h13
    refine w_iconst rX3_takesBracket_43 (x := 0) (by decide) ?_
    refine w_ireturn rX3_takesBracket_44 (Or.inl rfl) ?_
    exact q
  · replace q := q.2 h13
    refine w_iload_n rX3_takesBracket_16 rfl ?_
    refine w_aload_n rX3_takesBracket_17 rfl ?_
    refine w_getR rX3_takesBracket_18 rfl rfl (G_is (by decide) rfl) (x := 8) rfl ?_
    refine G_lenc rX3_takesBracket_21 (by decide) rfl (n := 40) rfl (x := 40) (by decide) ?_
    refine w_icmpge rX3_takesBracket_22 (fun h22 => ?_) (fun h22 => ?_)
    · replace q := q.1 h22
      refine w_iconst rX3_takesBracket_43 (x := 0) (by decide) ?_
      refine w_ireturn rX3_takesBracket_44 (Or.inl rfl) ?_
      exact q
    · replace q := q.2 h22
      refine w_iload_n rX3_takesBracket_25 rfl ?_
      refine w_aload_n rX3_takesBracket_26 rfl ?_
      refine w_getR rX3_takesBracket_27 rfl rfl (G_is (by decide) rfl) (x := 7) rfl ?_
      refine G_lenc rX3_takesBracket_30 (by decide) rfl (n := 40) rfl (x := 40) (by decide) ?_
      refine w_icmpge rX3_takesBracket_31 (fun h => absurd h h22) (fun _ => ?_)
      refine w_aload_n rX3_takesBracket_34 rfl ?_
      refine w_getR rX3_takesBracket_35 rfl rfl (G_is (by decide) rfl) (x := 8) rfl ?_
      refine w_iload_n rX3_takesBracket_38 rfl ?_
      refine x_iaload rX3_takesBracket_39 (G_at (by decide) rfl rfl (vi_b (n := 40) (by decide) (by decide) h13 h22)) ?_
      refine w_ifeq rX3_takesBracket_40 (fun h40 => ?_) (fun h40 => ?_)
      · replace q := q.1 h40
        refine w_aload_n rX3_takesBracket_45 rfl ?_
        refine w_iload_n rX3_takesBracket_46 rfl ?_
        refine x_putI rX3_takesBracket_47 rfl (G_is (by decide) rfl) trivial ?_
        refine w_aload_n rX3_takesBracket_50 rfl ?_
        refine w_getR rX3_takesBracket_51 rfl rfl (G_is (by decide) rfl) (x := 7) rfl ?_
        refine w_iload_n rX3_takesBracket_54 rfl ?_
        refine x_iaload rX3_takesBracket_55 (G_at (by decide) rfl rfl (vi_b (n := 40) (by decide) (by decide) h13 h22)) ?_
        rw [au_ne (f := I) (o := 3) (k := 3) (a := 7) (b := (Int32.toNatClampNeg ((I 3 3) - 1))) (fun z => absurd z.1 (by decide))]
        refine w_bipush rX3_takesBracket_56 (x := 12) (by decide) ?_
        have j58 : ∀ I58 : Nat → Nat → Int32, I58 = (if (I 7 (Int32.toNatClampNeg ((I 3 3) - 1))) = 12 then (am_u I 3 3 ((I 3 3) - 1)) else (fI_X2_add 4 (I 7 (Int32.toNatClampNeg ((I 3 3) - 1))) 0 (am_u I 3 3 ((I 3 3) - 1))) : Nat → Nat → Int32) → WP mX3_takesBracket 75 [some (.ref 3), some (.int ((I 3 3) - 1))] [] (G X I58 L F) 0 0 Q := by
          intro I58 eI58
          replace q := q I58 eI58
          refine w_iconst rX3_takesBracket_75 (x := 1) (by decide) ?_
          refine w_ireturn rX3_takesBracket_76 (Or.inr rfl) ?_
          exact q
        refine w_icmpeq rX3_takesBracket_58 (fun h58 => ?_) (fun h58 => ?_)
        · skip
          exact j58 _ (if_pos h58).symm
        · skip
          refine w_aload_n rX3_takesBracket_61 rfl ?_
          refine w_getR rX3_takesBracket_62 rfl rfl (G_is (by decide) rfl) (x := 4) rfl ?_
          refine w_aload_n rX3_takesBracket_65 rfl ?_
          refine w_getR rX3_takesBracket_66 rfl rfl (G_is (by decide) rfl) (x := 7) rfl ?_
          refine w_iload_n rX3_takesBracket_69 rfl ?_
          refine x_iaload rX3_takesBracket_70 (G_at (by decide) rfl rfl (vi_b (n := 40) (by decide) (by decide) h13 h22)) ?_
          rw [au_ne (f := I) (o := 3) (k := 3) (a := 7) (b := (Int32.toNatClampNeg ((I 3 3) - 1))) (fun z => absurd z.1 (by decide))]
          refine w_iconst rX3_takesBracket_71 (x := 0) (by decide) ?_
          refine w_invokevirtual rX3_takesBracket_72 rfl rfl rfl (Nat.le_of_ble_eq_true rfl) ⟨trivial, trivial, trivial, trivial⟩ (G_is (by decide) rfl) (by decide) (by decide) ?_
          refine s_X2_add isFor_4 ?_
          show WP mX3_takesBracket 75 _ _ _ 0 0 _
          exact j58 _ (if_neg h58).symm
      · replace q := q.2 h40
        refine w_iconst rX3_takesBracket_43 (x := 0) (by decide) ?_
        refine w_ireturn rX3_takesBracket_44 (Or.inl rfl) ?_
        exact q
theorem k_X3_settle_0 {X : Nat × (Nat × (Nat → Int32))} {I : Nat → Nat → Int32} {L : Nat → Nat → Int64} {F : Nat → Nat → UInt32} {Q : AQ} {x1 : Int32} (q : ((I 3 3) ≤ 0 → Q (.inl none) (G X I L F)) ∧ (¬ (I 3 3) ≤ 0 → (40 < (I 3 3) → Q (.inl none) (G X I L F)) ∧ (¬ 40 < (I 3 3) → vp_in ((I 3 3) - 1) 40 ∧ (((f_X3_strengthOf (I 7 (Int32.toNatClampNeg ((I 3 3) - 1)))) < x1 → Q (.inl none) (G X I L F)) ∧ (¬ (f_X3_strengthOf (I 7 (Int32.toNatClampNeg ((I 3 3) - 1)))) < x1 → vp_in ((I 3 3) - 1) 40 ∧ (WP mX3_settle 0 [some (.ref 3), some (.int x1)] [] (G X (am_u (fI_X2_add 4 (I 7 (Int32.toNatClampNeg ((I 3 3) - 1))) 0 I) 3 3 (((fI_X2_add 4 (I 7 (Int32.toNatClampNeg ((I 3 3) - 1))) 0 I) 3 3) - 1)) L F) 0 0 Q)))))) : WP mX3_settle 0 [some (.ref 3), some (.int x1)] [] (G X I L F) 0 0 Q := by
  refine w_aload_n rX3_settle_0 rfl ?_
  refine x_getI rX3_settle_1 rfl rfl (G_is (by decide) rfl) ?_
  refine w_ifle rX3_settle_4 (fun h4 => ?_) (fun h4 => ?_)
  · replace q := q.1 h4
    refine w_return rX3_settle_69 ?_
    exact q
  · replace q := q.2 h4
    refine w_aload_n rX3_settle_7 rfl ?_
    refine x_getI rX3_settle_8 rfl rfl (G_is (by decide) rfl) ?_
    refine w_aload_n rX3_settle_11 rfl ?_
    refine w_getR rX3_settle_12 rfl rfl (G_is (by decide) rfl) (x := 7) rfl ?_
    refine G_lenc rX3_settle_15 (by decide) rfl (n := 40) rfl (x := 40) (by decide) ?_
    refine w_icmpgt rX3_settle_16 (fun h16 => ?_) (fun h16 => ?_)
    · replace q := q.1 h16
      refine w_return rX3_settle_69 ?_
      exact q
    · replace q := q.2 h16
      refine w_aload_n rX3_settle_19 rfl ?_
      refine w_getR rX3_settle_20 rfl rfl (G_is (by decide) rfl) (x := 7) rfl ?_
      refine w_aload_n rX3_settle_23 rfl ?_
      refine x_getI rX3_settle_24 rfl rfl (G_is (by decide) rfl) ?_
      refine w_iconst rX3_settle_27 (x := 1) (by decide) ?_
      refine w_isub rX3_settle_28 ?_
      have h29 := q.1
      replace q := q.2
      refine x_iaload rX3_settle_29 (G_at (by decide) rfl rfl h29) ?_
      refine w_invokestatic rX3_settle_30 rfl rfl rfl (Nat.le_of_ble_eq_true rfl) ⟨trivial, trivial⟩ trivial (by decide) (by decide) ?_
      refine s_X3_strengthOf ?_
      show WP mX3_settle 33 _ _ _ 0 0 _
      refine w_iload_n rX3_settle_33 rfl ?_
      refine w_icmplt rX3_settle_34 (fun h34 => ?_) (fun h34 => ?_)
      · replace q := q.1 h34
        refine w_return rX3_settle_69 ?_
        exact q
      · replace q := q.2 h34
        refine w_aload_n rX3_settle_37 rfl ?_
        refine w_getR rX3_settle_38 rfl rfl (G_is (by decide) rfl) (x := 4) rfl ?_
        refine w_aload_n rX3_settle_41 rfl ?_
        refine w_getR rX3_settle_42 rfl rfl (G_is (by decide) rfl) (x := 7) rfl ?_
        refine w_aload_n rX3_settle_45 rfl ?_
        refine x_getI rX3_settle_46 rfl rfl (G_is (by decide) rfl) ?_
        refine w_iconst rX3_settle_49 (x := 1) (by decide) ?_
        refine w_isub rX3_settle_50 ?_
        have h51 := q.1
        replace q := q.2
        refine x_iaload rX3_settle_51 (G_at (by decide) rfl rfl h51) ?_
        refine w_iconst rX3_settle_52 (x := 0) (by decide) ?_
        refine w_invokevirtual rX3_settle_53 rfl rfl rfl (Nat.le_of_ble_eq_true rfl) ⟨trivial, trivial, trivial, trivial⟩ (G_is (by decide) rfl) (by decide) (by decide) ?_
        refine s_X2_add isFor_4 ?_
        show WP mX3_settle 56 _ _ _ 0 0 _
        refine w_aload_n rX3_settle_56 rfl ?_
        refine w_dup rX3_settle_57 trivial ?_
        refine x_getI rX3_settle_58 rfl rfl (G_is (by decide) rfl) ?_
        refine w_iconst rX3_settle_61 (x := 1) (by decide) ?_
        refine w_isub rX3_settle_62 ?_
        refine x_putI rX3_settle_63 rfl (G_is (by decide) rfl) trivial ?_
        refine w_goto rX3_settle_66 ?_
        exact q
theorem k_X4_workOut_0 {X : Nat × (Nat × (Nat → Int32))} {I : Nat → Nat → Int32} {L : Nat → Nat → Int64} {F : Nat → Nat → UInt32} {Q : AQ} {o : Nat} (ho : isFor o) (q : WP mX4_workOut 7 [some (.ref 10), some (.ref o), some (.int 0), none, none] [] (G X (am_u I 10 2 0) L F) 0 0 Q) : WP mX4_workOut 0 (am_ent 5 [.ref 10, .ref o]) [] (G X I L F) 0 0 Q := by
  refine w_aload_n rX4_workOut_0 rfl ?_
  refine w_iconst rX4_workOut_1 (x := 0) (by decide) ?_
  refine x_putI rX4_workOut_2 rfl (G_is (by decide) rfl) trivial ?_
  refine w_iconst rX4_workOut_5 (x := 0) (by decide) ?_
  refine w_istore_n rX4_workOut_6 rfl trivial ?_
  exact q
theorem k_X4_workOut_7 {X : Nat × (Nat × (Nat → Int32))} {I : Nat → Nat → Int32} {L : Nat → Nat → Int64} {F : Nat → Nat → UInt32} {Q : AQ} {o1 : Nat} {x2 : Int32} {d3 : Option Value} {d4 : Option Value} (ho1 : isFor o1) (q : ((I o1 2) ≤ x2 → (p_X4_take I) ∧ (Q (.inl (some (.float (f_X4_take I F)))) (G X (fI_X4_take I) L F))) ∧ (¬ (I o1 2) ≤ x2 → (40 ≤ x2 → (p_X4_take I) ∧ (Q (.inl (some (.float (f_X4_take I F)))) (G X (fI_X4_take I) L F))) ∧ (¬ 40 ≤ x2 → vp_in x2 40 ∧ (vp_in x2 40 ∧ ((((I (o1 + 1) (Int32.toNatClampNeg x2)) = 0 → vf_n32 (FP.fdiv (FP.i2f (I (o1 + 2) (Int32.toNatClampNeg x2))) 1120403456) ∧ (True)) ∧ (¬ (I (o1 + 1) (Int32.toNatClampNeg x2)) = 0 → (¬ (I (o1 + 1) (Int32.toNatClampNeg x2)) = 1 → (p_X4_operate (I (o1 + 1) (Int32.toNatClampNeg x2)) I F) ∧ (True)))) ∧ (∀ I49 : Nat → Nat → Int32, I49 = (if (I (o1 + 1) (Int32.toNatClampNeg x2)) = 0 then (fI_X4_keep (FP.fdiv (FP.i2f (I (o1 + 2) (Int32.toNatClampNeg x2))) 1120403456) I) else (if (I (o1 + 1) (Int32.toNatClampNeg x2)) = 1 then (fI_X4_keep (if (I (o1 + 2) (Int32.toNatClampNeg x2)) < 0 then 0 else (if 20 ≤ (I (o1 + 2) (Int32.toNatClampNeg x2)) then 0 else (F 11 (Int32.toNatClampNeg (I (o1 + 2) (Int32.toNatClampNeg x2)))) : UInt32) : UInt32) I) else (fI_X4_operate (I (o1 + 1) (Int32.toNatClampNeg x2)) I F) : Nat → Nat → Int32) : Nat → Nat → Int32) → ∀ F49 : Nat → Nat → UInt32, F49 = (if (I (o1 + 1) (Int32.toNatClampNeg x2)) = 0 then (fF_X4_keep (FP.fdiv (FP.i2f (I (o1 + 2) (Int32.toNatClampNeg x2))) 1120403456) I F) else (if (I (o1 + 1) (Int32.toNatClampNeg x2)) = 1 then (fF_X4_keep (if (I (o1 + 2) (Int32.toNatClampNeg x2)) < 0 then 0 else (if 20 ≤ (I (o1 + 2) (Int32.toNatClampNeg x2)) then 0 else (F 11 (Int32.toNatClampNeg (I (o1 + 2) (Int32.toNatClampNeg x2)))) : UInt32) : UInt32) I F) else (fF_X4_operate (I (o1 + 1) (Int32.toNatClampNeg x2)) I F) : Nat → Nat → UInt32) : Nat → Nat → UInt32) → (WP mX4_workOut 7 [some (.ref 10), some (.ref o1), some (.int (x2 + 1)), some (.int (I (o1 + 1) (Int32.toNatClampNeg x2))), some (.int (I (o1 + 2) (Int32.toNatClampNeg x2)))] [] (G X I49 L F49) 0 0 Q))))))) : WP mX4_workOut 7 [some (.ref 10), some (.ref o1), some (.int x2), d3, d4] [] (G X I L F) 0 0 Q := by
  refine w_iload_n rX4_workOut_7 rfl ?_
  refine w_aload_n rX4_workOut_8 rfl ?_
  refine x_getI rX4_workOut_9 rfl rfl (G_isk ho1.1) ?_
  refine w_icmpge rX4_workOut_12 (fun h12 => ?_) (fun h12 => ?_)
  · replace q := q.1 h12
    refine w_aload_n rX4_workOut_114 rfl ?_
    refine w_invokevirtual rX4_workOut_115 rfl rfl rfl (Nat.le_of_ble_eq_true rfl) ⟨trivial, trivial⟩ (G_is (by decide) rfl) (by decide) (by decide) ?_
    refine s_X4_take q.1 ?_
    replace q := q.2
    show WP mX4_workOut 118 _ _ _ 0 0 _
    refine w_freturn rX4_workOut_118 ?_
    exact q
  · replace q := q.2 h12
    refine w_iload_n rX4_workOut_15 rfl ?_
    refine w_aload_n rX4_workOut_16 rfl ?_
    refine w_getR rX4_workOut_17 rfl rfl (G_isk ho1.1) ho1.2.1 ?_
    refine G_lenk rX4_workOut_20 ho1.2.2.2.1 (by decide) (x := 40) (by decide) ?_
    refine w_icmpge rX4_workOut_21 (fun h21 => ?_) (fun h21 => ?_)
    · replace q := q.1 h21
      refine w_aload_n rX4_workOut_114 rfl ?_
      refine w_invokevirtual rX4_workOut_115 rfl rfl rfl (Nat.le_of_ble_eq_true rfl) ⟨trivial, trivial⟩ (G_is (by decide) rfl) (by decide) (by decide) ?_
      refine s_X4_take q.1 ?_
      replace q := q.2
      show WP mX4_workOut 118 _ _ _ 0 0 _
      refine w_freturn rX4_workOut_118 ?_
      exact q
    · replace q := q.2 h21
      refine w_iload_n rX4_workOut_24 rfl ?_
      refine w_aload_n rX4_workOut_25 rfl ?_
      refine w_getR rX4_workOut_26 rfl rfl (G_isk ho1.1) ho1.2.2.1 ?_
      refine G_lenk rX4_workOut_29 ho1.2.2.2.2 (by decide) (x := 40) (by decide) ?_
      refine w_icmpge rX4_workOut_30 (fun h => absurd h h21) (fun _ => ?_)
      refine w_aload_n rX4_workOut_33 rfl ?_
      refine w_getR rX4_workOut_34 rfl rfl (G_isk ho1.1) ho1.2.1 ?_
      refine w_iload_n rX4_workOut_37 rfl ?_
      have h38 := q.1
      replace q := q.2
      refine x_iaload rX4_workOut_38 (G_atk ho1.2.2.2.1 h38) ?_
      refine w_istore_n rX4_workOut_39 rfl trivial ?_
      refine w_aload_n rX4_workOut_40 rfl ?_
      refine w_getR rX4_workOut_41 rfl rfl (G_isk ho1.1) ho1.2.2.1 ?_
      refine w_iload_n rX4_workOut_44 rfl ?_
      have h45 := q.1
      replace q := q.2
      refine x_iaload rX4_workOut_45 (G_atk ho1.2.2.2.2 h45) ?_
      refine w_istore rX4_workOut_46 rfl trivial ?_
      refine w_iload_n rX4_workOut_48 rfl ?_
      have j49 : ∀ I49 : Nat → Nat → Int32, I49 = (if (I (o1 + 1) (Int32.toNatClampNeg x2)) = 0 then (fI_X4_keep (FP.fdiv (FP.i2f (I (o1 + 2) (Int32.toNatClampNeg x2))) 1120403456) I) else (if (I (o1 + 1) (Int32.toNatClampNeg x2)) = 1 then (fI_X4_keep (if (I (o1 + 2) (Int32.toNatClampNeg x2)) < 0 then 0 else (if 20 ≤ (I (o1 + 2) (Int32.toNatClampNeg x2)) then 0 else (F 11 (Int32.toNatClampNeg (I (o1 + 2) (Int32.toNatClampNeg x2)))) : UInt32) : UInt32) I) else (fI_X4_operate (I (o1 + 1) (Int32.toNatClampNeg x2)) I F) : Nat → Nat → Int32) : Nat → Nat → Int32) → ∀ F49 : Nat → Nat → UInt32, F49 = (if (I (o1 + 1) (Int32.toNatClampNeg x2)) = 0 then (fF_X4_keep (FP.fdiv (FP.i2f (I (o1 + 2) (Int32.toNatClampNeg x2))) 1120403456) I F) else (if (I (o1 + 1) (Int32.toNatClampNeg x2)) = 1 then (fF_X4_keep (if (I (o1 + 2) (Int32.toNatClampNeg x2)) < 0 then 0 else (if 20 ≤ (I (o1 + 2) (Int32.toNatClampNeg x2)) then 0 else (F 11 (Int32.toNatClampNeg (I (o1 + 2) (Int32.toNatClampNeg x2)))) : UInt32) : UInt32) I F) else (fF_X4_operate (I (o1 + 1) (Int32.toNatClampNeg x2)) I F) : Nat → Nat → UInt32) : Nat → Nat → UInt32) → WP mX4_workOut 108 [some (.ref 10), some (.ref o1), some (.int x2), some (.int (I (o1 + 1) (Int32.toNatClampNeg x2))), some (.int (I (o1 + 2) (Int32.toNatClampNeg x2)))] [] (G X I49 L F49) 0 0 Q := by
        intro I49 eI49 F49 eF49
        replace q := q.2
        replace q := q I49 eI49 F49 eF49
        refine w_iinc rX4_workOut_108 rfl rfl trivial ?_
        refine w_goto rX4_workOut_111 ?_
        exact q
      replace q := q.1
      refine w_ifne rX4_workOut_49 (fun h49 => ?_) (fun h49 => ?_)
      · replace q := q.2 h49
        refine w_iload_n rX4_workOut_65 rfl ?_
        refine w_iconst rX4_workOut_66 (x := 1) (by decide) ?_
        refine w_icmpne rX4_workOut_67 (fun h67 => ?_) (fun h67 => ?_)
        · replace q := q h67
          refine w_aload_n rX4_workOut_103 rfl ?_
          refine w_iload_n rX4_workOut_104 rfl ?_
          refine w_invokevirtual rX4_workOut_105 rfl rfl rfl (Nat.le_of_ble_eq_true rfl) ⟨trivial, trivial, trivial⟩ (G_is (by decide) rfl) (by decide) (by decide) ?_
          refine s_X4_operate q.1 ?_
          replace q := q.2
          show WP mX4_workOut 108 _ _ _ 0 0 _
          exact j49 _ ((if_neg h49).trans (if_neg h67)).symm _ ((if_neg h49).trans (if_neg h67)).symm
        · skip
          refine w_aload_n rX4_workOut_70 rfl ?_
          refine w_iload rX4_workOut_71 rfl ?_
          have j73 : ∀ s73_1 : UInt32, s73_1 = (if (I (o1 + 2) (Int32.toNatClampNeg x2)) < 0 then 0 else (if 20 ≤ (I (o1 + 2) (Int32.toNatClampNeg x2)) then 0 else (F 11 (Int32.toNatClampNeg (I (o1 + 2) (Int32.toNatClampNeg x2)))) : UInt32) : UInt32) → WP mX4_workOut 97 [some (.ref 10), some (.ref o1), some (.int x2), some (.int (I (o1 + 1) (Int32.toNatClampNeg x2))), some (.int (I (o1 + 2) (Int32.toNatClampNeg x2)))] [.float s73_1, .ref 10] (G X I L F) 0 0 Q := by
            intro s73_1 es73_1
            subst es73_1
            skip
            refine w_invokevirtual rX4_workOut_97 rfl rfl rfl (Nat.le_of_ble_eq_true rfl) ⟨trivial, trivial, trivial⟩ (G_is (by decide) rfl) (by decide) (by decide) ?_
            refine s_X4_keep ?_
            show WP mX4_workOut 100 _ _ _ 0 0 _
            refine w_goto rX4_workOut_100 ?_
            exact j49 _ ((if_neg h49).trans (if_pos h67)).symm _ ((if_neg h49).trans (if_pos h67)).symm
          refine w_iflt rX4_workOut_73 (fun h73 => ?_) (fun h73 => ?_)
          · skip
            refine w_fconst rX4_workOut_96 (x := 0) rfl ?_
            exact j73 _ (if_pos h73).symm
          · skip
            refine w_iload rX4_workOut_76 rfl ?_
            refine w_aload_n rX4_workOut_78 rfl ?_
            refine w_getR rX4_workOut_79 rfl rfl (G_is (by decide) rfl) (x := 11) rfl ?_
            refine G_lenc rX4_workOut_82 (by decide) rfl (n := 20) rfl (x := 20) (by decide) ?_
            refine w_icmpge rX4_workOut_83 (fun h83 => ?_) (fun h83 => ?_)
            · skip
              refine w_fconst rX4_workOut_96 (x := 0) rfl ?_
              exact j73 _ ((if_neg h73).trans (if_pos h83)).symm
            · skip
              refine w_aload_n rX4_workOut_86 rfl ?_
              refine w_getR rX4_workOut_87 rfl rfl (G_is (by decide) rfl) (x := 11) rfl ?_
              refine w_iload rX4_workOut_90 rfl ?_
              refine x_faload rX4_workOut_92 (G_at (by decide) rfl rfl (vi_b (n := 20) (by decide) (by decide) h73 h83)) ?_
              refine w_goto rX4_workOut_93 ?_
              exact j73 _ ((if_neg h73).trans (if_neg h83)).symm
      · replace q := q.1 h49
        refine w_aload_n rX4_workOut_52 rfl ?_
        refine w_iload rX4_workOut_53 rfl ?_
        refine w_i2f rX4_workOut_55 ?_
        refine w_ldcF rX4_workOut_56 (x := 1120403456) (by decide) ?_
        refine w_fdiv rX4_workOut_58 q.1 ?_
        replace q := q.2
        refine w_invokevirtual rX4_workOut_59 rfl rfl rfl (Nat.le_of_ble_eq_true rfl) ⟨trivial, trivial, trivial⟩ (G_is (by decide) rfl) (by decide) (by decide) ?_
        refine s_X4_keep ?_
        show WP mX4_workOut 62 _ _ _ 0 0 _
        refine w_goto rX4_workOut_62 ?_
        exact j49 _ (if_pos h49).symm _ (if_pos h49).symm
theorem k_X5_lookAhead_0 {X : Nat × (Nat × (Nat → Int32))} {I : Nat → Nat → Int32} {L : Nat → Nat → Int64} {F : Nat → Nat → UInt32} {Q : AQ} {o : Nat} {ver : Int32} {first : Int32} {last : Int32} (ho : isRun o) (q : WP mX6_outputOf 0 (am_ent 4 [.ref 9, .int ((am_u (am_u (am_u (am_u I o 0 ver) o 1 first) o 2 last) o 5 0) o 0), .int ((am_u (am_u (am_u (am_u I o 0 ver) o 1 first) o 2 last) o 5 0) o 1)]) [] (G X (am_u (am_u (am_u (am_u I o 0 ver) o 1 first) o 2 last) o 5 0) L F) 0 0 (am_kq mX5_lookAhead 31 [some (.ref o), some (.ref 9), some (.int ver), some (.int first), some (.int last), none, none] [.ref o] (0 + am_bc mX6_outputOf) (0 + am_bs mX6_outputOf) Q)) : WP mX5_lookAhead 0 (am_ent 7 [.ref o, .ref 9, .int ver, .int first, .int last]) [] (G X I L F) 0 0 Q := by
  refine w_aload_n rX5_lookAhead_0 rfl ?_
  refine w_iload_n rX5_lookAhead_1 rfl ?_
  refine x_putI rX5_lookAhead_2 rfl (G_isk ho) trivial ?_
  refine w_aload_n rX5_lookAhead_5 rfl ?_
  refine w_iload_n rX5_lookAhead_6 rfl ?_
  refine x_putI rX5_lookAhead_7 rfl (G_isk ho) trivial ?_
  refine w_aload_n rX5_lookAhead_10 rfl ?_
  refine w_iload rX5_lookAhead_11 rfl ?_
  refine x_putI rX5_lookAhead_13 rfl (G_isk ho) trivial ?_
  refine w_aload_n rX5_lookAhead_16 rfl ?_
  refine w_iconst rX5_lookAhead_17 (x := 0) (by decide) ?_
  refine x_putI rX5_lookAhead_18 rfl (G_isk ho) (Or.inl rfl) ?_
  refine w_aload_n rX5_lookAhead_21 rfl ?_
  refine w_aload_n rX5_lookAhead_22 rfl ?_
  refine w_aload_n rX5_lookAhead_23 rfl ?_
  refine x_getI rX5_lookAhead_24 rfl rfl (G_isk ho) ?_
  refine w_aload_n rX5_lookAhead_27 rfl ?_
  refine x_getI rX5_lookAhead_28 rfl rfl (G_isk ho) ?_
  refine w_invokevirtual rX5_lookAhead_31 rfl rfl rfl (Nat.le_of_ble_eq_true rfl) ⟨trivial, trivial, trivial, trivial⟩ (G_is (by decide) rfl) (by decide) (by decide) ?_
  exact q
theorem k_X5_lookAhead_34 {X : Nat × (Nat × (Nat → Int32))} {I : Nat → Nat → Int32} {L : Nat → Nat → Int64} {F : Nat → Nat → UInt32} {Q : AQ} {o0 : Nat} {x2 : Int32} {x3 : Int32} {x4 : Int32} {p0 : Nat} {e1 : UInt32} (ho0 : isRun o0) (hp0 : isRun p0) (q : WP mX5_lookAhead 53 [some (.ref o0), some (.ref 9), some (.int x2), some (.int x3), some (.int x4), some (.int (((am_u I o0 4 (I o0 1)) o0 1) + 1)), none] [] (G X (am_u I o0 4 (I o0 1)) L (am_u F p0 3 e1)) 0 0 Q) : WP mX5_lookAhead 34 [some (.ref o0), some (.ref 9), some (.int x2), some (.int x3), some (.int x4), none, none] [.float e1, .ref p0] (G X I L F) 0 0 Q := by
  refine x_putF rX5_lookAhead_34 rfl (G_isk hp0) ?_
  refine w_aload_n rX5_lookAhead_37 rfl ?_
  refine w_aload_n rX5_lookAhead_38 rfl ?_
  refine x_getI rX5_lookAhead_39 rfl rfl (G_isk ho0) ?_
  refine x_putI rX5_lookAhead_42 rfl (G_isk ho0) trivial ?_
  refine w_aload_n rX5_lookAhead_45 rfl ?_
  refine x_getI rX5_lookAhead_46 rfl rfl (G_isk ho0) ?_
  refine w_iconst rX5_lookAhead_49 (x := 1) (by decide) ?_
  refine w_iadd rX5_lookAhead_50 ?_
  refine w_istore rX5_lookAhead_51 rfl trivial ?_
  exact q
theorem k_X5_lookAhead_53 {X : Nat × (Nat × (Nat → Int32))} {I : Nat → Nat → Int32} {L : Nat → Nat → Int64} {F : Nat → Nat → UInt32} {Q : AQ} {o0 : Nat} {x2 : Int32} {x3 : Int32} {x4 : Int32} {x5 : Int32} {d6 : Option Value} (ho0 : isRun o0) (q : ((I o0 2) < x5 → Q (.inl none) (G X I L F)) ∧ (¬ (I o0 2) < x5 → WP mX6_outputOf 0 (am_ent 4 [.ref 9, .int (I o0 0), .int x5]) [] (G X I L F) 0 0 (am_kq mX5_lookAhead 69 [some (.ref o0), some (.ref 9), some (.int x2), some (.int x3), some (.int x4), some (.int x5), d6] [] (0 + am_bc mX6_outputOf) (0 + am_bs mX6_outputOf) Q))) : WP mX5_lookAhead 53 [some (.ref o0), some (.ref 9), some (.int x2), some (.int x3), some (.int x4), some (.int x5), d6] [] (G X I L F) 0 0 Q := by
  refine w_iload rX5_lookAhead_53 rfl ?_
  refine w_aload_n rX5_lookAhead_55 rfl ?_
  refine x_getI rX5_lookAhead_56 rfl rfl (G_isk ho0) ?_
  refine w_icmpgt rX5_lookAhead_59 (fun h59 => ?_) (fun h59 => ?_)
  · replace q := q.1 h59
    refine w_return rX5_lookAhead_102 ?_
    exact q
  · replace q := q.2 h59
    refine w_aload_n rX5_lookAhead_62 rfl ?_
    refine w_aload_n rX5_lookAhead_63 rfl ?_
    refine x_getI rX5_lookAhead_64 rfl rfl (G_isk ho0) ?_
    refine w_iload rX5_lookAhead_67 rfl ?_
    refine w_invokevirtual rX5_lookAhead_69 rfl rfl rfl (Nat.le_of_ble_eq_true rfl) ⟨trivial, trivial, trivial, trivial⟩ (G_is (by decide) rfl) (by decide) (by decide) ?_
    exact q
theorem k_X5_lookAhead_72 {X : Nat × (Nat × (Nat → Int32))} {I : Nat → Nat → Int32} {L : Nat → Nat → Int64} {F : Nat → Nat → UInt32} {Q : AQ} {o0 : Nat} {x2 : Int32} {x3 : Int32} {x4 : Int32} {x5 : Int32} {d6 : Option Value} {e0 : UInt32} (ho0 : isRun o0) (q : ∀ I81 : Nat → Nat → Int32, I81 = (if (Op.cmpValue (FP.fcmp e0 (F o0 3)) .l) ≤ 0 then I else (am_u I o0 4 x5) : Nat → Nat → Int32) → ∀ F81 : Nat → Nat → UInt32, F81 = (if (Op.cmpValue (FP.fcmp e0 (F o0 3)) .l) ≤ 0 then F else (am_u F o0 3 e0) : Nat → Nat → UInt32) → (WP mX5_lookAhead 53 [some (.ref o0), some (.ref 9), some (.int x2), some (.int x3), some (.int x4), some (.int (x5 + 1)), some (.float e0)] [] (G X I81 L F81) 0 0 Q)) : WP mX5_lookAhead 72 [some (.ref o0), some (.ref 9), some (.int x2), some (.int x3), some (.int x4), some (.int x5), d6] [.float e0] (G X I L F) 0 0 Q := by
  refine w_fstore rX5_lookAhead_72 rfl trivial ?_
  refine w_fload rX5_lookAhead_74 rfl ?_
  refine w_aload_n rX5_lookAhead_76 rfl ?_
  refine x_getF rX5_lookAhead_77 rfl rfl (G_isk ho0) ?_
  refine w_fcmp rX5_lookAhead_80 ?_
  have j81 : ∀ I81 : Nat → Nat → Int32, I81 = (if (Op.cmpValue (FP.fcmp e0 (F o0 3)) .l) ≤ 0 then I else (am_u I o0 4 x5) : Nat → Nat → Int32) → ∀ F81 : Nat → Nat → UInt32, F81 = (if (Op.cmpValue (FP.fcmp e0 (F o0 3)) .l) ≤ 0 then F else (am_u F o0 3 e0) : Nat → Nat → UInt32) → WP mX5_lookAhead 96 [some (.ref o0), some (.ref 9), some (.int x2), some (.int x3), some (.int x4), some (.int x5), some (.float e0)] [] (G X I81 L F81) 0 0 Q := by
    intro I81 eI81 F81 eF81
    replace q := q I81 eI81 F81 eF81
    refine w_iinc rX5_lookAhead_96 rfl rfl trivial ?_
    refine w_goto rX5_lookAhead_99 ?_
    exact q
  refine w_ifle rX5_lookAhead_81 (fun h81 => ?_) (fun h81 => ?_)
  · skip
    exact j81 _ (if_pos h81).symm _ (if_pos h81).symm
  · skip
    refine w_aload_n rX5_lookAhead_84 rfl ?_
    refine w_fload rX5_lookAhead_85 rfl ?_
    refine x_putF rX5_lookAhead_87 rfl (G_isk ho0) ?_
    refine w_aload_n rX5_lookAhead_90 rfl ?_
    refine w_iload rX5_lookAhead_91 rfl ?_
    refine x_putI rX5_lookAhead_93 rfl (G_isk ho0) trivial ?_
    exact j81 _ (if_neg h81).symm _ (if_neg h81).symm
theorem k_X6_modelsUnder_0 {X : Nat × (Nat × (Nat → Int32))} {I : Nat → Nat → Int32} {L : Nat → Nat → Int64} {F : Nat → Nat → UInt32} {Q : AQ} {model : Int32} (q : WP mX6_modelsUnder 8 [some (.ref 9), some (.int model), some (.int (f_X6_namedBy model I)), some (.int 0), none] [] (G X I L F) 0 0 Q) : WP mX6_modelsUnder 0 (am_ent 5 [.ref 9, .int model]) [] (G X I L F) 0 0 Q := by
  refine w_aload_n rX6_modelsUnder_0 rfl ?_
  refine w_iload_n rX6_modelsUnder_1 rfl ?_
  refine w_invokevirtual rX6_modelsUnder_2 rfl rfl rfl (Nat.le_of_ble_eq_true rfl) ⟨trivial, trivial, trivial⟩ (G_is (by decide) rfl) (by decide) (by decide) ?_
  refine s_X6_namedBy ?_
  show WP mX6_modelsUnder 5 _ _ _ 0 0 _
  refine w_istore_n rX6_modelsUnder_5 rfl trivial ?_
  refine w_iconst rX6_modelsUnder_6 (x := 0) (by decide) ?_
  refine w_istore_n rX6_modelsUnder_7 rfl trivial ?_
  exact q
theorem k_X6_modelsUnder_8 {X : Nat × (Nat × (Nat → Int32))} {I : Nat → Nat → Int32} {L : Nat → Nat → Int64} {F : Nat → Nat → UInt32} {Q : AQ} {x1 : Int32} {x2 : Int32} {x3 : Int32} {d4 : Option Value} (q : (6 ≤ x3 → Q (.inl (some (.int x2))) (G X I L F)) ∧ (¬ 6 ≤ x3 → WP mX6_modelsUnder 17 [some (.ref 9), some (.int x1), some (.int x2), some (.int x3), some (.int 0)] [] (G X I L F) 0 0 Q)) : WP mX6_modelsUnder 8 [some (.ref 9), some (.int x1), some (.int x2), some (.int x3), d4] [] (G X I L F) 0 0 Q := by
  refine w_iload_n rX6_modelsUnder_8 rfl ?_
  refine w_bipush rX6_modelsUnder_9 (x := 6) (by decide) ?_
  refine w_icmpge rX6_modelsUnder_11 (fun h11 => ?_) (fun h11 => ?_)
  · replace q := q.1 h11
    refine w_iload_n rX6_modelsUnder_58 rfl ?_
    refine w_ireturn rX6_modelsUnder_59 trivial ?_
    exact q
  · replace q := q.2 h11
    refine w_iconst rX6_modelsUnder_14 (x := 0) (by decide) ?_
    refine w_istore rX6_modelsUnder_15 rfl trivial ?_
    exact q
theorem k_X6_modelsUnder_17 {X : Nat × (Nat × (Nat → Int32))} {I : Nat → Nat → Int32} {L : Nat → Nat → Int64} {F : Nat → Nat → UInt32} {Q : AQ} {x1 : Int32} {x2 : Int32} {x3 : Int32} {x4 : Int32} (q : (6 ≤ x4 → WP mX6_modelsUnder 8 [some (.ref 9), some (.int x1), some (.int x2), some (.int (x3 + 1)), some (.int x4)] [] (G X I L F) 0 0 Q) ∧ (¬ 6 ≤ x4 → ∀ s31_1 : Int32, s31_1 = (if (((x2 : Int32) >>> (x4 &&& 31 : Int32)) &&& 1) = 0 then 0 else (f_X6_namedBy x4 I) : Int32) → (WP mX6_modelsUnder 17 [some (.ref 9), some (.int x1), some (.int (x2 ||| s31_1)), some (.int x3), some (.int (x4 + 1))] [] (G X I L F) 0 0 Q))) : WP mX6_modelsUnder 17 [some (.ref 9), some (.int x1), some (.int x2), some (.int x3), some (.int x4)] [] (G X I L F) 0 0 Q := by
  refine w_iload rX6_modelsUnder_17 rfl ?_
  refine w_bipush rX6_modelsUnder_19 (x := 6) (by decide) ?_
  refine w_icmpge rX6_modelsUnder_21 (fun h21 => ?_) (fun h21 => ?_)
  · replace q := q.1 h21
    refine w_iinc rX6_modelsUnder_52 rfl rfl trivial ?_
    refine w_goto rX6_modelsUnder_55 ?_
    exact q
  · replace q := q.2 h21
    refine w_iload_n rX6_modelsUnder_24 rfl ?_
    refine w_iload_n rX6_modelsUnder_25 rfl ?_
    refine w_iload rX6_modelsUnder_26 rfl ?_
    refine w_ishr rX6_modelsUnder_28 ?_
    refine w_iconst rX6_modelsUnder_29 (x := 1) (by decide) ?_
    refine w_iand rX6_modelsUnder_30 ?_
    have j31 : ∀ s31_1 : Int32, s31_1 = (if (((x2 : Int32) >>> (x4 &&& 31 : Int32)) &&& 1) = 0 then 0 else (f_X6_namedBy x4 I) : Int32) → WP mX6_modelsUnder 44 [some (.ref 9), some (.int x1), some (.int x2), some (.int x3), some (.int x4)] [.int s31_1, .int x2] (G X I L F) 0 0 Q := by
      intro s31_1 es31_1
      replace q := q s31_1 es31_1
      refine w_ior rX6_modelsUnder_44 ?_
      refine w_istore_n rX6_modelsUnder_45 rfl trivial ?_
      refine w_iinc rX6_modelsUnder_46 rfl rfl trivial ?_
      refine w_goto rX6_modelsUnder_49 ?_
      exact q
    refine w_ifeq rX6_modelsUnder_31 (fun h31 => ?_) (fun h31 => ?_)
    · skip
      refine w_iconst rX6_modelsUnder_43 (x := 0) (by decide) ?_
      exact j31 _ (if_pos h31).symm
    · skip
      refine w_aload_n rX6_modelsUnder_34 rfl ?_
      refine w_iload rX6_modelsUnder_35 rfl ?_
      refine w_invokevirtual rX6_modelsUnder_37 rfl rfl rfl (Nat.le_of_ble_eq_true rfl) ⟨trivial, trivial, trivial⟩ (G_is (by decide) rfl) (by decide) (by decide) ?_
      refine s_X6_namedBy ?_
      show WP mX6_modelsUnder 40 _ _ _ 0 0 _
      refine w_goto rX6_modelsUnder_40 ?_
      exact j31 _ (if_neg h31).symm
theorem k_X6_modelsOn_0 {X : Nat × (Nat × (Nat → Int32))} {I : Nat → Nat → Int32} {L : Nat → Nat → Int64} {F : Nat → Nat → UInt32} {Q : AQ} {model : Int32} (q : WP mX6_modelsOn 4 [some (.ref 9), some (.int model), some (.int 0), some (.int 0)] [] (G X I L F) 0 0 Q) : WP mX6_modelsOn 0 (am_ent 4 [.ref 9, .int model]) [] (G X I L F) 0 0 Q := by
  refine w_iconst rX6_modelsOn_0 (x := 0) (by decide) ?_
  refine w_istore_n rX6_modelsOn_1 rfl trivial ?_
  refine w_iconst rX6_modelsOn_2 (x := 0) (by decide) ?_
  refine w_istore_n rX6_modelsOn_3 rfl trivial ?_
  exact q
theorem k_X6_modelsOn_4 {X : Nat × (Nat × (Nat → Int32))} {I : Nat → Nat → Int32} {L : Nat → Nat → Int64} {F : Nat → Nat → UInt32} {Q : AQ} {x1 : Int32} {x2 : Int32} {x3 : Int32} (q : (6 ≤ x3 → Q (.inl (some (.int x2))) (G X I L F)) ∧ (¬ 6 ≤ x3 → WP mX6_modelsUnder 0 (am_ent 5 [.ref 9, .int x3]) [] (G X I L F) 0 0 (am_kq mX6_modelsOn 13 [some (.ref 9), some (.int x1), some (.int x2), some (.int x3)] [.int x2] (0 + am_bc mX6_modelsUnder) (0 + am_bs mX6_modelsUnder) Q))) : WP mX6_modelsOn 4 [some (.ref 9), some (.int x1), some (.int x2), some (.int x3)] [] (G X I L F) 0 0 Q := by
  refine w_iload_n rX6_modelsOn_4 rfl ?_
  refine w_bipush rX6_modelsOn_5 (x := 6) (by decide) ?_
  refine w_icmpge rX6_modelsOn_7 (fun h7 => ?_) (fun h7 => ?_)
  · replace q := q.1 h7
    refine w_iload_n rX6_modelsOn_30 rfl ?_
    refine w_ireturn rX6_modelsOn_31 trivial ?_
    exact q
  · replace q := q.2 h7
    refine w_iload_n rX6_modelsOn_10 rfl ?_
    refine w_aload_n rX6_modelsOn_11 rfl ?_
    refine w_iload_n rX6_modelsOn_12 rfl ?_
    refine w_invokevirtual rX6_modelsOn_13 rfl rfl rfl (Nat.le_of_ble_eq_true rfl) ⟨trivial, trivial, trivial⟩ (G_is (by decide) rfl) (by decide) (by decide) ?_
    exact q
theorem k_X6_modelsOn_16 {X : Nat × (Nat × (Nat → Int32))} {I : Nat → Nat → Int32} {L : Nat → Nat → Int64} {F : Nat → Nat → UInt32} {Q : AQ} {x1 : Int32} {x2 : Int32} {x3 : Int32} {e0 : Int32} {e1 : Int32} (q : WP mX6_modelsOn 4 [some (.ref 9), some (.int x1), some (.int (e0 ||| (((((e1 : Int32) >>> (x1 &&& 31 : Int32)) &&& 1) : Int32) <<< (x3 &&& 31 : Int32)))), some (.int (x3 + 1))] [] (G X I L F) 0 0 Q) : WP mX6_modelsOn 16 [some (.ref 9), some (.int x1), some (.int x2), some (.int x3)] [.int e1, .int e0] (G X I L F) 0 0 Q := by
  refine w_iload_n rX6_modelsOn_16 rfl ?_
  refine w_ishr rX6_modelsOn_17 ?_
  refine w_iconst rX6_modelsOn_18 (x := 1) (by decide) ?_
  refine w_iand rX6_modelsOn_19 ?_
  refine w_iload_n rX6_modelsOn_20 rfl ?_
  refine w_ishl rX6_modelsOn_21 ?_
  refine w_ior rX6_modelsOn_22 ?_
  refine w_istore_n rX6_modelsOn_23 rfl trivial ?_
  refine w_iinc rX6_modelsOn_24 rfl rfl trivial ?_
  refine w_goto rX6_modelsOn_27 ?_
  exact q
theorem k_X6_mayTake_0 {X : Nat × (Nat × (Nat → Int32))} {I : Nat → Nat → Int32} {L : Nat → Nat → Int64} {F : Nat → Nat → UInt32} {Q : AQ} {model : Int32} {o : Nat} (ho : isFor o) (q : WP mX6_modelsOn 0 (am_ent 4 [.ref 9, .int model]) [] (G X I L F) 0 0 (am_kq mX6_mayTake 2 [some (.ref 9), some (.int model), some (.ref o), none, none] [] (0 + am_bc mX6_modelsOn) (0 + am_bs mX6_modelsOn) Q)) : WP mX6_mayTake 0 (am_ent 5 [.ref 9, .int model, .ref o]) [] (G X I L F) 0 0 Q := by
  refine w_aload_n rX6_mayTake_0 rfl ?_
  refine w_iload_n rX6_mayTake_1 rfl ?_
  refine w_invokevirtual rX6_mayTake_2 rfl rfl rfl (Nat.le_of_ble_eq_true rfl) ⟨trivial, trivial, trivial⟩ (G_is (by decide) rfl) (by decide) (by decide) ?_
  exact q
theorem k_X6_mayTake_5 {X : Nat × (Nat × (Nat → Int32))} {I : Nat → Nat → Int32} {L : Nat → Nat → Int64} {F : Nat → Nat → UInt32} {Q : AQ} {x1 : Int32} {o2 : Nat} {e0 : Int32} (ho2 : isFor o2) (q : (((e0 ||| ((1 : Int32) <<< (x1 &&& 31 : Int32))) &&& (I o2 3)) = 0 → WP mX6_mayTake 24 [some (.ref 9), some (.int x1), some (.ref o2), some (.int e0), some (.int 0)] [] (G X I L F) 0 0 Q) ∧ (¬ ((e0 ||| ((1 : Int32) <<< (x1 &&& 31 : Int32))) &&& (I o2 3)) = 0 → Q (.inl (some (.int 0))) (G X I L F))) : WP mX6_mayTake 5 [some (.ref 9), some (.int x1), some (.ref o2), none, none] [.int e0] (G X I L F) 0 0 Q := by
  refine w_istore_n rX6_mayTake_5 rfl trivial ?_
  refine w_iload_n rX6_mayTake_6 rfl ?_
  refine w_iconst rX6_mayTake_7 (x := 1) (by decide) ?_
  refine w_iload_n rX6_mayTake_8 rfl ?_
  refine w_ishl rX6_mayTake_9 ?_
  refine w_ior rX6_mayTake_10 ?_
  refine w_aload_n rX6_mayTake_11 rfl ?_
  refine x_getI rX6_mayTake_12 rfl rfl (G_isk ho2.1) ?_
  refine w_iand rX6_mayTake_15 ?_
  refine w_ifeq rX6_mayTake_16 (fun h16 => ?_) (fun h16 => ?_)
  · replace q := q.1 h16
    refine w_iconst rX6_mayTake_21 (x := 0) (by decide) ?_
    refine w_istore rX6_mayTake_22 rfl trivial ?_
    exact q
  · replace q := q.2 h16
    refine w_iconst rX6_mayTake_19 (x := 0) (by decide) ?_
    refine w_ireturn rX6_mayTake_20 (Or.inl rfl) ?_
    exact q
theorem k_X6_mayTake_24 {X : Nat × (Nat × (Nat → Int32))} {I : Nat → Nat → Int32} {L : Nat → Nat → Int64} {F : Nat → Nat → UInt32} {Q : AQ} {x1 : Int32} {o2 : Nat} {x3 : Int32} {x4 : Int32} (ho2 : isFor o2) (q : (6 ≤ x4 → ∀ s74_0 : Int32, s74_0 = (if 60 < (((I 9 4) + 1) + (f_J6_bitCount_0f7a4 x3)) then 0 else 1 : Int32) → ((s74_0 = 0 ∨ s74_0 = 1) ∧ (Q (.inl (some (.int s74_0))) (G X I L F)))) ∧ (¬ 6 ≤ x4 → (((((I o2 3) : Int32) >>> (x4 &&& 31 : Int32)) &&& 1) = 0 → WP mX6_mayTake 24 [some (.ref 9), some (.int x1), some (.ref o2), some (.int x3), some (.int (x4 + 1))] [] (G X I L F) 0 0 Q) ∧ (¬ ((((I o2 3) : Int32) >>> (x4 &&& 31 : Int32)) &&& 1) = 0 → ((f_X6_latestOf x4 I) = (-1) → Q (.inl (some (.int 0))) (G X I L F)) ∧ (¬ (f_X6_latestOf x4 I) = (-1) → WP mX6_mayTake 24 [some (.ref 9), some (.int x1), some (.ref o2), some (.int x3), some (.int (x4 + 1))] [] (G X I L F) 0 0 Q)))) : WP mX6_mayTake 24 [some (.ref 9), some (.int x1), some (.ref o2), some (.int x3), some (.int x4)] [] (G X I L F) 0 0 Q := by
  refine w_iload rX6_mayTake_24 rfl ?_
  refine w_bipush rX6_mayTake_26 (x := 6) (by decide) ?_
  refine w_icmpge rX6_mayTake_28 (fun h28 => ?_) (fun h28 => ?_)
  · replace q := q.1 h28
    refine w_aload_n rX6_mayTake_61 rfl ?_
    refine x_getI rX6_mayTake_62 rfl rfl (G_is (by decide) rfl) ?_
    refine w_iconst rX6_mayTake_65 (x := 1) (by decide) ?_
    refine w_iadd rX6_mayTake_66 ?_
    refine w_iload_n rX6_mayTake_67 rfl ?_
    refine w_invokestatic rX6_mayTake_68 rfl rfl rfl (Nat.le_of_ble_eq_true rfl) ⟨trivial, trivial⟩ trivial (by decide) (by decide) ?_
    refine s_J6_bitCount_0f7a4 ?_
    show WP mX6_mayTake 71 _ _ _ 0 0 _
    refine w_iadd rX6_mayTake_71 ?_
    refine w_bipush rX6_mayTake_72 (x := 60) (by decide) ?_
    have j74 : ∀ s74_0 : Int32, s74_0 = (if 60 < (((I 9 4) + 1) + (f_J6_bitCount_0f7a4 x3)) then 0 else 1 : Int32) → WP mX6_mayTake 82 [some (.ref 9), some (.int x1), some (.ref o2), some (.int x3), some (.int x4)] [.int s74_0] (G X I L F) 0 0 Q := by
      intro s74_0 es74_0
      replace q := q s74_0 es74_0
      have z82 := q.1
      replace q := q.2
      refine w_ireturn rX6_mayTake_82 z82 ?_
      exact q
    refine w_icmpgt rX6_mayTake_74 (fun h74 => ?_) (fun h74 => ?_)
    · skip
      refine w_iconst rX6_mayTake_81 (x := 0) (by decide) ?_
      exact j74 _ (if_pos h74).symm
    · skip
      refine w_iconst rX6_mayTake_77 (x := 1) (by decide) ?_
      refine w_goto rX6_mayTake_78 ?_
      exact j74 _ (if_neg h74).symm
  · replace q := q.2 h28
    refine w_aload_n rX6_mayTake_31 rfl ?_
    refine x_getI rX6_mayTake_32 rfl rfl (G_isk ho2.1) ?_
    refine w_iload rX6_mayTake_35 rfl ?_
    refine w_ishr rX6_mayTake_37 ?_
    refine w_iconst rX6_mayTake_38 (x := 1) (by decide) ?_
    refine w_iand rX6_mayTake_39 ?_
    refine w_ifeq rX6_mayTake_40 (fun h40 => ?_) (fun h40 => ?_)
    · replace q := q.1 h40
      refine w_iinc rX6_mayTake_55 rfl rfl trivial ?_
      refine w_goto rX6_mayTake_58 ?_
      exact q
    · replace q := q.2 h40
      refine w_aload_n rX6_mayTake_43 rfl ?_
      refine w_iload rX6_mayTake_44 rfl ?_
      refine w_invokevirtual rX6_mayTake_46 rfl rfl rfl (Nat.le_of_ble_eq_true rfl) ⟨trivial, trivial, trivial⟩ (G_is (by decide) rfl) (by decide) (by decide) ?_
      refine s_X6_latestOf ?_
      show WP mX6_mayTake 49 _ _ _ 0 0 _
      refine w_iconst rX6_mayTake_49 (x := -1) (by decide) ?_
      refine w_icmpne rX6_mayTake_50 (fun h50 => ?_) (fun h50 => ?_)
      · replace q := q.2 h50
        refine w_iinc rX6_mayTake_55 rfl rfl trivial ?_
        refine w_goto rX6_mayTake_58 ?_
        exact q
      · replace q := q.1 h50
        refine w_iconst rX6_mayTake_53 (x := 0) (by decide) ?_
        refine w_ireturn rX6_mayTake_54 (Or.inl rfl) ?_
        exact q
theorem k_X6_take_0 {X : Nat × (Nat × (Nat → Int32))} {I : Nat → Nat → Int32} {L : Nat → Nat → Int64} {F : Nat → Nat → UInt32} {Q : AQ} {model : Int32} {o : Nat} (ho : isFor o) (q : WP mX6_shelve 0 (am_ent 6 [.ref 9, .int model, .ref o]) [] (G X I L F) 0 0 (am_kq mX6_take 3 [some (.ref 9), some (.int model), some (.ref o), none, none, none, none] [] (0 + am_bc mX6_shelve) (0 + am_bs mX6_shelve) Q)) : WP mX6_take 0 (am_ent 7 [.ref 9, .int model, .ref o]) [] (G X I L F) 0 0 Q := by
  refine w_aload_n rX6_take_0 rfl ?_
  refine w_iload_n rX6_take_1 rfl ?_
  refine w_aload_n rX6_take_2 rfl ?_
  refine w_invokevirtual rX6_take_3 rfl rfl rfl (Nat.le_of_ble_eq_true rfl) ⟨trivial, trivial, trivial, trivial⟩ (G_is (by decide) rfl) (by decide) (by decide) ?_
  exact q
theorem k_X6_take_6 {X : Nat × (Nat × (Nat → Int32))} {I : Nat → Nat → Int32} {L : Nat → Nat → Int64} {F : Nat → Nat → UInt32} {Q : AQ} {x1 : Int32} {o2 : Nat} {e0 : Int32} (ho2 : isFor o2) (q : WP mX6_nextToBind 0 (am_ent 3 [.ref 9]) [] (G X I L F) 0 0 (am_kq mX6_take 8 [some (.ref 9), some (.int x1), some (.ref o2), some (.int e0), none, none, none] [] (0 + am_bc mX6_nextToBind) (0 + am_bs mX6_nextToBind) Q)) : WP mX6_take 6 [some (.ref 9), some (.int x1), some (.ref o2), none, none, none, none] [.int e0] (G X I L F) 0 0 Q := by
  refine w_istore_n rX6_take_6 rfl trivial ?_
  refine w_aload_n rX6_take_7 rfl ?_
  refine w_invokevirtual rX6_take_8 rfl rfl rfl (Nat.le_of_ble_eq_true rfl) ⟨trivial, trivial⟩ (G_is (by decide) rfl) (by decide) (by decide) ?_
  exact q
theorem k_X6_take_11 {X : Nat × (Nat × (Nat → Int32))} {I : Nat → Nat → Int32} {L : Nat → Nat → Int64} {F : Nat → Nat → UInt32} {Q : AQ} {x1 : Int32} {o2 : Nat} {x3 : Int32} {e0 : Int32} (ho2 : isFor o2) (q : WP mX6_take 16 [some (.ref 9), some (.int x1), some (.ref o2), some (.int x3), some (.int e0), some (.int 0), none] [] (G X I L F) 0 0 Q) : WP mX6_take 11 [some (.ref 9), some (.int x1), some (.ref o2), some (.int x3), none, none, none] [.int e0] (G X I L F) 0 0 Q := by
  refine w_istore rX6_take_11 rfl trivial ?_
  refine w_iconst rX6_take_13 (x := 0) (by decide) ?_
  refine w_istore rX6_take_14 rfl trivial ?_
  exact q
theorem k_X6_take_16 {X : Nat × (Nat × (Nat → Int32))} {I : Nat → Nat → Int32} {L : Nat → Nat → Int64} {F : Nat → Nat → UInt32} {Q : AQ} {x1 : Int32} {o2 : Nat} {x3 : Int32} {x4 : Int32} {x5 : Int32} {d6 : Option Value} (ho2 : isFor o2) (q : (6 ≤ x5 → Q (.inl (some (.int x3))) (G X I L F)) ∧ (¬ 6 ≤ x5 → ((f_X6_has x4 I) = 0 → Q (.inl (some (.int x3))) (G X I L F)) ∧ (¬ (f_X6_has x4 I) = 0 → WP mX6_shelve 0 (am_ent 6 [.ref 9, .int (I (19 + 6 * Int32.toNatClampNeg x4) 3), .ref ((19 + 6 * Int32.toNatClampNeg x4) + 1)]) [] (G X I L F) 0 0 (am_kq mX6_take 52 [some (.ref 9), some (.int x1), some (.ref o2), some (.int x3), some (.int x4), some (.int x5), some (.ref (19 + 6 * Int32.toNatClampNeg x4))] [] (0 + am_bc mX6_shelve) (0 + am_bs mX6_shelve) Q)))) : WP mX6_take 16 [some (.ref 9), some (.int x1), some (.ref o2), some (.int x3), some (.int x4), some (.int x5), d6] [] (G X I L F) 0 0 Q := by
  refine w_iload rX6_take_16 rfl ?_
  refine w_bipush rX6_take_18 (x := 6) (by decide) ?_
  refine w_icmpge rX6_take_20 (fun h20 => ?_) (fun h20 => ?_)
  · replace q := q.1 h20
    refine w_iload_n rX6_take_68 rfl ?_
    refine w_ireturn rX6_take_69 trivial ?_
    exact q
  · replace q := q.2 h20
    refine w_aload_n rX6_take_23 rfl ?_
    refine w_iload rX6_take_24 rfl ?_
    refine w_invokevirtual rX6_take_26 rfl rfl rfl (Nat.le_of_ble_eq_true rfl) ⟨trivial, trivial, trivial⟩ (G_is (by decide) rfl) (by decide) (by decide) ?_
    refine s_X6_has ?_
    show WP mX6_take 29 _ _ _ 0 0 _
    refine w_ifeq rX6_take_29 (fun h29 => ?_) (fun h29 => ?_)
    · replace q := q.1 h29
      refine w_iload_n rX6_take_68 rfl ?_
      refine w_ireturn rX6_take_69 trivial ?_
      exact q
    · replace q := q.2 h29
      refine w_aload_n rX6_take_32 rfl ?_
      refine w_getR rX6_take_33 rfl rfl (G_is (by decide) rfl) (x := 13) rfl ?_
      refine w_iload rX6_take_36 rfl ?_
      refine w_aaload rX6_take_38 (G_aa (by decide) rfl rfl (gd_X6_has h29)) (ga_ver (gd_X6_has h29)) ?_
      refine w_astore rX6_take_39 rfl trivial ?_
      refine w_aload_n rX6_take_41 rfl ?_
      refine w_aload rX6_take_42 rfl ?_
      refine x_getI rX6_take_44 rfl rfl (G_isk (gi_ver (gd_X6_has h29)).1) ?_
      refine w_aload rX6_take_47 rfl ?_
      refine w_getR rX6_take_49 rfl rfl (G_isk (gi_ver (gd_X6_has h29)).1) (gi_ver (gd_X6_has h29)).2.1 ?_
      refine w_invokevirtual rX6_take_52 rfl rfl rfl (Nat.le_of_ble_eq_true rfl) ⟨trivial, trivial, trivial, trivial⟩ (G_is (by decide) rfl) (by decide) (by decide) ?_
      exact q
theorem k_X6_take_55 {X : Nat × (Nat × (Nat → Int32))} {I : Nat → Nat → Int32} {L : Nat → Nat → Int64} {F : Nat → Nat → UInt32} {Q : AQ} {x1 : Int32} {o2 : Nat} {x3 : Int32} {x4 : Int32} {x5 : Int32} {o6 : Nat} {e0 : Int32} (ho2 : isFor o2) (ho6 : isVer o6) (q : WP mX6_nextToBind 0 (am_ent 3 [.ref 9]) [] (G X I L F) 0 0 (am_kq mX6_take 57 [some (.ref 9), some (.int x1), some (.ref o2), some (.int x3), some (.int x4), some (.int x5), some (.ref o6)] [] (0 + am_bc mX6_nextToBind) (0 + am_bs mX6_nextToBind) Q)) : WP mX6_take 55 [some (.ref 9), some (.int x1), some (.ref o2), some (.int x3), some (.int x4), some (.int x5), some (.ref o6)] [.int e0] (G X I L F) 0 0 Q := by
  refine w_pop rX6_take_55 trivial ?_
  refine w_aload_n rX6_take_56 rfl ?_
  refine w_invokevirtual rX6_take_57 rfl rfl rfl (Nat.le_of_ble_eq_true rfl) ⟨trivial, trivial⟩ (G_is (by decide) rfl) (by decide) (by decide) ?_
  exact q
theorem k_X6_take_60 {X : Nat × (Nat × (Nat → Int32))} {I : Nat → Nat → Int32} {L : Nat → Nat → Int64} {F : Nat → Nat → UInt32} {Q : AQ} {x1 : Int32} {o2 : Nat} {x3 : Int32} {x4 : Int32} {x5 : Int32} {o6 : Nat} {e0 : Int32} (ho2 : isFor o2) (ho6 : isVer o6) (q : WP mX6_take 16 [some (.ref 9), some (.int x1), some (.ref o2), some (.int x3), some (.int e0), some (.int (x5 + 1)), some (.ref o6)] [] (G X I L F) 0 0 Q) : WP mX6_take 60 [some (.ref 9), some (.int x1), some (.ref o2), some (.int x3), some (.int x4), some (.int x5), some (.ref o6)] [.int e0] (G X I L F) 0 0 Q := by
  refine w_istore rX6_take_60 rfl trivial ?_
  refine w_iinc rX6_take_62 rfl rfl trivial ?_
  refine w_goto rX6_take_65 ?_
  exact q
theorem k_X6_shelve_0 {X : Nat × (Nat × (Nat → Int32))} {I : Nat → Nat → Int32} {L : Nat → Nat → Int64} {F : Nat → Nat → UInt32} {Q : AQ} {model : Int32} {o : Nat} (ho : isFor o) (q : ((I 9 4) < 0 → Q (.inl (some (.int (-1)))) (G X I L F)) ∧ (¬ (I 9 4) < 0 → (60 ≤ (I 9 4) → Q (.inl (some (.int (-1)))) (G X I L F)) ∧ (¬ 60 ≤ (I 9 4) → ((f_X9_isModel model) = 0 → Q (.inl (some (.int (-1)))) (G X I L F)) ∧ (¬ (f_X9_isModel model) = 0 → WP mX2_copy 0 (am_ent 3 [.ref ((19 + 6 * Int32.toNatClampNeg (I 9 4)) + 1), .ref o]) [] (G X (am_u I (19 + 6 * Int32.toNatClampNeg (I 9 4)) 3 model) L F) 0 0 (am_kq mX6_shelve 48 [some (.ref 9), some (.int model), some (.ref o), some (.ref (19 + 6 * Int32.toNatClampNeg (I 9 4))), none, none] [] (0 + am_bc mX2_copy) (0 + am_bs mX2_copy) Q))))) : WP mX6_shelve 0 (am_ent 6 [.ref 9, .int model, .ref o]) [] (G X I L F) 0 0 Q := by
  refine w_aload_n rX6_shelve_0 rfl ?_
  refine x_getI rX6_shelve_1 rfl rfl (G_is (by decide) rfl) ?_
  refine w_iflt rX6_shelve_4 (fun h4 => ?_) (fun h4 => ?_)
  · replace q := q.1 h4
    refine w_iconst rX6_shelve_26 (x := -1) (by decide) ?_
    refine w_ireturn rX6_shelve_27 trivial ?_
    exact q
  · replace q := q.2 h4
    refine w_aload_n rX6_shelve_7 rfl ?_
    refine x_getI rX6_shelve_8 rfl rfl (G_is (by decide) rfl) ?_
    refine w_aload_n rX6_shelve_11 rfl ?_
    refine w_getR rX6_shelve_12 rfl rfl (G_is (by decide) rfl) (x := 13) rfl ?_
    refine G_lenc rX6_shelve_15 (by decide) rfl (n := 60) rfl (x := 60) (by decide) ?_
    refine w_icmpge rX6_shelve_16 (fun h16 => ?_) (fun h16 => ?_)
    · replace q := q.1 h16
      refine w_iconst rX6_shelve_26 (x := -1) (by decide) ?_
      refine w_ireturn rX6_shelve_27 trivial ?_
      exact q
    · replace q := q.2 h16
      refine w_iload_n rX6_shelve_19 rfl ?_
      refine w_invokestatic rX6_shelve_20 rfl rfl rfl (Nat.le_of_ble_eq_true rfl) ⟨trivial, trivial⟩ trivial (by decide) (by decide) ?_
      refine s_X9_isModel ?_
      show WP mX6_shelve 23 _ _ _ 0 0 _
      refine w_ifne rX6_shelve_23 (fun h23 => ?_) (fun h23 => ?_)
      · replace q := q.2 h23
        refine w_aload_n rX6_shelve_28 rfl ?_
        refine w_getR rX6_shelve_29 rfl rfl (G_is (by decide) rfl) (x := 13) rfl ?_
        refine w_aload_n rX6_shelve_32 rfl ?_
        refine x_getI rX6_shelve_33 rfl rfl (G_is (by decide) rfl) ?_
        refine w_aaload rX6_shelve_36 (G_aa (by decide) rfl rfl (vi_b (n := 60) (by decide) (by decide) h4 h16)) (ga_ver (vi_b (n := 60) (by decide) (by decide) h4 h16)) ?_
        refine w_astore_n rX6_shelve_37 rfl trivial ?_
        refine w_aload_n rX6_shelve_38 rfl ?_
        refine w_iload_n rX6_shelve_39 rfl ?_
        refine x_putI rX6_shelve_40 rfl (G_isk (gi_ver (vi_b (n := 60) (by decide) (by decide) h4 h16)).1) trivial ?_
        refine w_aload_n rX6_shelve_43 rfl ?_
        refine w_getR rX6_shelve_44 rfl rfl (G_isk (gi_ver (vi_b (n := 60) (by decide) (by decide) h4 h16)).1) (gi_ver (vi_b (n := 60) (by decide) (by decide) h4 h16)).2.1 ?_
        refine w_aload_n rX6_shelve_47 rfl ?_
        refine w_invokevirtual rX6_shelve_48 rfl rfl rfl (Nat.le_of_ble_eq_true rfl) ⟨trivial, trivial, trivial⟩ (G_isk (gi_ver (vi_b (n := 60) (by decide) (by decide) h4 h16)).2.2.2.2.1.1) (by decide) (by decide) ?_
        exact q
      · replace q := q.1 h23
        refine w_iconst rX6_shelve_26 (x := -1) (by decide) ?_
        refine w_ireturn rX6_shelve_27 trivial ?_
        exact q
theorem k_X6_shelve_51 {X : Nat × (Nat × (Nat → Int32))} {I : Nat → Nat → Int32} {L : Nat → Nat → Int64} {F : Nat → Nat → UInt32} {Q : AQ} {x1 : Int32} {o2 : Nat} {o3 : Nat} (ho2 : isFor o2) (ho3 : isVer o3) (q : WP mX6_shelve 72 [some (.ref 9), some (.int x1), some (.ref o2), some (.ref o3), some (.int 0), none] [] (G X (am_u I o3 4 (I o2 4)) (am_u L o3 5 ((1 : Int64) <<< ((Int32.toInt64 ((am_u I o3 4 (I o2 4)) 9 4)) &&& 63 : Int64))) F) 0 0 Q) : WP mX6_shelve 51 [some (.ref 9), some (.int x1), some (.ref o2), some (.ref o3), none, none] [] (G X I L F) 0 0 Q := by
  refine w_aload_n rX6_shelve_51 rfl ?_
  refine w_aload_n rX6_shelve_52 rfl ?_
  refine x_getI rX6_shelve_53 rfl rfl (G_isk ho2.1) ?_
  refine x_putI rX6_shelve_56 rfl (G_isk ho3.1) trivial ?_
  refine w_aload_n rX6_shelve_59 rfl ?_
  refine w_lconst rX6_shelve_60 (x := 1) (by decide) ?_
  refine w_aload_n rX6_shelve_61 rfl ?_
  refine x_getI rX6_shelve_62 rfl rfl (G_is (by decide) rfl) ?_
  refine w_lshl rX6_shelve_65 ?_
  refine x_putL rX6_shelve_66 rfl (G_isk ho3.1) ?_
  refine w_iconst rX6_shelve_69 (x := 0) (by decide) ?_
  refine w_istore rX6_shelve_70 rfl trivial ?_
  exact q
theorem k_X6_shelve_72 {X : Nat × (Nat × (Nat → Int32))} {I : Nat → Nat → Int32} {L : Nat → Nat → Int64} {F : Nat → Nat → UInt32} {Q : AQ} {x1 : Int32} {o2 : Nat} {o3 : Nat} {x4 : Int32} {d5 : Option Value} (ho2 : isFor o2) (ho3 : isVer o3) (q : (6 ≤ x4 → vp_in x1 6 ∧ (Q (.inl (some (.int (((I 9 4) + 1) - 1)))) (G X (am_u (am_u I 14 (Int32.toNatClampNeg x1) (I 9 4)) 9 4 ((I 9 4) + 1)) L F))) ∧ (¬ 6 ≤ x4 → ∀ s88_0 : Int32, s88_0 = (if ((((I o2 3) : Int32) >>> (x4 &&& 31 : Int32)) &&& 1) = 0 then (-1) else (f_X6_latestOf x4 I) : Int32) → (vp_in x4 6 ∧ (∀ I118 : Nat → Nat → Int32, I118 = (if (f_X6_has s88_0 (am_u I (o3 + 4) (Int32.toNatClampNeg x4) s88_0)) = 0 then (am_u I (o3 + 4) (Int32.toNatClampNeg x4) s88_0) else (am_u (am_u I (o3 + 4) (Int32.toNatClampNeg x4) s88_0) o3 4 ((I o3 4) ||| ((am_u I (o3 + 4) (Int32.toNatClampNeg x4) s88_0) (19 + 6 * Int32.toNatClampNeg s88_0) 4))) : Nat → Nat → Int32) → ∀ L118 : Nat → Nat → Int64, L118 = (if (f_X6_has s88_0 (am_u I (o3 + 4) (Int32.toNatClampNeg x4) s88_0)) = 0 then L else (am_u L o3 5 ((L o3 5) ||| (L (19 + 6 * Int32.toNatClampNeg s88_0) 5))) : Nat → Nat → Int64) → (WP mX6_shelve 72 [some (.ref 9), some (.int x1), some (.ref o2), some (.ref o3), some (.int (x4 + 1)), some (.int s88_0)] [] (G X I118 L118 F) 0 0 Q))))) : WP mX6_shelve 72 [some (.ref 9), some (.int x1), some (.ref o2), some (.ref o3), some (.int x4), d5] [] (G X I L F) 0 0 Q := by
  refine w_iload rX6_shelve_72 rfl ?_
  refine w_bipush rX6_shelve_74 (x := 6) (by decide) ?_
  refine w_icmpge rX6_shelve_76 (fun h76 => ?_) (fun h76 => ?_)
  · replace q := q.1 h76
    refine w_aload_n rX6_shelve_165 rfl ?_
    refine w_getR rX6_shelve_166 rfl rfl (G_is (by decide) rfl) (x := 14) rfl ?_
    refine w_iload_n rX6_shelve_169 rfl ?_
    refine w_aload_n rX6_shelve_170 rfl ?_
    refine x_getI rX6_shelve_171 rfl rfl (G_is (by decide) rfl) ?_
    have h174 := q.1
    replace q := q.2
    refine x_iastore rX6_shelve_174 (G_at (by decide) rfl rfl h174) ?_
    refine w_aload_n rX6_shelve_175 rfl ?_
    refine w_dup rX6_shelve_176 trivial ?_
    refine x_getI rX6_shelve_177 rfl rfl (G_is (by decide) rfl) ?_
    rw [au_ne (f := I) (o := 14) (k := (Int32.toNatClampNeg x1)) (a := 9) (b := 4) (fun z => absurd z.1 (by decide))]
    refine w_iconst rX6_shelve_180 (x := 1) (by decide) ?_
    refine w_iadd rX6_shelve_181 ?_
    refine x_putI rX6_shelve_182 rfl (G_is (by decide) rfl) trivial ?_
    refine w_aload_n rX6_shelve_185 rfl ?_
    refine x_getI rX6_shelve_186 rfl rfl (G_is (by decide) rfl) ?_
    rw [am_u_eq (f := (am_u I 14 (Int32.toNatClampNeg x1) (I 9 4))) (o := 9) (k := 4)]
    refine w_iconst rX6_shelve_189 (x := 1) (by decide) ?_
    refine w_isub rX6_shelve_190 ?_
    refine w_ireturn rX6_shelve_191 trivial ?_
    exact q
  · replace q := q.2 h76
    refine w_aload_n rX6_shelve_79 rfl ?_
    refine x_getI rX6_shelve_80 rfl rfl (G_isk ho2.1) ?_
    refine w_iload rX6_shelve_83 rfl ?_
    refine w_ishr rX6_shelve_85 ?_
    refine w_iconst rX6_shelve_86 (x := 1) (by decide) ?_
    refine w_iand rX6_shelve_87 ?_
    have j88 : ∀ s88_0 : Int32, s88_0 = (if ((((I o2 3) : Int32) >>> (x4 &&& 31 : Int32)) &&& 1) = 0 then (-1) else (f_X6_latestOf x4 I) : Int32) → WP mX6_shelve 101 [some (.ref 9), some (.int x1), some (.ref o2), some (.ref o3), some (.int x4), d5] [.int s88_0] (G X I L F) 0 0 Q := by
      intro s88_0 es88_0
      replace q := q s88_0 es88_0
      refine w_istore rX6_shelve_101 rfl trivial ?_
      refine w_aload_n rX6_shelve_103 rfl ?_
      refine w_getR rX6_shelve_104 rfl rfl (G_isk ho3.1) ho3.2.2.1 ?_
      refine w_iload rX6_shelve_107 rfl ?_
      refine w_iload rX6_shelve_109 rfl ?_
      have h111 := q.1
      replace q := q.2
      refine x_iastore rX6_shelve_111 (G_atk ho3.2.2.2.2.2.1 h111) ?_
      refine w_aload_n rX6_shelve_112 rfl ?_
      refine w_iload rX6_shelve_113 rfl ?_
      refine w_invokevirtual rX6_shelve_115 rfl rfl rfl (Nat.le_of_ble_eq_true rfl) ⟨trivial, trivial, trivial⟩ (G_is (by decide) rfl) (by decide) (by decide) ?_
      refine s_X6_has ?_
      show WP mX6_shelve 118 _ _ _ 0 0 _
      have j118 : ∀ I118 : Nat → Nat → Int32, I118 = (if (f_X6_has s88_0 (am_u I (o3 + 4) (Int32.toNatClampNeg x4) s88_0)) = 0 then (am_u I (o3 + 4) (Int32.toNatClampNeg x4) s88_0) else (am_u (am_u I (o3 + 4) (Int32.toNatClampNeg x4) s88_0) o3 4 ((I o3 4) ||| ((am_u I (o3 + 4) (Int32.toNatClampNeg x4) s88_0) (19 + 6 * Int32.toNatClampNeg s88_0) 4))) : Nat → Nat → Int32) → ∀ L118 : Nat → Nat → Int64, L118 = (if (f_X6_has s88_0 (am_u I (o3 + 4) (Int32.toNatClampNeg x4) s88_0)) = 0 then L else (am_u L o3 5 ((L o3 5) ||| (L (19 + 6 * Int32.toNatClampNeg s88_0) 5))) : Nat → Nat → Int64) → WP mX6_shelve 159 [some (.ref 9), some (.int x1), some (.ref o2), some (.ref o3), some (.int x4), some (.int s88_0)] [] (G X I118 L118 F) 0 0 Q := by
        intro I118 eI118 L118 eL118
        replace q := q I118 eI118 L118 eL118
        refine w_iinc rX6_shelve_159 rfl rfl trivial ?_
        refine w_goto rX6_shelve_162 ?_
        exact q
      refine w_ifeq rX6_shelve_118 (fun h118 => ?_) (fun h118 => ?_)
      · skip
        exact j118 _ (if_pos h118).symm _ (if_pos h118).symm
      · skip
        refine w_aload_n rX6_shelve_121 rfl ?_
        refine w_dup rX6_shelve_122 trivial ?_
        refine x_getI rX6_shelve_123 rfl rfl (G_isk ho3.1) ?_
        rw [au_ne (f := I) (o := (o3 + 4)) (k := (Int32.toNatClampNeg x4)) (a := o3) (b := 4) (fun z => absurd z.1 (by omega))]
        refine w_aload_n rX6_shelve_126 rfl ?_
        refine w_getR rX6_shelve_127 rfl rfl (G_is (by decide) rfl) (x := 13) rfl ?_
        refine w_iload rX6_shelve_130 rfl ?_
        refine w_aaload rX6_shelve_132 (G_aa (by decide) rfl rfl (gd_X6_has h118)) (ga_ver (gd_X6_has h118)) ?_
        refine x_getI rX6_shelve_133 rfl rfl (G_isk (gi_ver (gd_X6_has h118)).1) ?_
        refine w_ior rX6_shelve_136 ?_
        refine x_putI rX6_shelve_137 rfl (G_isk ho3.1) trivial ?_
        refine w_aload_n rX6_shelve_140 rfl ?_
        refine w_dup rX6_shelve_141 trivial ?_
        refine x_getL rX6_shelve_142 rfl rfl (G_isk ho3.1) ?_
        refine w_aload_n rX6_shelve_145 rfl ?_
        refine w_getR rX6_shelve_146 rfl rfl (G_is (by decide) rfl) (x := 13) rfl ?_
        refine w_iload rX6_shelve_149 rfl ?_
        refine w_aaload rX6_shelve_151 (G_aa (by decide) rfl rfl (gd_X6_has h118)) (ga_ver (gd_X6_has h118)) ?_
        refine x_getL rX6_shelve_152 rfl rfl (G_isk (gi_ver (gd_X6_has h118)).1) ?_
        refine w_lor rX6_shelve_155 ?_
        refine x_putL rX6_shelve_156 rfl (G_isk ho3.1) ?_
        exact j118 _ (if_neg h118).symm _ (if_neg h118).symm
    refine w_ifeq rX6_shelve_88 (fun h88 => ?_) (fun h88 => ?_)
    · skip
      refine w_iconst rX6_shelve_100 (x := -1) (by decide) ?_
      exact j88 _ (if_pos h88).symm
    · skip
      refine w_aload_n rX6_shelve_91 rfl ?_
      refine w_iload rX6_shelve_92 rfl ?_
      refine w_invokevirtual rX6_shelve_94 rfl rfl rfl (Nat.le_of_ble_eq_true rfl) ⟨trivial, trivial, trivial⟩ (G_is (by decide) rfl) (by decide) (by decide) ?_
      refine s_X6_latestOf ?_
      show WP mX6_shelve 97 _ _ _ 0 0 _
      refine w_goto rX6_shelve_97 ?_
      exact j88 _ (if_neg h88).symm
theorem k_X6_nextToBind_0 {X : Nat × (Nat × (Nat → Int32))} {I : Nat → Nat → Int32} {L : Nat → Nat → Int64} {F : Nat → Nat → UInt32} {Q : AQ}  (q : WP mX6_nextToBind 4 [some (.ref 9), some (.int 0), some (.int 0)] [] (G X I L F) 0 0 Q) : WP mX6_nextToBind 0 (am_ent 3 [.ref 9]) [] (G X I L F) 0 0 Q := by
  refine w_iconst rX6_nextToBind_0 (x := 0) (by decide) ?_
  refine w_istore_n rX6_nextToBind_1 rfl trivial ?_
  refine w_iconst rX6_nextToBind_2 (x := 0) (by decide) ?_
  refine w_istore_n rX6_nextToBind_3 rfl trivial ?_
  exact q
theorem k_X6_nextToBind_4 {X : Nat × (Nat × (Nat → Int32))} {I : Nat → Nat → Int32} {L : Nat → Nat → Int64} {F : Nat → Nat → UInt32} {Q : AQ} {x1 : Int32} {x2 : Int32} (q : (6 ≤ x2 → WP mX6_nextToBind 40 [some (.ref 9), some (.int x1), some (.int 0)] [] (G X I L F) 0 0 Q) ∧ (¬ 6 ≤ x2 → WP mX6_pinsOld 0 (am_ent 4 [.ref 9, .int (f_X6_latestOf x2 I)]) [] (G X I L F) 0 0 (am_kq mX6_nextToBind 17 [some (.ref 9), some (.int x1), some (.int x2)] [.int x1] (0 + am_bc mX6_pinsOld) (0 + am_bs mX6_pinsOld) Q))) : WP mX6_nextToBind 4 [some (.ref 9), some (.int x1), some (.int x2)] [] (G X I L F) 0 0 Q := by
  refine w_iload_n rX6_nextToBind_4 rfl ?_
  refine w_bipush rX6_nextToBind_5 (x := 6) (by decide) ?_
  refine w_icmpge rX6_nextToBind_7 (fun h7 => ?_) (fun h7 => ?_)
  · replace q := q.1 h7
    refine w_iconst rX6_nextToBind_38 (x := 0) (by decide) ?_
    refine w_istore_n rX6_nextToBind_39 rfl trivial ?_
    exact q
  · replace q := q.2 h7
    refine w_iload_n rX6_nextToBind_10 rfl ?_
    refine w_aload_n rX6_nextToBind_11 rfl ?_
    refine w_aload_n rX6_nextToBind_12 rfl ?_
    refine w_iload_n rX6_nextToBind_13 rfl ?_
    refine w_invokevirtual rX6_nextToBind_14 rfl rfl rfl (Nat.le_of_ble_eq_true rfl) ⟨trivial, trivial, trivial⟩ (G_is (by decide) rfl) (by decide) (by decide) ?_
    refine s_X6_latestOf ?_
    show WP mX6_nextToBind 17 _ _ _ 0 0 _
    refine w_invokevirtual rX6_nextToBind_17 rfl rfl rfl (Nat.le_of_ble_eq_true rfl) ⟨trivial, trivial, trivial⟩ (G_is (by decide) rfl) (by decide) (by decide) ?_
    exact q
theorem k_X6_nextToBind_20 {X : Nat × (Nat × (Nat → Int32))} {I : Nat → Nat → Int32} {L : Nat → Nat → Int64} {F : Nat → Nat → UInt32} {Q : AQ} {x1 : Int32} {x2 : Int32} {e0 : Int32} {e1 : Int32} (q : ∀ s20_1 : Int32, s20_1 = (if e1 = 0 then 0 else ((1 : Int32) <<< (x2 &&& 31 : Int32)) : Int32) → (WP mX6_nextToBind 4 [some (.ref 9), some (.int (e0 ||| s20_1)), some (.int (x2 + 1))] [] (G X I L F) 0 0 Q)) : WP mX6_nextToBind 20 [some (.ref 9), some (.int x1), some (.int x2)] [.int e1, .int e0] (G X I L F) 0 0 Q := by
  have j20 : ∀ s20_1 : Int32, s20_1 = (if e1 = 0 then 0 else ((1 : Int32) <<< (x2 &&& 31 : Int32)) : Int32) → WP mX6_nextToBind 30 [some (.ref 9), some (.int x1), some (.int x2)] [.int s20_1, .int e0] (G X I L F) 0 0 Q := by
    intro s20_1 es20_1
    replace q := q s20_1 es20_1
    refine w_ior rX6_nextToBind_30 ?_
    refine w_istore_n rX6_nextToBind_31 rfl trivial ?_
    refine w_iinc rX6_nextToBind_32 rfl rfl trivial ?_
    refine w_goto rX6_nextToBind_35 ?_
    exact q
  refine w_ifeq rX6_nextToBind_20 (fun h20 => ?_) (fun h20 => ?_)
  · skip
    refine w_iconst rX6_nextToBind_29 (x := 0) (by decide) ?_
    exact j20 _ (if_pos h20).symm
  · skip
    refine w_iconst rX6_nextToBind_23 (x := 1) (by decide) ?_
    refine w_iload_n rX6_nextToBind_24 rfl ?_
    refine w_ishl rX6_nextToBind_25 ?_
    refine w_goto rX6_nextToBind_26 ?_
    exact j20 _ (if_neg h20).symm
theorem k_X6_nextToBind_40 {X : Nat × (Nat × (Nat → Int32))} {I : Nat → Nat → Int32} {L : Nat → Nat → Int64} {F : Nat → Nat → UInt32} {Q : AQ} {x1 : Int32} {x2 : Int32} (q : (6 ≤ x2 → Q (.inl (some (.int (-1)))) (G X I L F)) ∧ (¬ 6 ≤ x2 → ((((x1 : Int32) >>> (x2 &&& 31 : Int32)) &&& 1) = 0 → WP mX6_nextToBind 40 [some (.ref 9), some (.int x1), some (.int (x2 + 1))] [] (G X I L F) 0 0 Q) ∧ (¬ (((x1 : Int32) >>> (x2 &&& 31 : Int32)) &&& 1) = 0 → WP mX6_modelsUnder 0 (am_ent 5 [.ref 9, .int x2]) [] (G X I L F) 0 0 (am_kq mX6_nextToBind 56 [some (.ref 9), some (.int x1), some (.int x2)] [] (0 + am_bc mX6_modelsUnder) (0 + am_bs mX6_modelsUnder) Q)))) : WP mX6_nextToBind 40 [some (.ref 9), some (.int x1), some (.int x2)] [] (G X I L F) 0 0 Q := by
  refine w_iload_n rX6_nextToBind_40 rfl ?_
  refine w_bipush rX6_nextToBind_41 (x := 6) (by decide) ?_
  refine w_icmpge rX6_nextToBind_43 (fun h43 => ?_) (fun h43 => ?_)
  · replace q := q.1 h43
    refine w_iconst rX6_nextToBind_76 (x := -1) (by decide) ?_
    refine w_ireturn rX6_nextToBind_77 trivial ?_
    exact q
  · replace q := q.2 h43
    refine w_iload_n rX6_nextToBind_46 rfl ?_
    refine w_iload_n rX6_nextToBind_47 rfl ?_
    refine w_ishr rX6_nextToBind_48 ?_
    refine w_iconst rX6_nextToBind_49 (x := 1) (by decide) ?_
    refine w_iand rX6_nextToBind_50 ?_
    refine w_ifeq rX6_nextToBind_51 (fun h51 => ?_) (fun h51 => ?_)
    · replace q := q.1 h51
      refine w_iinc rX6_nextToBind_70 rfl rfl trivial ?_
      refine w_goto rX6_nextToBind_73 ?_
      exact q
    · replace q := q.2 h51
      refine w_aload_n rX6_nextToBind_54 rfl ?_
      refine w_iload_n rX6_nextToBind_55 rfl ?_
      refine w_invokevirtual rX6_nextToBind_56 rfl rfl rfl (Nat.le_of_ble_eq_true rfl) ⟨trivial, trivial, trivial⟩ (G_is (by decide) rfl) (by decide) (by decide) ?_
      exact q
theorem k_X6_nextToBind_59 {X : Nat × (Nat × (Nat → Int32))} {I : Nat → Nat → Int32} {L : Nat → Nat → Int64} {F : Nat → Nat → UInt32} {Q : AQ} {x1 : Int32} {x2 : Int32} {e0 : Int32} (q : ((e0 &&& x1) = 0 → Q (.inl (some (.int (f_X6_latestOf x2 I)))) (G X I L F)) ∧ (¬ (e0 &&& x1) = 0 → WP mX6_nextToBind 40 [some (.ref 9), some (.int x1), some (.int (x2 + 1))] [] (G X I L F) 0 0 Q)) : WP mX6_nextToBind 59 [some (.ref 9), some (.int x1), some (.int x2)] [.int e0] (G X I L F) 0 0 Q := by
  refine w_iload_n rX6_nextToBind_59 rfl ?_
  refine w_iand rX6_nextToBind_60 ?_
  refine w_ifne rX6_nextToBind_61 (fun h61 => ?_) (fun h61 => ?_)
  · replace q := q.2 h61
    refine w_iinc rX6_nextToBind_70 rfl rfl trivial ?_
    refine w_goto rX6_nextToBind_73 ?_
    exact q
  · replace q := q.1 h61
    refine w_aload_n rX6_nextToBind_64 rfl ?_
    refine w_iload_n rX6_nextToBind_65 rfl ?_
    refine w_invokevirtual rX6_nextToBind_66 rfl rfl rfl (Nat.le_of_ble_eq_true rfl) ⟨trivial, trivial, trivial⟩ (G_is (by decide) rfl) (by decide) (by decide) ?_
    refine s_X6_latestOf ?_
    show WP mX6_nextToBind 69 _ _ _ 0 0 _
    refine w_ireturn rX6_nextToBind_69 trivial ?_
    exact q
theorem k_X6_pinsOld_0 {X : Nat × (Nat × (Nat → Int32))} {I : Nat → Nat → Int32} {L : Nat → Nat → Int64} {F : Nat → Nat → UInt32} {Q : AQ} {ver : Int32} (q : WP mX6_pinsOld 2 [some (.ref 9), some (.int ver), some (.int 0), none] [] (G X I L F) 0 0 Q) : WP mX6_pinsOld 0 (am_ent 4 [.ref 9, .int ver]) [] (G X I L F) 0 0 Q := by
  refine w_iconst rX6_pinsOld_0 (x := 0) (by decide) ?_
  refine w_istore_n rX6_pinsOld_1 rfl trivial ?_
  exact q
theorem k_X6_pinsOld_2 {X : Nat × (Nat × (Nat → Int32))} {I : Nat → Nat → Int32} {L : Nat → Nat → Int64} {F : Nat → Nat → UInt32} {Q : AQ} {x1 : Int32} {x2 : Int32} {d3 : Option Value} (q : (6 ≤ x2 → Q (.inl (some (.int 0))) (G X I L F)) ∧ (¬ 6 ≤ x2 → ((f_X6_pinOf x1 x2 I) = (-1) → WP mX6_pinsOld 2 [some (.ref 9), some (.int x1), some (.int (x2 + 1)), some (.int (f_X6_pinOf x1 x2 I))] [] (G X I L F) 0 0 Q) ∧ (¬ (f_X6_pinOf x1 x2 I) = (-1) → ((f_X6_pinOf x1 x2 I) = (f_X6_latestOf x2 I) → WP mX6_pinsOld 2 [some (.ref 9), some (.int x1), some (.int (x2 + 1)), some (.int (f_X6_pinOf x1 x2 I))] [] (G X I L F) 0 0 Q) ∧ (¬ (f_X6_pinOf x1 x2 I) = (f_X6_latestOf x2 I) → Q (.inl (some (.int 1))) (G X I L F))))) : WP mX6_pinsOld 2 [some (.ref 9), some (.int x1), some (.int x2), d3] [] (G X I L F) 0 0 Q := by
  refine w_iload_n rX6_pinsOld_2 rfl ?_
  refine w_bipush rX6_pinsOld_3 (x := 6) (by decide) ?_
  refine w_icmpge rX6_pinsOld_5 (fun h5 => ?_) (fun h5 => ?_)
  · replace q := q.1 h5
    refine w_iconst rX6_pinsOld_37 (x := 0) (by decide) ?_
    refine w_ireturn rX6_pinsOld_38 (Or.inl rfl) ?_
    exact q
  · replace q := q.2 h5
    refine w_aload_n rX6_pinsOld_8 rfl ?_
    refine w_iload_n rX6_pinsOld_9 rfl ?_
    refine w_iload_n rX6_pinsOld_10 rfl ?_
    refine w_invokevirtual rX6_pinsOld_11 rfl rfl rfl (Nat.le_of_ble_eq_true rfl) ⟨trivial, trivial, trivial, trivial⟩ (G_is (by decide) rfl) (by decide) (by decide) ?_
    refine s_X6_pinOf ?_
    show WP mX6_pinsOld 14 _ _ _ 0 0 _
    refine w_istore_n rX6_pinsOld_14 rfl trivial ?_
    refine w_iload_n rX6_pinsOld_15 rfl ?_
    refine w_iconst rX6_pinsOld_16 (x := -1) (by decide) ?_
    refine w_icmpeq rX6_pinsOld_17 (fun h17 => ?_) (fun h17 => ?_)
    · replace q := q.1 h17
      refine w_iinc rX6_pinsOld_31 rfl rfl trivial ?_
      refine w_goto rX6_pinsOld_34 ?_
      exact q
    · replace q := q.2 h17
      refine w_iload_n rX6_pinsOld_20 rfl ?_
      refine w_aload_n rX6_pinsOld_21 rfl ?_
      refine w_iload_n rX6_pinsOld_22 rfl ?_
      refine w_invokevirtual rX6_pinsOld_23 rfl rfl rfl (Nat.le_of_ble_eq_true rfl) ⟨trivial, trivial, trivial⟩ (G_is (by decide) rfl) (by decide) (by decide) ?_
      refine s_X6_latestOf ?_
      show WP mX6_pinsOld 26 _ _ _ 0 0 _
      refine w_icmpeq rX6_pinsOld_26 (fun h26 => ?_) (fun h26 => ?_)
      · replace q := q.1 h26
        refine w_iinc rX6_pinsOld_31 rfl rfl trivial ?_
        refine w_goto rX6_pinsOld_34 ?_
        exact q
      · replace q := q.2 h26
        refine w_iconst rX6_pinsOld_29 (x := 1) (by decide) ?_
        refine w_ireturn rX6_pinsOld_30 (Or.inr rfl) ?_
        exact q
theorem k_X6_tellRain_0 {X : Nat × (Nat × (Nat → Int32))} {I : Nat → Nat → Int32} {L : Nat → Nat → Int64} {F : Nat → Nat → UInt32} {Q : AQ} {gauge : Int32} {hour : Int32} {mm : Int32} (q : (gauge < 0 → Q (.inl (some (.int 0))) (G X I L F)) ∧ (¬ gauge < 0 → (3 ≤ gauge → Q (.inl (some (.int 0))) (G X I L F)) ∧ (¬ 3 ≤ gauge → ((f_X9_isHour hour) = 0 → Q (.inl (some (.int 0))) (G X I L F)) ∧ (¬ (f_X9_isHour hour) = 0 → WP mX6_tellRain 40 [some (.ref 9), some (.int gauge), some (.int hour), some (.int mm), some (.int (I (16 + Int32.toNatClampNeg gauge) (Int32.toNatClampNeg hour))), some (.int 0), none] [] (G X (am_u I (16 + Int32.toNatClampNeg gauge) (Int32.toNatClampNeg hour) mm) L F) 0 0 Q)))) : WP mX6_tellRain 0 (am_ent 7 [.ref 9, .int gauge, .int hour, .int mm]) [] (G X I L F) 0 0 Q := by
  refine w_iload_n rX6_tellRain_0 rfl ?_
  refine w_iflt rX6_tellRain_1 (fun h1 => ?_) (fun h1 => ?_)
  · replace q := q.1 h1
    refine w_iconst rX6_tellRain_16 (x := 0) (by decide) ?_
    refine w_ireturn rX6_tellRain_17 trivial ?_
    exact q
  · replace q := q.2 h1
    refine w_iload_n rX6_tellRain_4 rfl ?_
    refine w_iconst rX6_tellRain_5 (x := 3) (by decide) ?_
    refine w_icmpge rX6_tellRain_6 (fun h6 => ?_) (fun h6 => ?_)
    · replace q := q.1 h6
      refine w_iconst rX6_tellRain_16 (x := 0) (by decide) ?_
      refine w_ireturn rX6_tellRain_17 trivial ?_
      exact q
    · replace q := q.2 h6
      refine w_iload_n rX6_tellRain_9 rfl ?_
      refine w_invokestatic rX6_tellRain_10 rfl rfl rfl (Nat.le_of_ble_eq_true rfl) ⟨trivial, trivial⟩ trivial (by decide) (by decide) ?_
      refine s_X9_isHour ?_
      show WP mX6_tellRain 13 _ _ _ 0 0 _
      refine w_ifne rX6_tellRain_13 (fun h13 => ?_) (fun h13 => ?_)
      · replace q := q.2 h13
        refine w_aload_n rX6_tellRain_18 rfl ?_
        refine w_getR rX6_tellRain_19 rfl rfl (G_is (by decide) rfl) (x := 15) rfl ?_
        refine w_iload_n rX6_tellRain_22 rfl ?_
        refine w_aaload rX6_tellRain_23 (G_aa (by decide) rfl rfl (vi_b (n := 3) (by decide) (by decide) h1 h6)) (ga_rai (vi_b (n := 3) (by decide) (by decide) h1 h6)) ?_
        refine w_iload_n rX6_tellRain_24 rfl ?_
        refine x_iaload rX6_tellRain_25 (G_atk (gi_rai (vi_b (n := 3) (by decide) (by decide) h1 h6)) (gd_X9_isHour h13)) ?_
        refine w_istore rX6_tellRain_26 rfl trivial ?_
        refine w_aload_n rX6_tellRain_28 rfl ?_
        refine w_getR rX6_tellRain_29 rfl rfl (G_is (by decide) rfl) (x := 15) rfl ?_
        refine w_iload_n rX6_tellRain_32 rfl ?_
        refine w_aaload rX6_tellRain_33 (G_aa (by decide) rfl rfl (vi_b (n := 3) (by decide) (by decide) h1 h6)) (ga_rai (vi_b (n := 3) (by decide) (by decide) h1 h6)) ?_
        refine w_iload_n rX6_tellRain_34 rfl ?_
        refine w_iload_n rX6_tellRain_35 rfl ?_
        refine x_iastore rX6_tellRain_36 (G_atk (gi_rai (vi_b (n := 3) (by decide) (by decide) h1 h6)) (gd_X9_isHour h13)) ?_
        refine w_iconst rX6_tellRain_37 (x := 0) (by decide) ?_
        refine w_istore rX6_tellRain_38 rfl trivial ?_
        exact q
      · replace q := q.1 h13
        refine w_iconst rX6_tellRain_16 (x := 0) (by decide) ?_
        refine w_ireturn rX6_tellRain_17 trivial ?_
        exact q
theorem k_X6_tellRain_40 {X : Nat × (Nat × (Nat → Int32))} {I : Nat → Nat → Int32} {L : Nat → Nat → Int64} {F : Nat → Nat → UInt32} {Q : AQ} {x1 : Int32} {x2 : Int32} {x3 : Int32} {x4 : Int32} {x5 : Int32} {d6 : Option Value} (q : ((I 9 4) ≤ x5 → Q (.inl (some (.int x4))) (G X I L F)) ∧ (¬ (I 9 4) ≤ x5 → (60 ≤ x5 → Q (.inl (some (.int x4))) (G X I L F)) ∧ (¬ 60 ≤ x5 → (x4 = x3 → Q (.inl (some (.int x4))) (G X I L F)) ∧ (¬ x4 = x3 → vp_in x5 60 ∧ (∀ I83 : Nat → Nat → Int32, I83 = (if ((((I (19 + 6 * Int32.toNatClampNeg x5) 4) : Int32) >>> (x1 &&& 31 : Int32)) &&& 1) = 0 then I else (if (I (19 + 6 * Int32.toNatClampNeg x5) 6) ≤ x2 then I else (am_u I (19 + 6 * Int32.toNatClampNeg x5) 6 x2) : Nat → Nat → Int32) : Nat → Nat → Int32) → (WP mX6_tellRain 40 [some (.ref 9), some (.int x1), some (.int x2), some (.int x3), some (.int x4), some (.int (x5 + 1)), some (.ref (19 + 6 * Int32.toNatClampNeg x5))] [] (G X I83 L F) 0 0 Q)))))) : WP mX6_tellRain 40 [some (.ref 9), some (.int x1), some (.int x2), some (.int x3), some (.int x4), some (.int x5), d6] [] (G X I L F) 0 0 Q := by
  refine w_iload rX6_tellRain_40 rfl ?_
  refine w_aload_n rX6_tellRain_42 rfl ?_
  refine x_getI rX6_tellRain_43 rfl rfl (G_is (by decide) rfl) ?_
  refine w_icmpge rX6_tellRain_46 (fun h46 => ?_) (fun h46 => ?_)
  · replace q := q.1 h46
    refine w_iload rX6_tellRain_107 rfl ?_
    refine w_ireturn rX6_tellRain_109 trivial ?_
    exact q
  · replace q := q.2 h46
    refine w_iload rX6_tellRain_49 rfl ?_
    refine w_aload_n rX6_tellRain_51 rfl ?_
    refine w_getR rX6_tellRain_52 rfl rfl (G_is (by decide) rfl) (x := 13) rfl ?_
    refine G_lenc rX6_tellRain_55 (by decide) rfl (n := 60) rfl (x := 60) (by decide) ?_
    refine w_icmpge rX6_tellRain_56 (fun h56 => ?_) (fun h56 => ?_)
    · replace q := q.1 h56
      refine w_iload rX6_tellRain_107 rfl ?_
      refine w_ireturn rX6_tellRain_109 trivial ?_
      exact q
    · replace q := q.2 h56
      refine w_iload rX6_tellRain_59 rfl ?_
      refine w_iload_n rX6_tellRain_61 rfl ?_
      refine w_icmpeq rX6_tellRain_62 (fun h62 => ?_) (fun h62 => ?_)
      · replace q := q.1 h62
        refine w_iload rX6_tellRain_107 rfl ?_
        refine w_ireturn rX6_tellRain_109 trivial ?_
        exact q
      · replace q := q.2 h62
        refine w_aload_n rX6_tellRain_65 rfl ?_
        refine w_getR rX6_tellRain_66 rfl rfl (G_is (by decide) rfl) (x := 13) rfl ?_
        refine w_iload rX6_tellRain_69 rfl ?_
        have h71 := q.1
        replace q := q.2
        refine w_aaload rX6_tellRain_71 (G_aa (by decide) rfl rfl h71) (ga_ver h71) ?_
        refine w_astore rX6_tellRain_72 rfl trivial ?_
        refine w_aload rX6_tellRain_74 rfl ?_
        refine x_getI rX6_tellRain_76 rfl rfl (G_isk (gi_ver h71).1) ?_
        refine w_iload_n rX6_tellRain_79 rfl ?_
        refine w_ishr rX6_tellRain_80 ?_
        refine w_iconst rX6_tellRain_81 (x := 1) (by decide) ?_
        refine w_iand rX6_tellRain_82 ?_
        have j83 : ∀ I83 : Nat → Nat → Int32, I83 = (if ((((I (19 + 6 * Int32.toNatClampNeg x5) 4) : Int32) >>> (x1 &&& 31 : Int32)) &&& 1) = 0 then I else (if (I (19 + 6 * Int32.toNatClampNeg x5) 6) ≤ x2 then I else (am_u I (19 + 6 * Int32.toNatClampNeg x5) 6 x2) : Nat → Nat → Int32) : Nat → Nat → Int32) → WP mX6_tellRain 101 [some (.ref 9), some (.int x1), some (.int x2), some (.int x3), some (.int x4), some (.int x5), some (.ref (19 + 6 * Int32.toNatClampNeg x5))] [] (G X I83 L F) 0 0 Q := by
          intro I83 eI83
          replace q := q I83 eI83
          refine w_iinc rX6_tellRain_101 rfl rfl trivial ?_
          refine w_goto rX6_tellRain_104 ?_
          exact q
        refine w_ifeq rX6_tellRain_83 (fun h83 => ?_) (fun h83 => ?_)
        · skip
          exact j83 _ (if_pos h83).symm
        · skip
          refine w_aload rX6_tellRain_86 rfl ?_
          refine x_getI rX6_tellRain_88 rfl rfl (G_isk (gi_ver h71).1) ?_
          refine w_iload_n rX6_tellRain_91 rfl ?_
          refine w_icmple rX6_tellRain_92 (fun h92 => ?_) (fun h92 => ?_)
          · skip
            exact j83 _ ((if_neg h83).trans (if_pos h92)).symm
          · skip
            refine w_aload rX6_tellRain_95 rfl ?_
            refine w_iload_n rX6_tellRain_97 rfl ?_
            refine x_putI rX6_tellRain_98 rfl (G_isk (gi_ver h71).1) trivial ?_
            exact j83 _ ((if_neg h83).trans (if_neg h92)).symm
