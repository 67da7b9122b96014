/-! own: the blocks of the methods that go round or call on, written by a program -/
set_option maxRecDepth 100000
theorem k_X6_forget_0 {X : Nat × (Nat × (Nat → Int32))} {I : Nat → Nat → Int32} {L : Nat → Nat → Int64} {F : Nat → Nat → UInt32} {Q : AQ} {ver : Int32} (q : ((f_X6_has ver I) = 0 → Q (.inl none) (G X I L F)) ∧ (¬ (f_X6_has ver I) = 0 → WP mX6_forget 11 [some (.ref 9), some (.int ver), some (.int 0)] [] (G X I L F) 0 0 Q)) : WP mX6_forget 0 (am_ent 3 [.ref 9, .int ver]) [] (G X I L F) 0 0 Q := by
  refine w_aload_n rX6_forget_0 rfl ?_
  refine w_iload_n rX6_forget_1 rfl ?_
  refine w_invokevirtual rX6_forget_2 rfl rfl rfl (Nat.le_of_ble_eq_true rfl) ⟨trivial, trivial, trivial⟩ (G_is (by decide) rfl) (by decide) (by decide) ?_
  refine s_X6_has ?_
  show WP mX6_forget 5 _ _ _ 0 0 _
  refine w_ifne rX6_forget_5 (fun h5 => ?_) (fun h5 => ?_)
  · replace q := q.2 h5
    refine w_iconst rX6_forget_9 (x := 0) (by decide) ?_
    refine w_istore_n rX6_forget_10 rfl trivial ?_
    exact q
  · replace q := q.1 h5
    refine w_return rX6_forget_8 ?_
    exact q
theorem k_X6_forget_11 {X : Nat × (Nat × (Nat → Int32))} {I : Nat → Nat → Int32} {L : Nat → Nat → Int64} {F : Nat → Nat → UInt32} {Q : AQ} {x1 : Int32} {x2 : Int32} (q : (x1 < x2 → Q (.inl none) (G X I L F)) ∧ (¬ x1 < x2 → vp_in x1 60 ∧ (((¬ (lg_cmp ((((L (19 + 6 * Int32.toNatClampNeg x1) 5) : Int64) >>> ((Int32.toInt64 x2) &&& 63 : Int64)) &&& 1) 0) = 0 → vp_in x2 60 ∧ (True))) ∧ (∀ I31 : Nat → Nat → Int32, I31 = (if (lg_cmp ((((L (19 + 6 * Int32.toNatClampNeg x1) 5) : Int64) >>> ((Int32.toInt64 x2) &&& 63 : Int64)) &&& 1) 0) = 0 then I else (am_u I (19 + 6 * Int32.toNatClampNeg x2) 6 0) : Nat → Nat → Int32) → (WP mX6_forget 11 [some (.ref 9), some (.int x1), some (.int (x2 + 1))] [] (G X I31 L F) 0 0 Q))))) : WP mX6_forget 11 [some (.ref 9), some (.int x1), some (.int x2)] [] (G X I L F) 0 0 Q := by
  refine w_iload_n rX6_forget_11 rfl ?_
  refine w_iload_n rX6_forget_12 rfl ?_
  refine w_icmpgt rX6_forget_13 (fun h13 => ?_) (fun h13 => ?_)
  · replace q := q.1 h13
    refine w_return rX6_forget_50 ?_
    exact q
  · replace q := q.2 h13
    refine w_aload_n rX6_forget_16 rfl ?_
    refine w_getR rX6_forget_17 rfl rfl (G_is (by decide) rfl) (x := 13) rfl ?_
    refine w_iload_n rX6_forget_20 rfl ?_
    have h21 := q.1
    replace q := q.2
    refine w_aaload rX6_forget_21 (G_aa (by decide) rfl rfl h21) (ga_ver h21) ?_
    refine x_getL rX6_forget_22 rfl rfl (G_isk (gi_ver h21).1) ?_
    refine w_iload_n rX6_forget_25 rfl ?_
    refine w_lshr rX6_forget_26 ?_
    refine w_lconst rX6_forget_27 (x := 1) (by decide) ?_
    refine w_land rX6_forget_28 ?_
    refine w_lconst rX6_forget_29 (x := 0) (by decide) ?_
    refine w_lcmp rX6_forget_30 ?_
    have j31 : ∀ I31 : Nat → Nat → Int32, I31 = (if (lg_cmp ((((L (19 + 6 * Int32.toNatClampNeg x1) 5) : Int64) >>> ((Int32.toInt64 x2) &&& 63 : Int64)) &&& 1) 0) = 0 then I else (am_u I (19 + 6 * Int32.toNatClampNeg x2) 6 0) : Nat → Nat → Int32) → WP mX6_forget 44 [some (.ref 9), some (.int x1), some (.int x2)] [] (G X I31 L F) 0 0 Q := by
      intro I31 eI31
      replace q := q.2
      replace q := q I31 eI31
      refine w_iinc rX6_forget_44 rfl rfl trivial ?_
      refine w_goto rX6_forget_47 ?_
      exact q
    replace q := q.1
    refine w_ifeq rX6_forget_31 (fun h31 => ?_) (fun h31 => ?_)
    · skip
      exact j31 _ (if_pos h31).symm
    · replace q := q h31
      refine w_aload_n rX6_forget_34 rfl ?_
      refine w_getR rX6_forget_35 rfl rfl (G_is (by decide) rfl) (x := 13) rfl ?_
      refine w_iload_n rX6_forget_38 rfl ?_
      have h39 := q.1
      replace q := q.2
      refine w_aaload rX6_forget_39 (G_aa (by decide) rfl rfl h39) (ga_ver h39) ?_
      refine w_iconst rX6_forget_40 (x := 0) (by decide) ?_
      refine x_putI rX6_forget_41 rfl (G_isk (gi_ver h39).1) trivial ?_
      exact j31 _ (if_neg h31).symm
theorem k_X6_outputOf_0 {X : Nat × (Nat × (Nat → Int32))} {I : Nat → Nat → Int32} {L : Nat → Nat → Int64} {F : Nat → Nat → UInt32} {Q : AQ} {ver : Int32} {hour : Int32} (q : ((f_X6_has ver I) = 0 → Q (.inl (some (.float 0))) (G X I L F)) ∧ (¬ (f_X6_has ver I) = 0 → ((f_X9_isHour hour) = 0 → Q (.inl (some (.float 0))) (G X I L F)) ∧ (¬ (f_X9_isHour hour) = 0 → WP mX6_outputOf 19 [some (.ref 9), some (.int ver), some (.int hour), some (.int 0)] [] (G X I L F) 0 0 Q))) : WP mX6_outputOf 0 (am_ent 4 [.ref 9, .int ver, .int hour]) [] (G X I L F) 0 0 Q := by
  refine w_aload_n rX6_outputOf_0 rfl ?_
  refine w_iload_n rX6_outputOf_1 rfl ?_
  refine w_invokevirtual rX6_outputOf_2 rfl rfl rfl (Nat.le_of_ble_eq_true rfl) ⟨trivial, trivial, trivial⟩ (G_is (by decide) rfl) (by decide) (by decide) ?_
  refine s_X6_has ?_
  show WP mX6_outputOf 5 _ _ _ 0 0 _
  refine w_ifeq rX6_outputOf_5 (fun h5 => ?_) (fun h5 => ?_)
  · replace q := q.1 h5
    refine w_fconst rX6_outputOf_15 (x := 0) rfl ?_
    refine w_freturn rX6_outputOf_16 ?_
    exact q
  · replace q := q.2 h5
    refine w_iload_n rX6_outputOf_8 rfl ?_
    refine w_invokestatic rX6_outputOf_9 rfl rfl rfl (Nat.le_of_ble_eq_true rfl) ⟨trivial, trivial⟩ trivial (by decide) (by decide) ?_
    refine s_X9_isHour ?_
    show WP mX6_outputOf 12 _ _ _ 0 0 _
    refine w_ifne rX6_outputOf_12 (fun h12 => ?_) (fun h12 => ?_)
    · replace q := q.2 h12
      refine w_iconst rX6_outputOf_17 (x := 0) (by decide) ?_
      refine w_istore_n rX6_outputOf_18 rfl trivial ?_
      exact q
    · replace q := q.1 h12
      refine w_fconst rX6_outputOf_15 (x := 0) rfl ?_
      refine w_freturn rX6_outputOf_16 ?_
      exact q
theorem k_X6_outputOf_19 {X : Nat × (Nat × (Nat → Int32))} {I : Nat → Nat → Int32} {L : Nat → Nat → Int64} {F : Nat → Nat → UInt32} {Q : AQ} {x1 : Int32} {x2 : Int32} {x3 : Int32} (q : (x1 < x3 → vp_in x1 60 ∧ (vp_in x2 201 ∧ (Q (.inl (some (.float (F ((19 + 6 * Int32.toNatClampNeg x1) + 5) (Int32.toNatClampNeg x2))))) (G X I L F)))) ∧ (¬ x1 < x3 → vp_in x1 60 ∧ (((lg_cmp ((((L (19 + 6 * Int32.toNatClampNeg x1) 5) : Int64) >>> ((Int32.toInt64 x3) &&& 63 : Int64)) &&& 1) 0) = 0 → WP mX6_outputOf 53 [some (.ref 9), some (.int x1), some (.int x2), some (.int x3)] [] (G X I L F) 0 0 Q) ∧ (¬ (lg_cmp ((((L (19 + 6 * Int32.toNatClampNeg x1) 5) : Int64) >>> ((Int32.toInt64 x3) &&& 63 : Int64)) &&& 1) 0) = 0 → vp_in x3 60 ∧ (WP mX6_fill 0 (am_ent 8 [.ref 9, .ref (19 + 6 * Int32.toNatClampNeg x3), .int x2]) [] (G X I L F) 0 0 (am_kq mX6_outputOf 50 [some (.ref 9), some (.int x1), some (.int x2), some (.int x3)] [] (0 + am_bc mX6_fill) (0 + am_bs mX6_fill) Q)))))) : WP mX6_outputOf 19 [some (.ref 9), some (.int x1), some (.int x2), some (.int x3)] [] (G X I L F) 0 0 Q := by
  refine w_iload_n rX6_outputOf_19 rfl ?_
  refine w_iload_n rX6_outputOf_20 rfl ?_
  refine w_icmpgt rX6_outputOf_21 (fun h21 => ?_) (fun h21 => ?_)
  · replace q := q.1 h21
    refine w_aload_n rX6_outputOf_59 rfl ?_
    refine w_getR rX6_outputOf_60 rfl rfl (G_is (by decide) rfl) (x := 13) rfl ?_
    refine w_iload_n rX6_outputOf_63 rfl ?_
    have h64 := q.1
    replace q := q.2
    refine w_aaload rX6_outputOf_64 (G_aa (by decide) rfl rfl h64) (ga_ver h64) ?_
    refine w_getR rX6_outputOf_65 rfl rfl (G_isk (gi_ver h64).1) (gi_ver h64).2.2.2.1 ?_
    refine w_iload_n rX6_outputOf_68 rfl ?_
    have h69 := q.1
    replace q := q.2
    refine x_faload rX6_outputOf_69 (G_atk (gi_ver h64).2.2.2.2.2.2 h69) ?_
    refine w_freturn rX6_outputOf_70 ?_
    exact q
  · replace q := q.2 h21
    refine w_aload_n rX6_outputOf_24 rfl ?_
    refine w_getR rX6_outputOf_25 rfl rfl (G_is (by decide) rfl) (x := 13) rfl ?_
    refine w_iload_n rX6_outputOf_28 rfl ?_
    have h29 := q.1
    replace q := q.2
    refine w_aaload rX6_outputOf_29 (G_aa (by decide) rfl rfl h29) (ga_ver h29) ?_
    refine x_getL rX6_outputOf_30 rfl rfl (G_isk (gi_ver h29).1) ?_
    refine w_iload_n rX6_outputOf_33 rfl ?_
    refine w_lshr rX6_outputOf_34 ?_
    refine w_lconst rX6_outputOf_35 (x := 1) (by decide) ?_
    refine w_land rX6_outputOf_36 ?_
    refine w_lconst rX6_outputOf_37 (x := 0) (by decide) ?_
    refine w_lcmp rX6_outputOf_38 ?_
    refine w_ifeq rX6_outputOf_39 (fun h39 => ?_) (fun h39 => ?_)
    · replace q := q.1 h39
      exact q
    · replace q := q.2 h39
      refine w_aload_n rX6_outputOf_42 rfl ?_
      refine w_aload_n rX6_outputOf_43 rfl ?_
      refine w_getR rX6_outputOf_44 rfl rfl (G_is (by decide) rfl) (x := 13) rfl ?_
      refine w_iload_n rX6_outputOf_47 rfl ?_
      have h48 := q.1
      replace q := q.2
      refine w_aaload rX6_outputOf_48 (G_aa (by decide) rfl rfl h48) (ga_ver h48) ?_
      refine w_iload_n rX6_outputOf_49 rfl ?_
      refine w_invokevirtual rX6_outputOf_50 rfl rfl rfl (Nat.le_of_ble_eq_true rfl) ⟨trivial, trivial, trivial, trivial⟩ (G_is (by decide) rfl) (by decide) (by decide) ?_
      exact q
theorem k_X6_outputOf_53 {X : Nat × (Nat × (Nat → Int32))} {I : Nat → Nat → Int32} {L : Nat → Nat → Int64} {F : Nat → Nat → UInt32} {Q : AQ} {x1 : Int32} {x2 : Int32} {x3 : Int32} (q : WP mX6_outputOf 19 [some (.ref 9), some (.int x1), some (.int x2), some (.int (x3 + 1))] [] (G X I L F) 0 0 Q) : WP mX6_outputOf 53 [some (.ref 9), some (.int x1), some (.int x2), some (.int x3)] [] (G X I L F) 0 0 Q := by
  refine w_iinc rX6_outputOf_53 rfl rfl trivial ?_
  refine w_goto rX6_outputOf_56 ?_
  exact q
theorem k_X6_fill_0 {X : Nat × (Nat × (Nat → Int32))} {I : Nat → Nat → Int32} {L : Nat → Nat → Int64} {F : Nat → Nat → UInt32} {Q : AQ} {o : Nat} {last : Int32} (ho : isVer o) (q : WP mX6_fill 14 [some (.ref 9), some (.ref o), some (.int last), some (.ref 11), some (.int (I o 6)), none, none, none] [] (G X I L F) 0 0 Q) : WP mX6_fill 0 (am_ent 8 [.ref 9, .ref o, .int last]) [] (G X I L F) 0 0 Q := by
  refine w_aload_n rX6_fill_0 rfl ?_
  refine w_getR rX6_fill_1 rfl rfl (G_is (by decide) rfl) (x := 10) rfl ?_
  refine w_getR rX6_fill_4 rfl rfl (G_is (by decide) rfl) (x := 11) rfl ?_
  refine w_astore_n rX6_fill_7 rfl trivial ?_
  refine w_aload_n rX6_fill_8 rfl ?_
  refine x_getI rX6_fill_9 rfl rfl (G_isk ho.1) ?_
  refine w_istore rX6_fill_12 rfl trivial ?_
  exact q
theorem k_X6_fill_14 {X : Nat × (Nat × (Nat → Int32))} {I : Nat → Nat → Int32} {L : Nat → Nat → Int64} {F : Nat → Nat → UInt32} {Q : AQ} {o1 : Nat} {x2 : Int32} {x4 : Int32} {d5 : Option Value} {d6 : Option Value} {d7 : Option Value} (ho1 : isVer o1) (q : (x4 < 0 → Q (.inl none) (G X I L F)) ∧ (¬ x4 < 0 → (x2 < x4 → Q (.inl none) (G X I L F)) ∧ (¬ x2 < x4 → (201 ≤ x4 → Q (.inl none) (G X I L F)) ∧ (¬ 201 ≤ x4 → WP mX6_fill 36 [some (.ref 9), some (.ref o1), some (.int x2), some (.ref 11), some (.int x4), some (.int 0), d6, d7] [] (G X I L F) 0 0 Q)))) : WP mX6_fill 14 [some (.ref 9), some (.ref o1), some (.int x2), some (.ref 11), some (.int x4), d5, d6, d7] [] (G X I L F) 0 0 Q := by
  refine w_iload rX6_fill_14 rfl ?_
  refine w_iflt rX6_fill_16 (fun h16 => ?_) (fun h16 => ?_)
  · replace q := q.1 h16
    refine w_return rX6_fill_223 ?_
    exact q
  · replace q := q.2 h16
    refine w_iload rX6_fill_19 rfl ?_
    refine w_iload_n rX6_fill_21 rfl ?_
    refine w_icmpgt rX6_fill_22 (fun h22 => ?_) (fun h22 => ?_)
    · replace q := q.1 h22
      refine w_return rX6_fill_223 ?_
      exact q
    · replace q := q.2 h22
      refine w_iload rX6_fill_25 rfl ?_
      refine w_sipush rX6_fill_27 (x := 201) (by decide) ?_
      refine w_icmpge rX6_fill_30 (fun h30 => ?_) (fun h30 => ?_)
      · replace q := q.1 h30
        refine w_return rX6_fill_223 ?_
        exact q
      · replace q := q.2 h30
        refine w_iconst rX6_fill_33 (x := 0) (by decide) ?_
        refine w_istore rX6_fill_34 rfl trivial ?_
        exact q
theorem k_X6_fill_36 {X : Nat × (Nat × (Nat → Int32))} {I : Nat → Nat → Int32} {L : Nat → Nat → Int64} {F : Nat → Nat → UInt32} {Q : AQ} {o1 : Nat} {x2 : Int32} {x4 : Int32} {x5 : Int32} {d6 : Option Value} {d7 : Option Value} (ho1 : isVer o1) (q : (3 ≤ x5 → WP mX6_fill 68 [some (.ref 9), some (.ref o1), some (.int x2), some (.ref 11), some (.int x4), some (.int 0), d6, d7] [] (G X I L F) 0 0 Q) ∧ (¬ 3 ≤ x5 → vp_in x5 3 ∧ (vp_in x4 201 ∧ (vp_in (0 + x5) 20 ∧ (WP mX6_fill 36 [some (.ref 9), some (.ref o1), some (.int x2), some (.ref 11), some (.int x4), some (.int (x5 + 1)), d6, d7] [] (G X I L (am_u F 11 (Int32.toNatClampNeg (0 + x5)) (FP.i2f (I (16 + Int32.toNatClampNeg x5) (Int32.toNatClampNeg x4))))) 0 0 Q))))) : WP mX6_fill 36 [some (.ref 9), some (.ref o1), some (.int x2), some (.ref 11), some (.int x4), some (.int x5), d6, d7] [] (G X I L F) 0 0 Q := by
  refine w_iload rX6_fill_36 rfl ?_
  refine w_iconst rX6_fill_38 (x := 3) (by decide) ?_
  refine w_icmpge rX6_fill_39 (fun h39 => ?_) (fun h39 => ?_)
  · replace q := q.1 h39
    refine w_iconst rX6_fill_65 (x := 0) (by decide) ?_
    refine w_istore rX6_fill_66 rfl trivial ?_
    exact q
  · replace q := q.2 h39
    refine w_aload_n rX6_fill_42 rfl ?_
    refine w_iconst rX6_fill_43 (x := 0) (by decide) ?_
    refine w_iload rX6_fill_44 rfl ?_
    refine w_iadd rX6_fill_46 ?_
    refine w_aload_n rX6_fill_47 rfl ?_
    refine w_getR rX6_fill_48 rfl rfl (G_is (by decide) rfl) (x := 15) rfl ?_
    refine w_iload rX6_fill_51 rfl ?_
    have h53 := q.1
    replace q := q.2
    refine w_aaload rX6_fill_53 (G_aa (by decide) rfl rfl h53) (ga_rai h53) ?_
    refine w_iload rX6_fill_54 rfl ?_
    have h56 := q.1
    replace q := q.2
    refine x_iaload rX6_fill_56 (G_atk (gi_rai h53) h56) ?_
    refine w_i2f rX6_fill_57 ?_
    have h58 := q.1
    replace q := q.2
    refine x_fastore rX6_fill_58 (G_at (by decide) rfl rfl h58) ?_
    refine w_iinc rX6_fill_59 rfl rfl trivial ?_
    refine w_goto rX6_fill_62 ?_
    exact q
theorem k_X6_fill_68 {X : Nat × (Nat × (Nat → Int32))} {I : Nat → Nat → Int32} {L : Nat → Nat → Int64} {F : Nat → Nat → UInt32} {Q : AQ} {o1 : Nat} {x2 : Int32} {x4 : Int32} {x5 : Int32} {d6 : Option Value} {d7 : Option Value} (ho1 : isVer o1) (q : (6 ≤ x5 → ((¬ x4 ≤ 0 → vp_in (x4 - 1) 201 ∧ (True))) ∧ (∀ s167_2 : UInt32, s167_2 = (if x4 ≤ 0 then 0 else (F (o1 + 5) (Int32.toNatClampNeg (x4 - 1))) : UInt32) → (WP mX4_workOut 0 (am_ent 5 [.ref 10, .ref (o1 + 1)]) [] (G X I L (am_u (am_u F 11 15 s167_2) 11 16 (FP.i2f x4))) 0 0 (am_kq mX6_fill 205 [some (.ref 9), some (.ref o1), some (.int x2), some (.ref 11), some (.int x4), some (.int x5), d6, d7] [.int x4, .ref (o1 + 5)] (0 + am_bc mX4_workOut) (0 + am_bs mX4_workOut) Q)))) ∧ (¬ 6 ≤ x5 → vp_in x5 6 ∧ (((¬ (f_X6_has (I (o1 + 4) (Int32.toNatClampNeg x5)) I) = 0 → vp_in x4 201 ∧ (True))) ∧ (∀ s99_2 : UInt32, s99_2 = (if (f_X6_has (I (o1 + 4) (Int32.toNatClampNeg x5)) I) = 0 then 0 else (F ((19 + 6 * Int32.toNatClampNeg (I (o1 + 4) (Int32.toNatClampNeg x5))) + 5) (Int32.toNatClampNeg x4)) : UInt32) → (vp_in (3 + x5) 20 ∧ (((¬ (f_X6_has (I (o1 + 4) (Int32.toNatClampNeg x5)) I) = 0 → (¬ x4 ≤ 0 → vp_in (x4 - 1) 201 ∧ (True)))) ∧ (∀ s128_2 : UInt32, s128_2 = (if (f_X6_has (I (o1 + 4) (Int32.toNatClampNeg x5)) I) = 0 then 0 else (if x4 ≤ 0 then 0 else (F ((19 + 6 * Int32.toNatClampNeg (I (o1 + 4) (Int32.toNatClampNeg x5))) + 5) (Int32.toNatClampNeg (x4 - 1))) : UInt32) : UInt32) → (vp_in (9 + x5) 20 ∧ (WP mX6_fill 68 [some (.ref 9), some (.ref o1), some (.int x2), some (.ref 11), some (.int x4), some (.int (x5 + 1)), some (.int (I (o1 + 4) (Int32.toNatClampNeg x5))), some (.int (f_X6_has (I (o1 + 4) (Int32.toNatClampNeg x5)) I))] [] (G X I L (am_u (am_u F 11 (Int32.toNatClampNeg (3 + x5)) s99_2) 11 (Int32.toNatClampNeg (9 + x5)) s128_2)) 0 0 Q))))))))) : WP mX6_fill 68 [some (.ref 9), some (.ref o1), some (.int x2), some (.ref 11), some (.int x4), some (.int x5), d6, d7] [] (G X I L F) 0 0 Q := by
  refine w_iload rX6_fill_68 rfl ?_
  refine w_bipush rX6_fill_70 (x := 6) (by decide) ?_
  refine w_icmpge rX6_fill_72 (fun h72 => ?_) (fun h72 => ?_)
  · replace q := q.1 h72
    refine w_aload_n rX6_fill_162 rfl ?_
    refine w_bipush rX6_fill_163 (x := 15) (by decide) ?_
    refine w_iload rX6_fill_165 rfl ?_
    have j167 : ∀ s167_2 : UInt32, s167_2 = (if x4 ≤ 0 then 0 else (F (o1 + 5) (Int32.toNatClampNeg (x4 - 1))) : UInt32) → WP mX6_fill 183 [some (.ref 9), some (.ref o1), some (.int x2), some (.ref 11), some (.int x4), some (.int x5), d6, d7] [.float s167_2, .int 15, .ref 11] (G X I L F) 0 0 Q := by
      intro s167_2 es167_2
      replace q := q.2
      replace q := q s167_2 es167_2
      refine xl_fastore rX6_fill_183 (G_at (by decide) rfl rfl (by unfold vp_in; decide)) (i := 15) (by decide) ?_
      refine w_aload_n rX6_fill_184 rfl ?_
      refine w_bipush rX6_fill_185 (x := 16) (by decide) ?_
      refine w_iload rX6_fill_187 rfl ?_
      refine w_i2f rX6_fill_189 ?_
      refine xl_fastore rX6_fill_190 (G_at (by decide) rfl rfl (by unfold vp_in; decide)) (i := 16) (by decide) ?_
      refine w_aload_n rX6_fill_191 rfl ?_
      refine w_getR rX6_fill_192 rfl rfl (G_isk ho1.1) ho1.2.2.2.1 ?_
      refine w_iload rX6_fill_195 rfl ?_
      refine w_aload_n rX6_fill_197 rfl ?_
      refine w_getR rX6_fill_198 rfl rfl (G_is (by decide) rfl) (x := 10) rfl ?_
      refine w_aload_n rX6_fill_201 rfl ?_
      refine w_getR rX6_fill_202 rfl rfl (G_isk ho1.1) ho1.2.1 ?_
      refine w_invokevirtual rX6_fill_205 rfl rfl rfl (Nat.le_of_ble_eq_true rfl) ⟨trivial, trivial, trivial⟩ (G_is (by decide) rfl) (by decide) (by decide) ?_
      exact q
    replace q := q.1
    refine w_ifle rX6_fill_167 (fun h167 => ?_) (fun h167 => ?_)
    · skip
      refine w_fconst rX6_fill_182 (x := 0) rfl ?_
      exact j167 _ (if_pos h167).symm
    · replace q := q h167
      refine w_aload_n rX6_fill_170 rfl ?_
      refine w_getR rX6_fill_171 rfl rfl (G_isk ho1.1) ho1.2.2.2.1 ?_
      refine w_iload rX6_fill_174 rfl ?_
      refine w_iconst rX6_fill_176 (x := 1) (by decide) ?_
      refine w_isub rX6_fill_177 ?_
      have h178 := q.1
      replace q := q.2
      refine x_faload rX6_fill_178 (G_atk ho1.2.2.2.2.2.2 h178) ?_
      refine w_goto rX6_fill_179 ?_
      exact j167 _ (if_neg h167).symm
  · replace q := q.2 h72
    refine w_aload_n rX6_fill_75 rfl ?_
    refine w_getR rX6_fill_76 rfl rfl (G_isk ho1.1) ho1.2.2.1 ?_
    refine w_iload rX6_fill_79 rfl ?_
    have h81 := q.1
    replace q := q.2
    refine x_iaload rX6_fill_81 (G_atk ho1.2.2.2.2.2.1 h81) ?_
    refine w_istore rX6_fill_82 rfl trivial ?_
    refine w_aload_n rX6_fill_84 rfl ?_
    refine w_iload rX6_fill_85 rfl ?_
    refine w_invokevirtual rX6_fill_87 rfl rfl rfl (Nat.le_of_ble_eq_true rfl) ⟨trivial, trivial, trivial⟩ (G_is (by decide) rfl) (by decide) (by decide) ?_
    refine s_X6_has ?_
    show WP mX6_fill 90 _ _ _ 0 0 _
    refine w_istore rX6_fill_90 rfl trivial ?_
    refine w_aload_n rX6_fill_92 rfl ?_
    refine w_iconst rX6_fill_93 (x := 3) (by decide) ?_
    refine w_iload rX6_fill_94 rfl ?_
    refine w_iadd rX6_fill_96 ?_
    refine w_iload rX6_fill_97 rfl ?_
    have j99 : ∀ s99_2 : UInt32, s99_2 = (if (f_X6_has (I (o1 + 4) (Int32.toNatClampNeg x5)) I) = 0 then 0 else (F ((19 + 6 * Int32.toNatClampNeg (I (o1 + 4) (Int32.toNatClampNeg x5))) + 5) (Int32.toNatClampNeg x4)) : UInt32) → WP mX6_fill 119 [some (.ref 9), some (.ref o1), some (.int x2), some (.ref 11), some (.int x4), some (.int x5), some (.int (I (o1 + 4) (Int32.toNatClampNeg x5))), some (.int (f_X6_has (I (o1 + 4) (Int32.toNatClampNeg x5)) I))] [.float s99_2, .int (3 + x5), .ref 11] (G X I L F) 0 0 Q := by
      intro s99_2 es99_2
      replace q := q.2
      replace q := q s99_2 es99_2
      have h119 := q.1
      replace q := q.2
      refine x_fastore rX6_fill_119 (G_at (by decide) rfl rfl h119) ?_
      refine w_aload_n rX6_fill_120 rfl ?_
      refine w_bipush rX6_fill_121 (x := 9) (by decide) ?_
      refine w_iload rX6_fill_123 rfl ?_
      refine w_iadd rX6_fill_125 ?_
      refine w_iload rX6_fill_126 rfl ?_
      have j128 : ∀ s128_2 : UInt32, s128_2 = (if (f_X6_has (I (o1 + 4) (Int32.toNatClampNeg x5)) I) = 0 then 0 else (if x4 ≤ 0 then 0 else (F ((19 + 6 * Int32.toNatClampNeg (I (o1 + 4) (Int32.toNatClampNeg x5))) + 5) (Int32.toNatClampNeg (x4 - 1))) : UInt32) : UInt32) → WP mX6_fill 155 [some (.ref 9), some (.ref o1), some (.int x2), some (.ref 11), some (.int x4), some (.int x5), some (.int (I (o1 + 4) (Int32.toNatClampNeg x5))), some (.int (f_X6_has (I (o1 + 4) (Int32.toNatClampNeg x5)) I))] [.float s128_2, .int (9 + x5), .ref 11] (G X I L (am_u F 11 (Int32.toNatClampNeg (3 + x5)) s99_2)) 0 0 Q := by
        intro s128_2 es128_2
        replace q := q.2
        replace q := q s128_2 es128_2
        have h155 := q.1
        replace q := q.2
        refine x_fastore rX6_fill_155 (G_at (by decide) rfl rfl h155) ?_
        refine w_iinc rX6_fill_156 rfl rfl trivial ?_
        refine w_goto rX6_fill_159 ?_
        exact q
      replace q := q.1
      refine w_ifeq rX6_fill_128 (fun h128 => ?_) (fun h128 => ?_)
      · skip
        refine w_fconst rX6_fill_154 (x := 0) rfl ?_
        exact j128 _ (if_pos h128).symm
      · replace q := q h128
        refine w_iload rX6_fill_131 rfl ?_
        refine w_ifle rX6_fill_133 (fun h133 => ?_) (fun h133 => ?_)
        · skip
          refine w_fconst rX6_fill_154 (x := 0) rfl ?_
          exact j128 _ ((if_neg h128).trans (if_pos h133)).symm
        · replace q := q h133
          refine w_aload_n rX6_fill_136 rfl ?_
          refine w_getR rX6_fill_137 rfl rfl (G_is (by decide) rfl) (x := 13) rfl ?_
          refine w_iload rX6_fill_140 rfl ?_
          refine w_aaload rX6_fill_142 (G_aa (by decide) rfl rfl (gd_X6_has h128)) (ga_ver (gd_X6_has h128)) ?_
          refine w_getR rX6_fill_143 rfl rfl (G_isk (gi_ver (gd_X6_has h128)).1) (gi_ver (gd_X6_has h128)).2.2.2.1 ?_
          refine w_iload rX6_fill_146 rfl ?_
          refine w_iconst rX6_fill_148 (x := 1) (by decide) ?_
          refine w_isub rX6_fill_149 ?_
          have h150 := q.1
          replace q := q.2
          refine x_faload rX6_fill_150 (G_atk (gi_ver (gd_X6_has h128)).2.2.2.2.2.2 h150) ?_
          rw [au_ne (f := F) (o := 11) (k := (Int32.toNatClampNeg (3 + x5))) (a := ((19 + 6 * Int32.toNatClampNeg (I (o1 + 4) (Int32.toNatClampNeg x5))) + 5)) (b := (Int32.toNatClampNeg (x4 - 1))) (fun z => absurd z.1 (by omega))]
          refine w_goto rX6_fill_151 ?_
          exact j128 _ ((if_neg h128).trans (if_neg h133)).symm
    replace q := q.1
    refine w_ifeq rX6_fill_99 (fun h99 => ?_) (fun h99 => ?_)
    · skip
      refine w_fconst rX6_fill_118 (x := 0) rfl ?_
      exact j99 _ (if_pos h99).symm
    · replace q := q h99
      refine w_aload_n rX6_fill_102 rfl ?_
      refine w_getR rX6_fill_103 rfl rfl (G_is (by decide) rfl) (x := 13) rfl ?_
      refine w_iload rX6_fill_106 rfl ?_
      refine w_aaload rX6_fill_108 (G_aa (by decide) rfl rfl (gd_X6_has h99)) (ga_ver (gd_X6_has h99)) ?_
      refine w_getR rX6_fill_109 rfl rfl (G_isk (gi_ver (gd_X6_has h99)).1) (gi_ver (gd_X6_has h99)).2.2.2.1 ?_
      refine w_iload rX6_fill_112 rfl ?_
      have h114 := q.1
      replace q := q.2
      refine x_faload rX6_fill_114 (G_atk (gi_ver (gd_X6_has h99)).2.2.2.2.2.2 h114) ?_
      refine w_goto rX6_fill_115 ?_
      exact j99 _ (if_neg h99).symm
theorem k_X6_fill_208 {X : Nat × (Nat × (Nat → Int32))} {I : Nat → Nat → Int32} {L : Nat → Nat → Int64} {F : Nat → Nat → UInt32} {Q : AQ} {o1 : Nat} {x2 : Int32} {x4 : Int32} {x5 : Int32} {d6 : Option Value} {d7 : Option Value} {p0 : Nat} {e1 : Int32} {e2 : UInt32} (ho1 : isVer o1) (hp0 : isA p0 22 201) (q : vp_in e1 201 ∧ (WP mX6_fill 14 [some (.ref 9), some (.ref o1), some (.int x2), some (.ref 11), some (.int (x4 + 1)), some (.int x5), d6, d7] [] (G X (am_u I o1 6 (x4 + 1)) L (am_u F p0 (Int32.toNatClampNeg e1) e2)) 0 0 Q)) : WP mX6_fill 208 [some (.ref 9), some (.ref o1), some (.int x2), some (.ref 11), some (.int x4), some (.int x5), d6, d7] [.float e2, .int e1, .ref p0] (G X I L F) 0 0 Q := by
  have h208 := q.1
  replace q := q.2
  refine x_fastore rX6_fill_208 (G_atk hp0 h208) ?_
  refine w_aload_n rX6_fill_209 rfl ?_
  refine w_iload rX6_fill_210 rfl ?_
  refine w_iconst rX6_fill_212 (x := 1) (by decide) ?_
  refine w_iadd rX6_fill_213 ?_
  refine x_putI rX6_fill_214 rfl (G_isk ho1.1) trivial ?_
  refine w_iinc rX6_fill_217 rfl rfl trivial ?_
  refine w_goto rX6_fill_220 ?_
  exact q
theorem k_X9_type_0 {X : Nat × (Nat × (Nat → Int32))} {I : Nat → Nat → Int32} {L : Nat → Nat → Int64} {F : Nat → Nat → UInt32} {Q : AQ} {ch : Int32} (q : WP mX1_mayHold 0 (am_ent 1 [.int ch]) [] (G X I L F) 0 0 (am_kq mX9_type 1 [some (.ref 0), some (.int ch)] [] (0 + am_bc mX1_mayHold) (0 + am_bs mX1_mayHold) Q)) : WP mX9_type 0 (am_ent 2 [.ref 0, .int ch]) [] (G X I L F) 0 0 Q := by
  refine w_iload_n rX9_type_0 rfl ?_
  refine w_invokestatic rX9_type_1 rfl rfl rfl (Nat.le_of_ble_eq_true rfl) ⟨trivial, trivial⟩ trivial (by decide) (by decide) ?_
  exact q
theorem k_X9_type_4 {X : Nat × (Nat × (Nat → Int32))} {I : Nat → Nat → Int32} {L : Nat → Nat → Int64} {F : Nat → Nat → UInt32} {Q : AQ} {x1 : Int32} {e0 : Int32} (q : (e0 = 0 → Q (.inr 1) (G X I L F)) ∧ (¬ e0 = 0 → ((f_X1_isFull I) = 0 → Q (.inl (some (.int (f_X1_add x1 I)))) (G X (fI_X1_add x1 I) L F)) ∧ (¬ (f_X1_isFull I) = 0 → Q (.inr 2) (G X I L F)))) : WP mX9_type 4 [some (.ref 0), some (.int x1)] [.int e0] (G X I L F) 0 0 Q := by
  refine w_ifne rX9_type_4 (fun h4 => ?_) (fun h4 => ?_)
  · replace q := q.2 h4
    refine w_aload_n rX9_type_17 rfl ?_
    refine w_getR rX9_type_18 rfl rfl (G_is (by decide) rfl) (x := 1) rfl ?_
    refine w_invokevirtual rX9_type_21 rfl rfl rfl (Nat.le_of_ble_eq_true rfl) ⟨trivial, trivial⟩ (G_is (by decide) rfl) (by decide) (by decide) ?_
    refine s_X1_isFull ?_
    show WP mX9_type 24 _ _ _ 0 0 _
    refine w_ifeq rX9_type_24 (fun h24 => ?_) (fun h24 => ?_)
    · replace q := q.1 h24
      refine w_aload_n rX9_type_37 rfl ?_
      refine w_getR rX9_type_38 rfl rfl (G_is (by decide) rfl) (x := 1) rfl ?_
      refine w_iload_n rX9_type_41 rfl ?_
      refine w_invokevirtual rX9_type_42 rfl rfl rfl (Nat.le_of_ble_eq_true rfl) ⟨trivial, trivial, trivial⟩ (G_is (by decide) rfl) (by decide) (by decide) ?_
      refine s_X1_add ?_
      show WP mX9_type 45 _ _ _ 0 0 _
      refine w_ireturn rX9_type_45 trivial ?_
      exact q
    · replace q := q.2 h24
      exact w_throw (by rfl) (by decide) (by decide) (Nat.le_of_ble_eq_true rfl) q
  · replace q := q.1 h4
    exact w_throw (by rfl) (by decide) (by decide) (Nat.le_of_ble_eq_true rfl) q
theorem k_X9_fault_0 {X : Nat × (Nat × (Nat → Int32))} {I : Nat → Nat → Int32} {L : Nat → Nat → Int64} {F : Nat → Nat → UInt32} {Q : AQ} {isRule : Int32} (q : WP mX3_read 0 (am_ent 4 [.ref 3, .ref 1, .int isRule]) [] (G X I L F) 0 0 (am_kq mX9_fault 9 [some (.ref 0), some (.int isRule)] [] (0 + am_bc mX3_read) (0 + am_bs mX3_read) Q)) : WP mX9_fault 0 (am_ent 2 [.ref 0, .int isRule]) [] (G X I L F) 0 0 Q := by
  refine w_aload_n rX9_fault_0 rfl ?_
  refine w_getR rX9_fault_1 rfl rfl (G_is (by decide) rfl) (x := 3) rfl ?_
  refine w_aload_n rX9_fault_4 rfl ?_
  refine w_getR rX9_fault_5 rfl rfl (G_is (by decide) rfl) (x := 1) rfl ?_
  refine w_iload_n rX9_fault_8 rfl ?_
  refine w_invokevirtual rX9_fault_9 rfl rfl rfl (Nat.le_of_ble_eq_true rfl) ⟨trivial, trivial, trivial, trivial⟩ (G_is (by decide) rfl) (by decide) (by decide) ?_
  exact q
theorem k_X9_fault_12 {X : Nat × (Nat × (Nat → Int32))} {I : Nat → Nat → Int32} {L : Nat → Nat → Int64} {F : Nat → Nat → UInt32} {Q : AQ} {x1 : Int32} {e0 : Int32} (q : Q (.inl (some (.int e0))) (G X I L F)) : WP mX9_fault 12 [some (.ref 0), some (.int x1)] [.int e0] (G X I L F) 0 0 Q := by
  refine w_ireturn rX9_fault_12 trivial ?_
  exact q
theorem k_X9_publish_0 {X : Nat × (Nat × (Nat → Int32))} {I : Nat → Nat → Int32} {L : Nat → Nat → Int64} {F : Nat → Nat → UInt32} {Q : AQ} {model : Int32} (q : ((f_X9_isModel model) = 0 → Q (.inr 0) (G X I L F)) ∧ (¬ (f_X9_isModel model) = 0 → WP mX3_read 0 (am_ent 4 [.ref 3, .ref 1, .int 0]) [] (G X I L F) 0 0 (am_kq mX9_publish 26 [some (.ref 0), some (.int model)] [] (0 + am_bc mX3_read) (0 + am_bs mX3_read) Q))) : WP mX9_publish 0 (am_ent 2 [.ref 0, .int model]) [] (G X I L F) 0 0 Q := by
  refine w_iload_n rX9_publish_0 rfl ?_
  refine w_invokestatic rX9_publish_1 rfl rfl rfl (Nat.le_of_ble_eq_true rfl) ⟨trivial, trivial⟩ trivial (by decide) (by decide) ?_
  refine s_X9_isModel ?_
  show WP mX9_publish 4 _ _ _ 0 0 _
  refine w_ifne rX9_publish_4 (fun h4 => ?_) (fun h4 => ?_)
  · replace q := q.2 h4
    refine w_aload_n rX9_publish_17 rfl ?_
    refine w_getR rX9_publish_18 rfl rfl (G_is (by decide) rfl) (x := 3) rfl ?_
    refine w_aload_n rX9_publish_21 rfl ?_
    refine w_getR rX9_publish_22 rfl rfl (G_is (by decide) rfl) (x := 1) rfl ?_
    refine w_iconst rX9_publish_25 (x := 0) (by decide) ?_
    refine w_invokevirtual rX9_publish_26 rfl rfl rfl (Nat.le_of_ble_eq_true rfl) ⟨trivial, trivial, trivial, trivial⟩ (G_is (by decide) rfl) (by decide) (by decide) ?_
    exact q
  · replace q := q.1 h4
    exact w_throw (by rfl) (by decide) (by decide) (Nat.le_of_ble_eq_true rfl) q
theorem k_X9_publish_29 {X : Nat × (Nat × (Nat → Int32))} {I : Nat → Nat → Int32} {L : Nat → Nat → Int64} {F : Nat → Nat → UInt32} {Q : AQ} {x1 : Int32} {e0 : Int32} (q : (e0 = (-1) → WP mX6_mayTake 0 (am_ent 5 [.ref 9, .int x1, .ref 4]) [] (G X I L F) 0 0 (am_kq mX9_publish 55 [some (.ref 0), some (.int x1)] [] (0 + am_bc mX6_mayTake) (0 + am_bs mX6_mayTake) Q)) ∧ (¬ e0 = (-1) → Q (.inr 1) (G X I L F))) : WP mX9_publish 29 [some (.ref 0), some (.int x1)] [.int e0] (G X I L F) 0 0 Q := by
  refine w_iconst rX9_publish_29 (x := -1) (by decide) ?_
  refine w_icmpeq rX9_publish_30 (fun h30 => ?_) (fun h30 => ?_)
  · replace q := q.1 h30
    refine w_aload_n rX9_publish_43 rfl ?_
    refine w_getR rX9_publish_44 rfl rfl (G_is (by decide) rfl) (x := 9) rfl ?_
    refine w_iload_n rX9_publish_47 rfl ?_
    refine w_aload_n rX9_publish_48 rfl ?_
    refine w_getR rX9_publish_49 rfl rfl (G_is (by decide) rfl) (x := 3) rfl ?_
    refine w_getR rX9_publish_52 rfl rfl (G_is (by decide) rfl) (x := 4) rfl ?_
    refine w_invokevirtual rX9_publish_55 rfl rfl rfl (Nat.le_of_ble_eq_true rfl) ⟨trivial, trivial, trivial, trivial⟩ (G_is (by decide) rfl) (by decide) (by decide) ?_
    exact q
  · replace q := q.2 h30
    exact w_throw (by rfl) (by decide) (by decide) (Nat.le_of_ble_eq_true rfl) q
theorem k_X9_publish_58 {X : Nat × (Nat × (Nat → Int32))} {I : Nat → Nat → Int32} {L : Nat → Nat → Int64} {F : Nat → Nat → UInt32} {Q : AQ} {x1 : Int32} {e0 : Int32} (q : (e0 = 0 → Q (.inr 2) (G X I L F)) ∧ (¬ e0 = 0 → WP mX6_take 0 (am_ent 7 [.ref 9, .int x1, .ref 4]) [] (G X I L F) 0 0 (am_kq mX9_publish 83 [some (.ref 0), some (.int x1)] [] (0 + am_bc mX6_take) (0 + am_bs mX6_take) Q))) : WP mX9_publish 58 [some (.ref 0), some (.int x1)] [.int e0] (G X I L F) 0 0 Q := by
  refine w_ifne rX9_publish_58 (fun h58 => ?_) (fun h58 => ?_)
  · replace q := q.2 h58
    refine w_aload_n rX9_publish_71 rfl ?_
    refine w_getR rX9_publish_72 rfl rfl (G_is (by decide) rfl) (x := 9) rfl ?_
    refine w_iload_n rX9_publish_75 rfl ?_
    refine w_aload_n rX9_publish_76 rfl ?_
    refine w_getR rX9_publish_77 rfl rfl (G_is (by decide) rfl) (x := 3) rfl ?_
    refine w_getR rX9_publish_80 rfl rfl (G_is (by decide) rfl) (x := 4) rfl ?_
    refine w_invokevirtual rX9_publish_83 rfl rfl rfl (Nat.le_of_ble_eq_true rfl) ⟨trivial, trivial, trivial, trivial⟩ (G_is (by decide) rfl) (by decide) (by decide) ?_
    exact q
  · replace q := q.1 h58
    exact w_throw (by rfl) (by decide) (by decide) (Nat.le_of_ble_eq_true rfl) q
theorem k_X9_publish_86 {X : Nat × (Nat × (Nat → Int32))} {I : Nat → Nat → Int32} {L : Nat → Nat → Int64} {F : Nat → Nat → UInt32} {Q : AQ} {x1 : Int32} {e0 : Int32} (q : Q (.inl (some (.int e0))) (G X I L F)) : WP mX9_publish 86 [some (.ref 0), some (.int x1)] [.int e0] (G X I L F) 0 0 Q := by
  refine w_ireturn rX9_publish_86 trivial ?_
  exact q
theorem k_X9_retire_0 {X : Nat × (Nat × (Nat → Int32))} {I : Nat → Nat → Int32} {L : Nat → Nat → Int64} {F : Nat → Nat → UInt32} {Q : AQ} {model : Int32} (q : ((f_X9_isModel model) = 0 → Q (.inr 0) (G X I L F)) ∧ (¬ (f_X9_isModel model) = 0 → ((f_X6_latestOf model I) = (-1) → Q (.inr 2) (G X I L F)) ∧ (¬ (f_X6_latestOf model I) = (-1) → WP mX6_modelsOn 0 (am_ent 4 [.ref 9, .int model]) [] (G X I L F) 0 0 (am_kq mX9_retire 34 [some (.ref 0), some (.int model)] [] (0 + am_bc mX6_modelsOn) (0 + am_bs mX6_modelsOn) Q)))) : WP mX9_retire 0 (am_ent 2 [.ref 0, .int model]) [] (G X I L F) 0 0 Q := by
  refine w_iload_n rX9_retire_0 rfl ?_
  refine w_invokestatic rX9_retire_1 rfl rfl rfl (Nat.le_of_ble_eq_true rfl) ⟨trivial, trivial⟩ trivial (by decide) (by decide) ?_
  refine s_X9_isModel ?_
  show WP mX9_retire 4 _ _ _ 0 0 _
  refine w_ifne rX9_retire_4 (fun h4 => ?_) (fun h4 => ?_)
  · replace q := q.2 h4
    refine w_aload_n rX9_retire_17 rfl ?_
    refine w_getR rX9_retire_18 rfl rfl (G_is (by decide) rfl) (x := 9) rfl ?_
    refine w_iload_n rX9_retire_21 rfl ?_
    refine w_invokevirtual rX9_retire_22 rfl rfl rfl (Nat.le_of_ble_eq_true rfl) ⟨trivial, trivial, trivial⟩ (G_is (by decide) rfl) (by decide) (by decide) ?_
    refine s_X6_latestOf ?_
    show WP mX9_retire 25 _ _ _ 0 0 _
    refine w_iconst rX9_retire_25 (x := -1) (by decide) ?_
    refine w_icmpeq rX9_retire_26 (fun h26 => ?_) (fun h26 => ?_)
    · replace q := q.1 h26
      exact w_throw (by rfl) (by decide) (by decide) (Nat.le_of_ble_eq_true rfl) q
    · replace q := q.2 h26
      refine w_aload_n rX9_retire_29 rfl ?_
      refine w_getR rX9_retire_30 rfl rfl (G_is (by decide) rfl) (x := 9) rfl ?_
      refine w_iload_n rX9_retire_33 rfl ?_
      refine w_invokevirtual rX9_retire_34 rfl rfl rfl (Nat.le_of_ble_eq_true rfl) ⟨trivial, trivial, trivial⟩ (G_is (by decide) rfl) (by decide) (by decide) ?_
      exact q
  · replace q := q.1 h4
    exact w_throw (by rfl) (by decide) (by decide) (Nat.le_of_ble_eq_true rfl) q
theorem k_X9_retire_37 {X : Nat × (Nat × (Nat → Int32))} {I : Nat → Nat → Int32} {L : Nat → Nat → Int64} {F : Nat → Nat → UInt32} {Q : AQ} {x1 : Int32} {e0 : Int32} (q : (e0 = 0 → Q (.inl (some (.int (f_X6_giveUp x1 I)))) (G X (fI_X6_giveUp x1 I) L F)) ∧ (¬ e0 = 0 → Q (.inr 2) (G X I L F))) : WP mX9_retire 37 [some (.ref 0), some (.int x1)] [.int e0] (G X I L F) 0 0 Q := by
  refine w_ifeq rX9_retire_37 (fun h37 => ?_) (fun h37 => ?_)
  · replace q := q.1 h37
    refine w_aload_n rX9_retire_50 rfl ?_
    refine w_getR rX9_retire_51 rfl rfl (G_is (by decide) rfl) (x := 9) rfl ?_
    refine w_iload_n rX9_retire_54 rfl ?_
    refine w_invokevirtual rX9_retire_55 rfl rfl rfl (Nat.le_of_ble_eq_true rfl) ⟨trivial, trivial, trivial⟩ (G_is (by decide) rfl) (by decide) (by decide) ?_
    refine s_X6_giveUp ?_
    show WP mX9_retire 58 _ _ _ 0 0 _
    refine w_ireturn rX9_retire_58 trivial ?_
    exact q
  · replace q := q.2 h37
    exact w_throw (by rfl) (by decide) (by decide) (Nat.le_of_ble_eq_true rfl) q
theorem k_X9_latest_0 {X : Nat × (Nat × (Nat → Int32))} {I : Nat → Nat → Int32} {L : Nat → Nat → Int64} {F : Nat → Nat → UInt32} {Q : AQ} {model : Int32} (q : ((f_X9_isModel model) = 0 → Q (.inr 0) (G X I L F)) ∧ (¬ (f_X9_isModel model) = 0 → Q (.inl (some (.int (f_X6_latestOf model I)))) (G X I L F))) : WP mX9_latest 0 (am_ent 2 [.ref 0, .int model]) [] (G X I L F) 0 0 Q := by
  refine w_iload_n rX9_latest_0 rfl ?_
  refine w_invokestatic rX9_latest_1 rfl rfl rfl (Nat.le_of_ble_eq_true rfl) ⟨trivial, trivial⟩ trivial (by decide) (by decide) ?_
  refine s_X9_isModel ?_
  show WP mX9_latest 4 _ _ _ 0 0 _
  refine w_ifne rX9_latest_4 (fun h4 => ?_) (fun h4 => ?_)
  · replace q := q.2 h4
    refine w_aload_n rX9_latest_17 rfl ?_
    refine w_getR rX9_latest_18 rfl rfl (G_is (by decide) rfl) (x := 9) rfl ?_
    refine w_iload_n rX9_latest_21 rfl ?_
    refine w_invokevirtual rX9_latest_22 rfl rfl rfl (Nat.le_of_ble_eq_true rfl) ⟨trivial, trivial, trivial⟩ (G_is (by decide) rfl) (by decide) (by decide) ?_
    refine s_X6_latestOf ?_
    show WP mX9_latest 25 _ _ _ 0 0 _
    refine w_ireturn rX9_latest_25 trivial ?_
    exact q
  · replace q := q.1 h4
    exact w_throw (by rfl) (by decide) (by decide) (Nat.le_of_ble_eq_true rfl) q
theorem k_X9_pin_0 {X : Nat × (Nat × (Nat → Int32))} {I : Nat → Nat → Int32} {L : Nat → Nat → Int64} {F : Nat → Nat → UInt32} {Q : AQ} {ver : Int32} {model : Int32} (q : ((f_X6_has ver I) = 0 → Q (.inr 0) (G X I L F)) ∧ (¬ (f_X6_has ver I) = 0 → ((f_X9_isModel model) = 0 → Q (.inr 0) (G X I L F)) ∧ (¬ (f_X9_isModel model) = 0 → Q (.inl (some (.int (f_X6_pinOf ver model I)))) (G X I L F)))) : WP mX9_pin 0 (am_ent 3 [.ref 0, .int ver, .int model]) [] (G X I L F) 0 0 Q := by
  refine w_aload_n rX9_pin_0 rfl ?_
  refine w_getR rX9_pin_1 rfl rfl (G_is (by decide) rfl) (x := 9) rfl ?_
  refine w_iload_n rX9_pin_4 rfl ?_
  refine w_invokevirtual rX9_pin_5 rfl rfl rfl (Nat.le_of_ble_eq_true rfl) ⟨trivial, trivial, trivial⟩ (G_is (by decide) rfl) (by decide) (by decide) ?_
  refine s_X6_has ?_
  show WP mX9_pin 8 _ _ _ 0 0 _
  refine w_ifeq rX9_pin_8 (fun h8 => ?_) (fun h8 => ?_)
  · replace q := q.1 h8
    exact w_throw (by rfl) (by decide) (by decide) (Nat.le_of_ble_eq_true rfl) q
  · replace q := q.2 h8
    refine w_iload_n rX9_pin_11 rfl ?_
    refine w_invokestatic rX9_pin_12 rfl rfl rfl (Nat.le_of_ble_eq_true rfl) ⟨trivial, trivial⟩ trivial (by decide) (by decide) ?_
    refine s_X9_isModel ?_
    show WP mX9_pin 15 _ _ _ 0 0 _
    refine w_ifne rX9_pin_15 (fun h15 => ?_) (fun h15 => ?_)
    · replace q := q.2 h15
      refine w_aload_n rX9_pin_28 rfl ?_
      refine w_getR rX9_pin_29 rfl rfl (G_is (by decide) rfl) (x := 9) rfl ?_
      refine w_iload_n rX9_pin_32 rfl ?_
      refine w_iload_n rX9_pin_33 rfl ?_
      refine w_invokevirtual rX9_pin_34 rfl rfl rfl (Nat.le_of_ble_eq_true rfl) ⟨trivial, trivial, trivial, trivial⟩ (G_is (by decide) rfl) (by decide) (by decide) ?_
      refine s_X6_pinOf ?_
      show WP mX9_pin 37 _ _ _ 0 0 _
      refine w_ireturn rX9_pin_37 trivial ?_
      exact q
    · replace q := q.1 h15
      exact w_throw (by rfl) (by decide) (by decide) (Nat.le_of_ble_eq_true rfl) q
theorem k_X9_rain_0 {X : Nat × (Nat × (Nat → Int32))} {I : Nat → Nat → Int32} {L : Nat → Nat → Int64} {F : Nat → Nat → UInt32} {Q : AQ} {gauge : Int32} {hour : Int32} {mm : Int32} (q : (gauge < 0 → Q (.inr 0) (G X I L F)) ∧ (¬ gauge < 0 → (gauge < 3 → ((f_X9_isHour hour) = 0 → Q (.inr 1) (G X I L F)) ∧ (¬ (f_X9_isHour hour) = 0 → (mm < 0 → Q (.inr 1) (G X I L F)) ∧ (¬ mm < 0 → (mm ≤ 500 → WP mX6_tellRain 0 (am_ent 7 [.ref 9, .int gauge, .int hour, .int mm]) [] (G X I L F) 0 0 (am_kq mX9_rain 54 [some (.ref 0), some (.int gauge), some (.int hour), some (.int mm), none] [] (0 + am_bc mX6_tellRain) (0 + am_bs mX6_tellRain) Q)) ∧ (¬ mm ≤ 500 → Q (.inr 1) (G X I L F))))) ∧ (¬ gauge < 3 → Q (.inr 0) (G X I L F)))) : WP mX9_rain 0 (am_ent 5 [.ref 0, .int gauge, .int hour, .int mm]) [] (G X I L F) 0 0 Q := by
  refine w_iload_n rX9_rain_0 rfl ?_
  refine w_iflt rX9_rain_1 (fun h1 => ?_) (fun h1 => ?_)
  · replace q := q.1 h1
    exact w_throw (by rfl) (by decide) (by decide) (Nat.le_of_ble_eq_true rfl) q
  · replace q := q.2 h1
    refine w_iload_n rX9_rain_4 rfl ?_
    refine w_iconst rX9_rain_5 (x := 3) (by decide) ?_
    refine w_icmplt rX9_rain_6 (fun h6 => ?_) (fun h6 => ?_)
    · replace q := q.1 h6
      refine w_iload_n rX9_rain_19 rfl ?_
      refine w_invokestatic rX9_rain_20 rfl rfl rfl (Nat.le_of_ble_eq_true rfl) ⟨trivial, trivial⟩ trivial (by decide) (by decide) ?_
      refine s_X9_isHour ?_
      show WP mX9_rain 23 _ _ _ 0 0 _
      refine w_ifeq rX9_rain_23 (fun h23 => ?_) (fun h23 => ?_)
      · replace q := q.1 h23
        exact w_throw (by rfl) (by decide) (by decide) (Nat.le_of_ble_eq_true rfl) q
      · replace q := q.2 h23
        refine w_iload_n rX9_rain_26 rfl ?_
        refine w_iflt rX9_rain_27 (fun h27 => ?_) (fun h27 => ?_)
        · replace q := q.1 h27
          exact w_throw (by rfl) (by decide) (by decide) (Nat.le_of_ble_eq_true rfl) q
        · replace q := q.2 h27
          refine w_iload_n rX9_rain_30 rfl ?_
          refine w_sipush rX9_rain_31 (x := 500) (by decide) ?_
          refine w_icmple rX9_rain_34 (fun h34 => ?_) (fun h34 => ?_)
          · replace q := q.1 h34
            refine w_aload_n rX9_rain_47 rfl ?_
            refine w_getR rX9_rain_48 rfl rfl (G_is (by decide) rfl) (x := 9) rfl ?_
            refine w_iload_n rX9_rain_51 rfl ?_
            refine w_iload_n rX9_rain_52 rfl ?_
            refine w_iload_n rX9_rain_53 rfl ?_
            refine w_invokevirtual rX9_rain_54 rfl rfl rfl (Nat.le_of_ble_eq_true rfl) ⟨trivial, trivial, trivial, trivial, trivial⟩ (G_is (by decide) rfl) (by decide) (by decide) ?_
            exact q
          · replace q := q.2 h34
            exact w_throw (by rfl) (by decide) (by decide) (Nat.le_of_ble_eq_true rfl) q
    · replace q := q.2 h6
      exact w_throw (by rfl) (by decide) (by decide) (Nat.le_of_ble_eq_true rfl) q
theorem k_X9_rain_57 {X : Nat × (Nat × (Nat → Int32))} {I : Nat → Nat → Int32} {L : Nat → Nat → Int64} {F : Nat → Nat → UInt32} {Q : AQ} {x1 : Int32} {x2 : Int32} {x3 : Int32} {e0 : Int32} (q : (e0 = x3 → WP mX9_rain 71 [some (.ref 0), some (.int x1), some (.int x2), some (.int x3), some (.int e0)] [] (G X I L F) 0 0 Q) ∧ (¬ e0 = x3 → WP mX9_stampRuns 0 (am_ent 4 [.ref 0, .int x1, .int x2]) [] (G X I L F) 0 0 (am_kq mX9_rain 68 [some (.ref 0), some (.int x1), some (.int x2), some (.int x3), some (.int e0)] [] (0 + am_bc mX9_stampRuns) (0 + am_bs mX9_stampRuns) Q))) : WP mX9_rain 57 [some (.ref 0), some (.int x1), some (.int x2), some (.int x3), none] [.int e0] (G X I L F) 0 0 Q := by
  refine w_istore rX9_rain_57 rfl trivial ?_
  refine w_iload rX9_rain_59 rfl ?_
  refine w_iload_n rX9_rain_61 rfl ?_
  refine w_icmpeq rX9_rain_62 (fun h62 => ?_) (fun h62 => ?_)
  · replace q := q.1 h62
    exact q
  · replace q := q.2 h62
    refine w_aload_n rX9_rain_65 rfl ?_
    refine w_iload_n rX9_rain_66 rfl ?_
    refine w_iload_n rX9_rain_67 rfl ?_
    refine w_invokevirtual rX9_rain_68 rfl rfl rfl (Nat.le_of_ble_eq_true rfl) ⟨trivial, trivial, trivial, trivial⟩ (G_is (by decide) rfl) (by decide) (by decide) ?_
    exact q
theorem k_X9_rain_71 {X : Nat × (Nat × (Nat → Int32))} {I : Nat → Nat → Int32} {L : Nat → Nat → Int64} {F : Nat → Nat → UInt32} {Q : AQ} {x1 : Int32} {x2 : Int32} {x3 : Int32} {x4 : Int32} (q : Q (.inl (some (.int x4))) (G X I L F)) : WP mX9_rain 71 [some (.ref 0), some (.int x1), some (.int x2), some (.int x3), some (.int x4)] [] (G X I L F) 0 0 Q := by
  refine w_iload rX9_rain_71 rfl ?_
  refine w_ireturn rX9_rain_73 trivial ?_
  exact q
theorem k_X9_out_0 {X : Nat × (Nat × (Nat → Int32))} {I : Nat → Nat → Int32} {L : Nat → Nat → Int64} {F : Nat → Nat → UInt32} {Q : AQ} {ver : Int32} {hour : Int32} (q : ((f_X6_has ver I) = 0 → Q (.inr 0) (G X I L F)) ∧ (¬ (f_X6_has ver I) = 0 → ((f_X9_isHour hour) = 0 → Q (.inr 1) (G X I L F)) ∧ (¬ (f_X9_isHour hour) = 0 → WP mX6_outputOf 0 (am_ent 4 [.ref 9, .int ver, .int hour]) [] (G X I L F) 0 0 (am_kq mX9_out 44 [some (.ref 0), some (.int ver), some (.int hour)] [] (0 + am_bc mX6_outputOf) (0 + am_bs mX6_outputOf) Q)))) : WP mX9_out 0 (am_ent 3 [.ref 0, .int ver, .int hour]) [] (G X I L F) 0 0 Q := by
  refine w_aload_n rX9_out_0 rfl ?_
  refine w_getR rX9_out_1 rfl rfl (G_is (by decide) rfl) (x := 9) rfl ?_
  refine w_iload_n rX9_out_4 rfl ?_
  refine w_invokevirtual rX9_out_5 rfl rfl rfl (Nat.le_of_ble_eq_true rfl) ⟨trivial, trivial, trivial⟩ (G_is (by decide) rfl) (by decide) (by decide) ?_
  refine s_X6_has ?_
  show WP mX9_out 8 _ _ _ 0 0 _
  refine w_ifne rX9_out_8 (fun h8 => ?_) (fun h8 => ?_)
  · replace q := q.2 h8
    refine w_iload_n rX9_out_21 rfl ?_
    refine w_invokestatic rX9_out_22 rfl rfl rfl (Nat.le_of_ble_eq_true rfl) ⟨trivial, trivial⟩ trivial (by decide) (by decide) ?_
    refine s_X9_isHour ?_
    show WP mX9_out 25 _ _ _ 0 0 _
    refine w_ifne rX9_out_25 (fun h25 => ?_) (fun h25 => ?_)
    · replace q := q.2 h25
      refine w_aload_n rX9_out_38 rfl ?_
      refine w_getR rX9_out_39 rfl rfl (G_is (by decide) rfl) (x := 9) rfl ?_
      refine w_iload_n rX9_out_42 rfl ?_
      refine w_iload_n rX9_out_43 rfl ?_
      refine w_invokevirtual rX9_out_44 rfl rfl rfl (Nat.le_of_ble_eq_true rfl) ⟨trivial, trivial, trivial, trivial⟩ (G_is (by decide) rfl) (by decide) (by decide) ?_
      exact q
    · replace q := q.1 h25
      exact w_throw (by rfl) (by decide) (by decide) (Nat.le_of_ble_eq_true rfl) q
  · replace q := q.1 h8
    exact w_throw (by rfl) (by decide) (by decide) (Nat.le_of_ble_eq_true rfl) q
theorem k_X9_out_47 {X : Nat × (Nat × (Nat → Int32))} {I : Nat → Nat → Int32} {L : Nat → Nat → Int64} {F : Nat → Nat → UInt32} {Q : AQ} {x1 : Int32} {x2 : Int32} {e0 : UInt32} (q : WP mX9_bitsOf 0 (am_ent 5 [.float e0]) [] (G X I L F) 0 0 (am_kq mX9_out 47 [some (.ref 0), some (.int x1), some (.int x2)] [] (0 + am_bc mX9_bitsOf) (0 + am_bs mX9_bitsOf) Q)) : WP mX9_out 47 [some (.ref 0), some (.int x1), some (.int x2)] [.float e0] (G X I L F) 0 0 Q := by
  refine w_invokestatic rX9_out_47 rfl rfl rfl (Nat.le_of_ble_eq_true rfl) ⟨trivial, trivial⟩ trivial (by decide) (by decide) ?_
  exact q
theorem k_X9_out_50 {X : Nat × (Nat × (Nat → Int32))} {I : Nat → Nat → Int32} {L : Nat → Nat → Int64} {F : Nat → Nat → UInt32} {Q : AQ} {x1 : Int32} {x2 : Int32} {e0 : Int32} (q : Q (.inl (some (.int e0))) (G X I L F)) : WP mX9_out 50 [some (.ref 0), some (.int x1), some (.int x2)] [.int e0] (G X I L F) 0 0 Q := by
  refine w_ireturn rX9_out_50 trivial ?_
  exact q
theorem k_X9_outAnew_0 {X : Nat × (Nat × (Nat → Int32))} {I : Nat → Nat → Int32} {L : Nat → Nat → Int64} {F : Nat → Nat → UInt32} {Q : AQ} {ver : Int32} {hour : Int32} (q : ((f_X6_has ver I) = 0 → Q (.inr 0) (G X I L F)) ∧ (¬ (f_X6_has ver I) = 0 → ((f_X9_isHour hour) = 0 → Q (.inr 1) (G X I L F)) ∧ (¬ (f_X9_isHour hour) = 0 → WP mX6_forget 0 (am_ent 3 [.ref 9, .int ver]) [] (G X I L F) 0 0 (am_kq mX9_outAnew 43 [some (.ref 0), some (.int ver), some (.int hour)] [] (0 + am_bc mX6_forget) (0 + am_bs mX6_forget) Q)))) : WP mX9_outAnew 0 (am_ent 3 [.ref 0, .int ver, .int hour]) [] (G X I L F) 0 0 Q := by
  refine w_aload_n rX9_outAnew_0 rfl ?_
  refine w_getR rX9_outAnew_1 rfl rfl (G_is (by decide) rfl) (x := 9) rfl ?_
  refine w_iload_n rX9_outAnew_4 rfl ?_
  refine w_invokevirtual rX9_outAnew_5 rfl rfl rfl (Nat.le_of_ble_eq_true rfl) ⟨trivial, trivial, trivial⟩ (G_is (by decide) rfl) (by decide) (by decide) ?_
  refine s_X6_has ?_
  show WP mX9_outAnew 8 _ _ _ 0 0 _
  refine w_ifne rX9_outAnew_8 (fun h8 => ?_) (fun h8 => ?_)
  · replace q := q.2 h8
    refine w_iload_n rX9_outAnew_21 rfl ?_
    refine w_invokestatic rX9_outAnew_22 rfl rfl rfl (Nat.le_of_ble_eq_true rfl) ⟨trivial, trivial⟩ trivial (by decide) (by decide) ?_
    refine s_X9_isHour ?_
    show WP mX9_outAnew 25 _ _ _ 0 0 _
    refine w_ifne rX9_outAnew_25 (fun h25 => ?_) (fun h25 => ?_)
    · replace q := q.2 h25
      refine w_aload_n rX9_outAnew_38 rfl ?_
      refine w_getR rX9_outAnew_39 rfl rfl (G_is (by decide) rfl) (x := 9) rfl ?_
      refine w_iload_n rX9_outAnew_42 rfl ?_
      refine w_invokevirtual rX9_outAnew_43 rfl rfl rfl (Nat.le_of_ble_eq_true rfl) ⟨trivial, trivial, trivial⟩ (G_is (by decide) rfl) (by decide) (by decide) ?_
      exact q
    · replace q := q.1 h25
      exact w_throw (by rfl) (by decide) (by decide) (Nat.le_of_ble_eq_true rfl) q
  · replace q := q.1 h8
    exact w_throw (by rfl) (by decide) (by decide) (Nat.le_of_ble_eq_true rfl) q
theorem k_X9_outAnew_46 {X : Nat × (Nat × (Nat → Int32))} {I : Nat → Nat → Int32} {L : Nat → Nat → Int64} {F : Nat → Nat → UInt32} {Q : AQ} {x1 : Int32} {x2 : Int32} (q : WP mX6_outputOf 0 (am_ent 4 [.ref 9, .int x1, .int x2]) [] (G X I L F) 0 0 (am_kq mX9_outAnew 52 [some (.ref 0), some (.int x1), some (.int x2)] [] (0 + am_bc mX6_outputOf) (0 + am_bs mX6_outputOf) Q)) : WP mX9_outAnew 46 [some (.ref 0), some (.int x1), some (.int x2)] [] (G X I L F) 0 0 Q := by
  refine w_aload_n rX9_outAnew_46 rfl ?_
  refine w_getR rX9_outAnew_47 rfl rfl (G_is (by decide) rfl) (x := 9) rfl ?_
  refine w_iload_n rX9_outAnew_50 rfl ?_
  refine w_iload_n rX9_outAnew_51 rfl ?_
  refine w_invokevirtual rX9_outAnew_52 rfl rfl rfl (Nat.le_of_ble_eq_true rfl) ⟨trivial, trivial, trivial, trivial⟩ (G_is (by decide) rfl) (by decide) (by decide) ?_
  exact q
theorem k_X9_outAnew_55 {X : Nat × (Nat × (Nat → Int32))} {I : Nat → Nat → Int32} {L : Nat → Nat → Int64} {F : Nat → Nat → UInt32} {Q : AQ} {x1 : Int32} {x2 : Int32} {e0 : UInt32} (q : WP mX9_bitsOf 0 (am_ent 5 [.float e0]) [] (G X I L F) 0 0 (am_kq mX9_outAnew 55 [some (.ref 0), some (.int x1), some (.int x2)] [] (0 + am_bc mX9_bitsOf) (0 + am_bs mX9_bitsOf) Q)) : WP mX9_outAnew 55 [some (.ref 0), some (.int x1), some (.int x2)] [.float e0] (G X I L F) 0 0 Q := by
  refine w_invokestatic rX9_outAnew_55 rfl rfl rfl (Nat.le_of_ble_eq_true rfl) ⟨trivial, trivial⟩ trivial (by decide) (by decide) ?_
  exact q
theorem k_X9_outAnew_58 {X : Nat × (Nat × (Nat → Int32))} {I : Nat → Nat → Int32} {L : Nat → Nat → Int64} {F : Nat → Nat → UInt32} {Q : AQ} {x1 : Int32} {x2 : Int32} {e0 : Int32} (q : Q (.inl (some (.int e0))) (G X I L F)) : WP mX9_outAnew 58 [some (.ref 0), some (.int x1), some (.int x2)] [.int e0] (G X I L F) 0 0 Q := by
  refine w_ireturn rX9_outAnew_58 trivial ?_
  exact q
theorem k_X9_run_0 {X : Nat × (Nat × (Nat → Int32))} {I : Nat → Nat → Int32} {L : Nat → Nat → Int64} {F : Nat → Nat → UInt32} {Q : AQ} {model : Int32} {hours : Int32} (q : ((f_X9_isModel model) = 0 → Q (.inr 0) (G X I L F)) ∧ (¬ (f_X9_isModel model) = 0 → (hours < 1 → Q (.inr 1) (G X I L F)) ∧ (¬ hours < 1 → (hours ≤ 48 → ((f_X6_latestOf model I) = (-1) → Q (.inr 2) (G X I L F)) ∧ (¬ (f_X6_latestOf model I) = (-1) → (200 < ((I 0 9) + hours) → Q (.inr 2) (G X I L F)) ∧ (¬ 200 < ((I 0 9) + hours) → ((I 0 7) < 40 → vp_in (I 0 7) 40 ∧ (WP mX5_lookAhead 0 (am_ent 7 [.ref (383 + Int32.toNatClampNeg (I 0 7)), .ref 9, .int (f_X6_latestOf model I), .int (I 0 9), .int ((I 0 9) + hours)]) [] (G X I L F) 0 0 (am_kq mX9_run 110 [some (.ref 0), some (.int model), some (.int hours), some (.int (f_X6_latestOf model I))] [] (0 + am_bc mX5_lookAhead) (0 + am_bs mX5_lookAhead) Q))) ∧ (¬ (I 0 7) < 40 → Q (.inr 2) (G X I L F))))) ∧ (¬ hours ≤ 48 → Q (.inr 1) (G X I L F))))) : WP mX9_run 0 (am_ent 4 [.ref 0, .int model, .int hours]) [] (G X I L F) 0 0 Q := by
  refine w_iload_n rX9_run_0 rfl ?_
  refine w_invokestatic rX9_run_1 rfl rfl rfl (Nat.le_of_ble_eq_true rfl) ⟨trivial, trivial⟩ trivial (by decide) (by decide) ?_
  refine s_X9_isModel ?_
  show WP mX9_run 4 _ _ _ 0 0 _
  refine w_ifne rX9_run_4 (fun h4 => ?_) (fun h4 => ?_)
  · replace q := q.2 h4
    refine w_iload_n rX9_run_17 rfl ?_
    refine w_iconst rX9_run_18 (x := 1) (by decide) ?_
    refine w_icmplt rX9_run_19 (fun h19 => ?_) (fun h19 => ?_)
    · replace q := q.1 h19
      exact w_throw (by rfl) (by decide) (by decide) (Nat.le_of_ble_eq_true rfl) q
    · replace q := q.2 h19
      refine w_iload_n rX9_run_22 rfl ?_
      refine w_bipush rX9_run_23 (x := 48) (by decide) ?_
      refine w_icmple rX9_run_25 (fun h25 => ?_) (fun h25 => ?_)
      · replace q := q.1 h25
        refine w_aload_n rX9_run_38 rfl ?_
        refine w_getR rX9_run_39 rfl rfl (G_is (by decide) rfl) (x := 9) rfl ?_
        refine w_iload_n rX9_run_42 rfl ?_
        refine w_invokevirtual rX9_run_43 rfl rfl rfl (Nat.le_of_ble_eq_true rfl) ⟨trivial, trivial, trivial⟩ (G_is (by decide) rfl) (by decide) (by decide) ?_
        refine s_X6_latestOf ?_
        show WP mX9_run 46 _ _ _ 0 0 _
        refine w_istore_n rX9_run_46 rfl trivial ?_
        refine w_iload_n rX9_run_47 rfl ?_
        refine w_iconst rX9_run_48 (x := -1) (by decide) ?_
        refine w_icmpeq rX9_run_49 (fun h49 => ?_) (fun h49 => ?_)
        · replace q := q.1 h49
          exact w_throw (by rfl) (by decide) (by decide) (Nat.le_of_ble_eq_true rfl) q
        · replace q := q.2 h49
          refine w_aload_n rX9_run_52 rfl ?_
          refine x_getI rX9_run_53 rfl rfl (G_is (by decide) rfl) ?_
          refine w_iload_n rX9_run_56 rfl ?_
          refine w_iadd rX9_run_57 ?_
          refine w_sipush rX9_run_58 (x := 200) (by decide) ?_
          refine w_icmpgt rX9_run_61 (fun h61 => ?_) (fun h61 => ?_)
          · replace q := q.1 h61
            exact w_throw (by rfl) (by decide) (by decide) (Nat.le_of_ble_eq_true rfl) q
          · replace q := q.2 h61
            refine w_aload_n rX9_run_64 rfl ?_
            refine x_getI rX9_run_65 rfl rfl (G_is (by decide) rfl) ?_
            refine w_aload_n rX9_run_68 rfl ?_
            refine w_getR rX9_run_69 rfl rfl (G_is (by decide) rfl) (x := 379) rfl ?_
            refine G_lenc rX9_run_72 (by decide) rfl (n := 40) rfl (x := 40) (by decide) ?_
            refine w_icmplt rX9_run_73 (fun h73 => ?_) (fun h73 => ?_)
            · replace q := q.1 h73
              refine w_aload_n rX9_run_86 rfl ?_
              refine w_getR rX9_run_87 rfl rfl (G_is (by decide) rfl) (x := 379) rfl ?_
              refine w_aload_n rX9_run_90 rfl ?_
              refine x_getI rX9_run_91 rfl rfl (G_is (by decide) rfl) ?_
              have h94 := q.1
              replace q := q.2
              refine w_aaload rX9_run_94 (G_aa (by decide) rfl rfl h94) (ga_run h94) ?_
              refine w_aload_n rX9_run_95 rfl ?_
              refine w_getR rX9_run_96 rfl rfl (G_is (by decide) rfl) (x := 9) rfl ?_
              refine w_iload_n rX9_run_99 rfl ?_
              refine w_aload_n rX9_run_100 rfl ?_
              refine x_getI rX9_run_101 rfl rfl (G_is (by decide) rfl) ?_
              refine w_aload_n rX9_run_104 rfl ?_
              refine x_getI rX9_run_105 rfl rfl (G_is (by decide) rfl) ?_
              refine w_iload_n rX9_run_108 rfl ?_
              refine w_iadd rX9_run_109 ?_
              refine w_invokevirtual rX9_run_110 rfl rfl rfl (Nat.le_of_ble_eq_true rfl) ⟨trivial, trivial, trivial, trivial, trivial, trivial⟩ (G_isk (gi_run h94)) (by decide) (by decide) ?_
              exact q
            · replace q := q.2 h73
              exact w_throw (by rfl) (by decide) (by decide) (Nat.le_of_ble_eq_true rfl) q
      · replace q := q.2 h25
        exact w_throw (by rfl) (by decide) (by decide) (Nat.le_of_ble_eq_true rfl) q
  · replace q := q.1 h4
    exact w_throw (by rfl) (by decide) (by decide) (Nat.le_of_ble_eq_true rfl) q
theorem k_X9_run_113 {X : Nat × (Nat × (Nat → Int32))} {I : Nat → Nat → Int32} {L : Nat → Nat → Int64} {F : Nat → Nat → UInt32} {Q : AQ} {x1 : Int32} {x2 : Int32} {x3 : Int32} (q : Q (.inl (some (.int (((I 0 7) + 1) - 1)))) (G X (am_u I 0 7 ((I 0 7) + 1)) L F)) : WP mX9_run 113 [some (.ref 0), some (.int x1), some (.int x2), some (.int x3)] [] (G X I L F) 0 0 Q := by
  refine w_aload_n rX9_run_113 rfl ?_
  refine w_dup rX9_run_114 trivial ?_
  refine x_getI rX9_run_115 rfl rfl (G_is (by decide) rfl) ?_
  refine w_iconst rX9_run_118 (x := 1) (by decide) ?_
  refine w_iadd rX9_run_119 ?_
  refine x_putI rX9_run_120 rfl (G_is (by decide) rfl) trivial ?_
  refine w_aload_n rX9_run_123 rfl ?_
  refine x_getI rX9_run_124 rfl rfl (G_is (by decide) rfl) ?_
  rw [am_u_eq (f := I) (o := 0) (k := 7)]
  refine w_iconst rX9_run_127 (x := 1) (by decide) ?_
  refine w_isub rX9_run_128 ?_
  refine w_ireturn rX9_run_129 trivial ?_
  exact q
theorem k_X9_why_0 {X : Nat × (Nat × (Nat → Int32))} {I : Nat → Nat → Int32} {L : Nat → Nat → Int64} {F : Nat → Nat → UInt32} {Q : AQ} {run : Int32} (q : ((f_X9_isRun run I) = 0 → Q (.inr 0) (G X I L F)) ∧ (¬ (f_X9_isRun run I) = 0 → Q (.inl (some (.int (f_X9_reasonAgainst run I)))) (G X I L F))) : WP mX9_why 0 (am_ent 2 [.ref 0, .int run]) [] (G X I L F) 0 0 Q := by
  refine w_aload_n rX9_why_0 rfl ?_
  refine w_iload_n rX9_why_1 rfl ?_
  refine w_invokevirtual rX9_why_2 rfl rfl rfl (Nat.le_of_ble_eq_true rfl) ⟨trivial, trivial, trivial⟩ (G_is (by decide) rfl) (by decide) (by decide) ?_
  refine s_X9_isRun ?_
  show WP mX9_why 5 _ _ _ 0 0 _
  refine w_ifne rX9_why_5 (fun h5 => ?_) (fun h5 => ?_)
  · replace q := q.2 h5
    refine w_aload_n rX9_why_18 rfl ?_
    refine w_iload_n rX9_why_19 rfl ?_
    refine w_invokevirtual rX9_why_20 rfl rfl rfl (Nat.le_of_ble_eq_true rfl) ⟨trivial, trivial, trivial⟩ (G_is (by decide) rfl) (by decide) (by decide) ?_
    refine s_X9_reasonAgainst ?_
    show WP mX9_why 23 _ _ _ 0 0 _
    refine w_ireturn rX9_why_23 trivial ?_
    exact q
  · replace q := q.1 h5
    exact w_throw (by rfl) (by decide) (by decide) (Nat.le_of_ble_eq_true rfl) q
theorem k_X9_peak_0 {X : Nat × (Nat × (Nat → Int32))} {I : Nat → Nat → Int32} {L : Nat → Nat → Int64} {F : Nat → Nat → UInt32} {Q : AQ} {run : Int32} (q : ((f_X9_isRun run I) = 0 → Q (.inr 0) (G X I L F)) ∧ (¬ (f_X9_isRun run I) = 0 → WP mX9_bitsOf 0 (am_ent 5 [.float (F (383 + Int32.toNatClampNeg run) 3)]) [] (G X I L F) 0 0 (am_kq mX9_peak 27 [some (.ref 0), some (.int run)] [] (0 + am_bc mX9_bitsOf) (0 + am_bs mX9_bitsOf) Q))) : WP mX9_peak 0 (am_ent 2 [.ref 0, .int run]) [] (G X I L F) 0 0 Q := by
  refine w_aload_n rX9_peak_0 rfl ?_
  refine w_iload_n rX9_peak_1 rfl ?_
  refine w_invokevirtual rX9_peak_2 rfl rfl rfl (Nat.le_of_ble_eq_true rfl) ⟨trivial, trivial, trivial⟩ (G_is (by decide) rfl) (by decide) (by decide) ?_
  refine s_X9_isRun ?_
  show WP mX9_peak 5 _ _ _ 0 0 _
  refine w_ifne rX9_peak_5 (fun h5 => ?_) (fun h5 => ?_)
  · replace q := q.2 h5
    refine w_aload_n rX9_peak_18 rfl ?_
    refine w_getR rX9_peak_19 rfl rfl (G_is (by decide) rfl) (x := 379) rfl ?_
    refine w_iload_n rX9_peak_22 rfl ?_
    refine w_aaload rX9_peak_23 (G_aa (by decide) rfl rfl (gd_X9_isRun h5)) (ga_run (gd_X9_isRun h5)) ?_
    refine x_getF rX9_peak_24 rfl rfl (G_isk (gi_run (gd_X9_isRun h5))) ?_
    refine w_invokestatic rX9_peak_27 rfl rfl rfl (Nat.le_of_ble_eq_true rfl) ⟨trivial, trivial⟩ trivial (by decide) (by decide) ?_
    exact q
  · replace q := q.1 h5
    exact w_throw (by rfl) (by decide) (by decide) (Nat.le_of_ble_eq_true rfl) q
theorem k_X9_peak_30 {X : Nat × (Nat × (Nat → Int32))} {I : Nat → Nat → Int32} {L : Nat → Nat → Int64} {F : Nat → Nat → UInt32} {Q : AQ} {x1 : Int32} {e0 : Int32} (q : Q (.inl (some (.int e0))) (G X I L F)) : WP mX9_peak 30 [some (.ref 0), some (.int x1)] [.int e0] (G X I L F) 0 0 Q := by
  refine w_ireturn rX9_peak_30 trivial ?_
  exact q
theorem k_X9_peakHour_0 {X : Nat × (Nat × (Nat → Int32))} {I : Nat → Nat → Int32} {L : Nat → Nat → Int64} {F : Nat → Nat → UInt32} {Q : AQ} {run : Int32} (q : ((f_X9_isRun run I) = 0 → Q (.inr 0) (G X I L F)) ∧ (¬ (f_X9_isRun run I) = 0 → Q (.inl (some (.int (I (383 + Int32.toNatClampNeg run) 4)))) (G X I L F))) : WP mX9_peakHour 0 (am_ent 2 [.ref 0, .int run]) [] (G X I L F) 0 0 Q := by
  refine w_aload_n rX9_peakHour_0 rfl ?_
  refine w_iload_n rX9_peakHour_1 rfl ?_
  refine w_invokevirtual rX9_peakHour_2 rfl rfl rfl (Nat.le_of_ble_eq_true rfl) ⟨trivial, trivial, trivial⟩ (G_is (by decide) rfl) (by decide) (by decide) ?_
  refine s_X9_isRun ?_
  show WP mX9_peakHour 5 _ _ _ 0 0 _
  refine w_ifne rX9_peakHour_5 (fun h5 => ?_) (fun h5 => ?_)
  · replace q := q.2 h5
    refine w_aload_n rX9_peakHour_18 rfl ?_
    refine w_getR rX9_peakHour_19 rfl rfl (G_is (by decide) rfl) (x := 379) rfl ?_
    refine w_iload_n rX9_peakHour_22 rfl ?_
    refine w_aaload rX9_peakHour_23 (G_aa (by decide) rfl rfl (gd_X9_isRun h5)) (ga_run (gd_X9_isRun h5)) ?_
    refine x_getI rX9_peakHour_24 rfl rfl (G_isk (gi_run (gd_X9_isRun h5))) ?_
    refine w_ireturn rX9_peakHour_27 trivial ?_
    exact q
  · replace q := q.1 h5
    exact w_throw (by rfl) (by decide) (by decide) (Nat.le_of_ble_eq_true rfl) q
theorem k_X9_peakAnew_0 {X : Nat × (Nat × (Nat → Int32))} {I : Nat → Nat → Int32} {L : Nat → Nat → Int64} {F : Nat → Nat → UInt32} {Q : AQ} {run : Int32} (q : ((f_X9_isRun run I) = 0 → Q (.inr 0) (G X I L F)) ∧ (¬ (f_X9_isRun run I) = 0 → WP mX6_forget 0 (am_ent 3 [.ref 9, .int (I (383 + Int32.toNatClampNeg run) 0)]) [] (G X I L F) 0 0 (am_kq mX9_peakAnew 33 [some (.ref 0), some (.int run), some (.ref (383 + Int32.toNatClampNeg run))] [] (0 + am_bc mX6_forget) (0 + am_bs mX6_forget) Q))) : WP mX9_peakAnew 0 (am_ent 3 [.ref 0, .int run]) [] (G X I L F) 0 0 Q := by
  refine w_aload_n rX9_peakAnew_0 rfl ?_
  refine w_iload_n rX9_peakAnew_1 rfl ?_
  refine w_invokevirtual rX9_peakAnew_2 rfl rfl rfl (Nat.le_of_ble_eq_true rfl) ⟨trivial, trivial, trivial⟩ (G_is (by decide) rfl) (by decide) (by decide) ?_
  refine s_X9_isRun ?_
  show WP mX9_peakAnew 5 _ _ _ 0 0 _
  refine w_ifne rX9_peakAnew_5 (fun h5 => ?_) (fun h5 => ?_)
  · replace q := q.2 h5
    refine w_aload_n rX9_peakAnew_18 rfl ?_
    refine w_getR rX9_peakAnew_19 rfl rfl (G_is (by decide) rfl) (x := 379) rfl ?_
    refine w_iload_n rX9_peakAnew_22 rfl ?_
    refine w_aaload rX9_peakAnew_23 (G_aa (by decide) rfl rfl (gd_X9_isRun h5)) (ga_run (gd_X9_isRun h5)) ?_
    refine w_astore_n rX9_peakAnew_24 rfl trivial ?_
    refine w_aload_n rX9_peakAnew_25 rfl ?_
    refine w_getR rX9_peakAnew_26 rfl rfl (G_is (by decide) rfl) (x := 9) rfl ?_
    refine w_aload_n rX9_peakAnew_29 rfl ?_
    refine x_getI rX9_peakAnew_30 rfl rfl (G_isk (gi_run (gd_X9_isRun h5))) ?_
    refine w_invokevirtual rX9_peakAnew_33 rfl rfl rfl (Nat.le_of_ble_eq_true rfl) ⟨trivial, trivial, trivial⟩ (G_is (by decide) rfl) (by decide) (by decide) ?_
    exact q
  · replace q := q.1 h5
    exact w_throw (by rfl) (by decide) (by decide) (Nat.le_of_ble_eq_true rfl) q
theorem k_X9_peakAnew_36 {X : Nat × (Nat × (Nat → Int32))} {I : Nat → Nat → Int32} {L : Nat → Nat → Int64} {F : Nat → Nat → UInt32} {Q : AQ} {x1 : Int32} {o2 : Nat} (ho2 : isRun o2) (q : WP mX5_lookAhead 0 (am_ent 7 [.ref 380, .ref 9, .int (I o2 0), .int (I o2 1), .int (I o2 2)]) [] (G X I L F) 0 0 (am_kq mX9_peakAnew 56 [some (.ref 0), some (.int x1), some (.ref o2)] [] (0 + am_bc mX5_lookAhead) (0 + am_bs mX5_lookAhead) Q)) : WP mX9_peakAnew 36 [some (.ref 0), some (.int x1), some (.ref o2)] [] (G X I L F) 0 0 Q := by
  refine w_aload_n rX9_peakAnew_36 rfl ?_
  refine w_getR rX9_peakAnew_37 rfl rfl (G_is (by decide) rfl) (x := 380) rfl ?_
  refine w_aload_n rX9_peakAnew_40 rfl ?_
  refine w_getR rX9_peakAnew_41 rfl rfl (G_is (by decide) rfl) (x := 9) rfl ?_
  refine w_aload_n rX9_peakAnew_44 rfl ?_
  refine x_getI rX9_peakAnew_45 rfl rfl (G_isk ho2) ?_
  refine w_aload_n rX9_peakAnew_48 rfl ?_
  refine x_getI rX9_peakAnew_49 rfl rfl (G_isk ho2) ?_
  refine w_aload_n rX9_peakAnew_52 rfl ?_
  refine x_getI rX9_peakAnew_53 rfl rfl (G_isk ho2) ?_
  refine w_invokevirtual rX9_peakAnew_56 rfl rfl rfl (Nat.le_of_ble_eq_true rfl) ⟨trivial, trivial, trivial, trivial, trivial, trivial⟩ (G_is (by decide) rfl) (by decide) (by decide) ?_
  exact q
theorem k_X9_peakAnew_59 {X : Nat × (Nat × (Nat → Int32))} {I : Nat → Nat → Int32} {L : Nat → Nat → Int64} {F : Nat → Nat → UInt32} {Q : AQ} {x1 : Int32} {o2 : Nat} (ho2 : isRun o2) (q : WP mX9_bitsOf 0 (am_ent 5 [.float (F 380 3)]) [] (G X I L F) 0 0 (am_kq mX9_peakAnew 66 [some (.ref 0), some (.int x1), some (.ref o2)] [] (0 + am_bc mX9_bitsOf) (0 + am_bs mX9_bitsOf) Q)) : WP mX9_peakAnew 59 [some (.ref 0), some (.int x1), some (.ref o2)] [] (G X I L F) 0 0 Q := by
  refine w_aload_n rX9_peakAnew_59 rfl ?_
  refine w_getR rX9_peakAnew_60 rfl rfl (G_is (by decide) rfl) (x := 380) rfl ?_
  refine x_getF rX9_peakAnew_63 rfl rfl (G_is (by decide) rfl) ?_
  refine w_invokestatic rX9_peakAnew_66 rfl rfl rfl (Nat.le_of_ble_eq_true rfl) ⟨trivial, trivial⟩ trivial (by decide) (by decide) ?_
  exact q
theorem k_X9_peakAnew_69 {X : Nat × (Nat × (Nat → Int32))} {I : Nat → Nat → Int32} {L : Nat → Nat → Int64} {F : Nat → Nat → UInt32} {Q : AQ} {x1 : Int32} {o2 : Nat} {e0 : Int32} (ho2 : isRun o2) (q : Q (.inl (some (.int e0))) (G X I L F)) : WP mX9_peakAnew 69 [some (.ref 0), some (.int x1), some (.ref o2)] [.int e0] (G X I L F) 0 0 Q := by
  refine w_ireturn rX9_peakAnew_69 trivial ?_
  exact q
theorem k_X9_build_0 {X : Nat × (Nat × (Nat → Int32))} {I : Nat → Nat → Int32} {L : Nat → Nat → Int64} {F : Nat → Nat → UInt32} {Q : AQ} {dam : Int32} {model : Int32} {cap : Int32} (q : ((f_X9_isDam dam) = 0 → Q (.inr 0) (G X I L F)) ∧ (¬ (f_X9_isDam dam) = 0 → ((f_X9_isModel model) = 0 → Q (.inr 0) (G X I L F)) ∧ (¬ (f_X9_isModel model) = 0 → (cap < 1 → Q (.inr 1) (G X I L F)) ∧ (¬ cap < 1 → (cap ≤ 100000 → ((I (423 + 5 * Int32.toNatClampNeg dam) 2) = 0 → Q (.inl none) (G X (am_u (am_u (am_u I (423 + 5 * Int32.toNatClampNeg dam) 2 1) (423 + 5 * Int32.toNatClampNeg dam) 3 model) (423 + 5 * Int32.toNatClampNeg dam) 4 cap) L F)) ∧ (¬ (I (423 + 5 * Int32.toNatClampNeg dam) 2) = 0 → Q (.inr 2) (G X I L F))) ∧ (¬ cap ≤ 100000 → Q (.inr 1) (G X I L F)))))) : WP mX9_build 0 (am_ent 5 [.ref 0, .int dam, .int model, .int cap]) [] (G X I L F) 0 0 Q := by
  refine w_aload_n rX9_build_0 rfl ?_
  refine w_iload_n rX9_build_1 rfl ?_
  refine w_invokevirtual rX9_build_2 rfl rfl rfl (Nat.le_of_ble_eq_true rfl) ⟨trivial, trivial, trivial⟩ (G_is (by decide) rfl) (by decide) (by decide) ?_
  refine s_X9_isDam ?_
  show WP mX9_build 5 _ _ _ 0 0 _
  refine w_ifeq rX9_build_5 (fun h5 => ?_) (fun h5 => ?_)
  · replace q := q.1 h5
    exact w_throw (by rfl) (by decide) (by decide) (Nat.le_of_ble_eq_true rfl) q
  · replace q := q.2 h5
    refine w_iload_n rX9_build_8 rfl ?_
    refine w_invokestatic rX9_build_9 rfl rfl rfl (Nat.le_of_ble_eq_true rfl) ⟨trivial, trivial⟩ trivial (by decide) (by decide) ?_
    refine s_X9_isModel ?_
    show WP mX9_build 12 _ _ _ 0 0 _
    refine w_ifne rX9_build_12 (fun h12 => ?_) (fun h12 => ?_)
    · replace q := q.2 h12
      refine w_iload_n rX9_build_25 rfl ?_
      refine w_iconst rX9_build_26 (x := 1) (by decide) ?_
      refine w_icmplt rX9_build_27 (fun h27 => ?_) (fun h27 => ?_)
      · replace q := q.1 h27
        exact w_throw (by rfl) (by decide) (by decide) (Nat.le_of_ble_eq_true rfl) q
      · replace q := q.2 h27
        refine w_iload_n rX9_build_30 rfl ?_
        refine w_ldcI rX9_build_31 (x := 100000) (by decide) ?_
        refine w_icmple rX9_build_33 (fun h33 => ?_) (fun h33 => ?_)
        · replace q := q.1 h33
          refine w_aload_n rX9_build_46 rfl ?_
          refine w_getR rX9_build_47 rfl rfl (G_is (by decide) rfl) (x := 381) rfl ?_
          refine w_iload_n rX9_build_50 rfl ?_
          refine w_aaload rX9_build_51 (G_aa (by decide) rfl rfl (gd_X9_isDam h5)) (ga_dam (gd_X9_isDam h5)) ?_
          refine w_astore rX9_build_52 rfl trivial ?_
          refine w_aload rX9_build_54 rfl ?_
          refine x_getI rX9_build_56 rfl rfl (G_isk (gi_dam (gd_X9_isDam h5)).1) ?_
          refine w_ifeq rX9_build_59 (fun h59 => ?_) (fun h59 => ?_)
          · replace q := q.1 h59
            refine w_aload rX9_build_72 rfl ?_
            refine w_iconst rX9_build_74 (x := 1) (by decide) ?_
            refine x_putI rX9_build_75 rfl (G_isk (gi_dam (gd_X9_isDam h5)).1) (Or.inr rfl) ?_
            refine w_aload rX9_build_78 rfl ?_
            refine w_iload_n rX9_build_80 rfl ?_
            refine x_putI rX9_build_81 rfl (G_isk (gi_dam (gd_X9_isDam h5)).1) trivial ?_
            refine w_aload rX9_build_84 rfl ?_
            refine w_iload_n rX9_build_86 rfl ?_
            refine x_putI rX9_build_87 rfl (G_isk (gi_dam (gd_X9_isDam h5)).1) trivial ?_
            refine w_return rX9_build_90 ?_
            exact q
          · replace q := q.2 h59
            exact w_throw (by rfl) (by decide) (by decide) (Nat.le_of_ble_eq_true rfl) q
        · replace q := q.2 h33
          exact w_throw (by rfl) (by decide) (by decide) (Nat.le_of_ble_eq_true rfl) q
    · replace q := q.1 h12
      exact w_throw (by rfl) (by decide) (by decide) (Nat.le_of_ble_eq_true rfl) q
theorem k_X9_rule_0 {X : Nat × (Nat × (Nat → Int32))} {I : Nat → Nat → Int32} {L : Nat → Nat → Int64} {F : Nat → Nat → UInt32} {Q : AQ} {dam : Int32} (q : ((f_X9_isDam dam) = 0 → Q (.inr 0) (G X I L F)) ∧ (¬ (f_X9_isDam dam) = 0 → WP mX3_read 0 (am_ent 4 [.ref 3, .ref 1, .int 1]) [] (G X I L F) 0 0 (am_kq mX9_rule 27 [some (.ref 0), some (.int dam), none] [] (0 + am_bc mX3_read) (0 + am_bs mX3_read) Q))) : WP mX9_rule 0 (am_ent 3 [.ref 0, .int dam]) [] (G X I L F) 0 0 Q := by
  refine w_aload_n rX9_rule_0 rfl ?_
  refine w_iload_n rX9_rule_1 rfl ?_
  refine w_invokevirtual rX9_rule_2 rfl rfl rfl (Nat.le_of_ble_eq_true rfl) ⟨trivial, trivial, trivial⟩ (G_is (by decide) rfl) (by decide) (by decide) ?_
  refine s_X9_isDam ?_
  show WP mX9_rule 5 _ _ _ 0 0 _
  refine w_ifne rX9_rule_5 (fun h5 => ?_) (fun h5 => ?_)
  · replace q := q.2 h5
    refine w_aload_n rX9_rule_18 rfl ?_
    refine w_getR rX9_rule_19 rfl rfl (G_is (by decide) rfl) (x := 3) rfl ?_
    refine w_aload_n rX9_rule_22 rfl ?_
    refine w_getR rX9_rule_23 rfl rfl (G_is (by decide) rfl) (x := 1) rfl ?_
    refine w_iconst rX9_rule_26 (x := 1) (by decide) ?_
    refine w_invokevirtual rX9_rule_27 rfl rfl rfl (Nat.le_of_ble_eq_true rfl) ⟨trivial, trivial, trivial, trivial⟩ (G_is (by decide) rfl) (by decide) (by decide) ?_
    exact q
  · replace q := q.1 h5
    exact w_throw (by rfl) (by decide) (by decide) (Nat.le_of_ble_eq_true rfl) q
theorem k_X9_rule_30 {X : Nat × (Nat × (Nat → Int32))} {I : Nat → Nat → Int32} {L : Nat → Nat → Int64} {F : Nat → Nat → UInt32} {Q : AQ} {x1 : Int32} {e0 : Int32} (q : (e0 = (-1) → vp_in x1 3 ∧ (((I (423 + 5 * Int32.toNatClampNeg x1) 2) = 0 → Q (.inr 2) (G X I L F)) ∧ (¬ (I (423 + 5 * Int32.toNatClampNeg x1) 2) = 0 → WP mX2_copy 0 (am_ent 3 [.ref ((423 + 5 * Int32.toNatClampNeg x1) + 1), .ref 4]) [] (G X (am_u I (423 + 5 * Int32.toNatClampNeg x1) 6 1) L F) 0 0 (am_kq mX9_rule 84 [some (.ref 0), some (.int x1), some (.ref (423 + 5 * Int32.toNatClampNeg x1))] [] (0 + am_bc mX2_copy) (0 + am_bs mX2_copy) Q)))) ∧ (¬ e0 = (-1) → Q (.inr 1) (G X I L F))) : WP mX9_rule 30 [some (.ref 0), some (.int x1), none] [.int e0] (G X I L F) 0 0 Q := by
  refine w_iconst rX9_rule_30 (x := -1) (by decide) ?_
  refine w_icmpeq rX9_rule_31 (fun h31 => ?_) (fun h31 => ?_)
  · replace q := q.1 h31
    refine w_aload_n rX9_rule_44 rfl ?_
    refine w_getR rX9_rule_45 rfl rfl (G_is (by decide) rfl) (x := 381) rfl ?_
    refine w_iload_n rX9_rule_48 rfl ?_
    have h49 := q.1
    replace q := q.2
    refine w_aaload rX9_rule_49 (G_aa (by decide) rfl rfl h49) (ga_dam h49) ?_
    refine w_astore_n rX9_rule_50 rfl trivial ?_
    refine w_aload_n rX9_rule_51 rfl ?_
    refine x_getI rX9_rule_52 rfl rfl (G_isk (gi_dam h49).1) ?_
    refine w_ifne rX9_rule_55 (fun h55 => ?_) (fun h55 => ?_)
    · replace q := q.2 h55
      refine w_aload_n rX9_rule_68 rfl ?_
      refine w_iconst rX9_rule_69 (x := 1) (by decide) ?_
      refine x_putI rX9_rule_70 rfl (G_isk (gi_dam h49).1) (Or.inr rfl) ?_
      refine w_aload_n rX9_rule_73 rfl ?_
      refine w_getR rX9_rule_74 rfl rfl (G_isk (gi_dam h49).1) (gi_dam h49).2.1 ?_
      refine w_aload_n rX9_rule_77 rfl ?_
      refine w_getR rX9_rule_78 rfl rfl (G_is (by decide) rfl) (x := 3) rfl ?_
      refine w_getR rX9_rule_81 rfl rfl (G_is (by decide) rfl) (x := 4) rfl ?_
      refine w_invokevirtual rX9_rule_84 rfl rfl rfl (Nat.le_of_ble_eq_true rfl) ⟨trivial, trivial, trivial⟩ (G_isk (gi_dam h49).2.2.2.1.1) (by decide) (by decide) ?_
      exact q
    · replace q := q.1 h55
      exact w_throw (by rfl) (by decide) (by decide) (Nat.le_of_ble_eq_true rfl) q
  · replace q := q.2 h31
    exact w_throw (by rfl) (by decide) (by decide) (Nat.le_of_ble_eq_true rfl) q
theorem k_X9_rule_87 {X : Nat × (Nat × (Nat → Int32))} {I : Nat → Nat → Int32} {L : Nat → Nat → Int64} {F : Nat → Nat → UInt32} {Q : AQ} {x1 : Int32} {o2 : Nat} (ho2 : isDam o2) (q : Q (.inl none) (G X I L F)) : WP mX9_rule 87 [some (.ref 0), some (.int x1), some (.ref o2)] [] (G X I L F) 0 0 Q := by
  refine w_return rX9_rule_87 ?_
  exact q
theorem k_X9_goBy_0 {X : Nat × (Nat × (Nat → Int32))} {I : Nat → Nat → Int32} {L : Nat → Nat → Int64} {F : Nat → Nat → UInt32} {Q : AQ} {dam : Int32} {run : Int32} (q : ((f_X9_isDam dam) = 0 → Q (.inr 0) (G X I L F)) ∧ (¬ (f_X9_isDam dam) = 0 → ((f_X9_isRun run I) = 0 → Q (.inr 0) (G X I L F)) ∧ (¬ (f_X9_isRun run I) = 0 → ((I (423 + 5 * Int32.toNatClampNeg dam) 2) = 0 → Q (.inr 2) (G X I L F)) ∧ (¬ (I (423 + 5 * Int32.toNatClampNeg dam) 2) = 0 → ((f_X9_isGoodFor run (423 + 5 * Int32.toNatClampNeg dam) I) = 0 → Q (.inr 2) (G X I L F)) ∧ (¬ (f_X9_isGoodFor run (423 + 5 * Int32.toNatClampNeg dam) I) = 0 → Q (.inl none) (G X (am_u I (423 + 5 * Int32.toNatClampNeg dam) 7 run) L F)))))) : WP mX9_goBy 0 (am_ent 4 [.ref 0, .int dam, .int run]) [] (G X I L F) 0 0 Q := by
  refine w_aload_n rX9_goBy_0 rfl ?_
  refine w_iload_n rX9_goBy_1 rfl ?_
  refine w_invokevirtual rX9_goBy_2 rfl rfl rfl (Nat.le_of_ble_eq_true rfl) ⟨trivial, trivial, trivial⟩ (G_is (by decide) rfl) (by decide) (by decide) ?_
  refine s_X9_isDam ?_
  show WP mX9_goBy 5 _ _ _ 0 0 _
  refine w_ifeq rX9_goBy_5 (fun h5 => ?_) (fun h5 => ?_)
  · replace q := q.1 h5
    exact w_throw (by rfl) (by decide) (by decide) (Nat.le_of_ble_eq_true rfl) q
  · replace q := q.2 h5
    refine w_aload_n rX9_goBy_8 rfl ?_
    refine w_iload_n rX9_goBy_9 rfl ?_
    refine w_invokevirtual rX9_goBy_10 rfl rfl rfl (Nat.le_of_ble_eq_true rfl) ⟨trivial, trivial, trivial⟩ (G_is (by decide) rfl) (by decide) (by decide) ?_
    refine s_X9_isRun ?_
    show WP mX9_goBy 13 _ _ _ 0 0 _
    refine w_ifne rX9_goBy_13 (fun h13 => ?_) (fun h13 => ?_)
    · replace q := q.2 h13
      refine w_aload_n rX9_goBy_26 rfl ?_
      refine w_getR rX9_goBy_27 rfl rfl (G_is (by decide) rfl) (x := 381) rfl ?_
      refine w_iload_n rX9_goBy_30 rfl ?_
      refine w_aaload rX9_goBy_31 (G_aa (by decide) rfl rfl (gd_X9_isDam h5)) (ga_dam (gd_X9_isDam h5)) ?_
      refine w_astore_n rX9_goBy_32 rfl trivial ?_
      refine w_aload_n rX9_goBy_33 rfl ?_
      refine x_getI rX9_goBy_34 rfl rfl (G_isk (gi_dam (gd_X9_isDam h5)).1) ?_
      refine w_ifeq rX9_goBy_37 (fun h37 => ?_) (fun h37 => ?_)
      · replace q := q.1 h37
        exact w_throw (by rfl) (by decide) (by decide) (Nat.le_of_ble_eq_true rfl) q
      · replace q := q.2 h37
        refine w_aload_n rX9_goBy_40 rfl ?_
        refine w_iload_n rX9_goBy_41 rfl ?_
        refine w_aload_n rX9_goBy_42 rfl ?_
        refine w_invokevirtual rX9_goBy_43 rfl rfl rfl (Nat.le_of_ble_eq_true rfl) ⟨trivial, trivial, trivial, trivial⟩ (G_is (by decide) rfl) (by decide) (by decide) ?_
        refine s_X9_isGoodFor (gi_dam (gd_X9_isDam h5)) ?_
        show WP mX9_goBy 46 _ _ _ 0 0 _
        refine w_ifne rX9_goBy_46 (fun h46 => ?_) (fun h46 => ?_)
        · replace q := q.2 h46
          refine w_aload_n rX9_goBy_59 rfl ?_
          refine w_iload_n rX9_goBy_60 rfl ?_
          refine x_putI rX9_goBy_61 rfl (G_isk (gi_dam (gd_X9_isDam h5)).1) trivial ?_
          refine w_return rX9_goBy_64 ?_
          exact q
        · replace q := q.1 h46
          exact w_throw (by rfl) (by decide) (by decide) (Nat.le_of_ble_eq_true rfl) q
    · replace q := q.1 h13
      exact w_throw (by rfl) (by decide) (by decide) (Nat.le_of_ble_eq_true rfl) q
theorem k_X9_level_0 {X : Nat × (Nat × (Nat → Int32))} {I : Nat → Nat → Int32} {L : Nat → Nat → Int64} {F : Nat → Nat → UInt32} {Q : AQ} {dam : Int32} (q : ((f_X9_isDam dam) = 0 → Q (.inr 0) (G X I L F)) ∧ (¬ (f_X9_isDam dam) = 0 → WP mX9_bitsOf 0 (am_ent 5 [.float (F (423 + 5 * Int32.toNatClampNeg dam) 5)]) [] (G X I L F) 0 0 (am_kq mX9_level 27 [some (.ref 0), some (.int dam)] [] (0 + am_bc mX9_bitsOf) (0 + am_bs mX9_bitsOf) Q))) : WP mX9_level 0 (am_ent 2 [.ref 0, .int dam]) [] (G X I L F) 0 0 Q := by
  refine w_aload_n rX9_level_0 rfl ?_
  refine w_iload_n rX9_level_1 rfl ?_
  refine w_invokevirtual rX9_level_2 rfl rfl rfl (Nat.le_of_ble_eq_true rfl) ⟨trivial, trivial, trivial⟩ (G_is (by decide) rfl) (by decide) (by decide) ?_
  refine s_X9_isDam ?_
  show WP mX9_level 5 _ _ _ 0 0 _
  refine w_ifne rX9_level_5 (fun h5 => ?_) (fun h5 => ?_)
  · replace q := q.2 h5
    refine w_aload_n rX9_level_18 rfl ?_
    refine w_getR rX9_level_19 rfl rfl (G_is (by decide) rfl) (x := 381) rfl ?_
    refine w_iload_n rX9_level_22 rfl ?_
    refine w_aaload rX9_level_23 (G_aa (by decide) rfl rfl (gd_X9_isDam h5)) (ga_dam (gd_X9_isDam h5)) ?_
    refine x_getF rX9_level_24 rfl rfl (G_isk (gi_dam (gd_X9_isDam h5)).1) ?_
    refine w_invokestatic rX9_level_27 rfl rfl rfl (Nat.le_of_ble_eq_true rfl) ⟨trivial, trivial⟩ trivial (by decide) (by decide) ?_
    exact q
  · replace q := q.1 h5
    exact w_throw (by rfl) (by decide) (by decide) (Nat.le_of_ble_eq_true rfl) q
theorem k_X9_level_30 {X : Nat × (Nat × (Nat → Int32))} {I : Nat → Nat → Int32} {L : Nat → Nat → Int64} {F : Nat → Nat → UInt32} {Q : AQ} {x1 : Int32} {e0 : Int32} (q : Q (.inl (some (.int e0))) (G X I L F)) : WP mX9_level 30 [some (.ref 0), some (.int x1)] [.int e0] (G X I L F) 0 0 Q := by
  refine w_ireturn rX9_level_30 trivial ?_
  exact q
theorem k_X9_below_0 {X : Nat × (Nat × (Nat → Int32))} {I : Nat → Nat → Int32} {L : Nat → Nat → Int64} {F : Nat → Nat → UInt32} {Q : AQ} {dam : Int32} {hour : Int32} (q : ((f_X9_isDam dam) = 0 → Q (.inr 0) (G X I L F)) ∧ (¬ (f_X9_isDam dam) = 0 → ((f_X9_isHour hour) = 0 → Q (.inr 1) (G X I L F)) ∧ (¬ (f_X9_isHour hour) = 0 → (hour < (I 0 9) → WP mX9_bitsOf 0 (am_ent 5 [.float (F ((423 + 5 * Int32.toNatClampNeg dam) + 4) (Int32.toNatClampNeg hour))]) [] (G X I L F) 0 0 (am_kq mX9_below 55 [some (.ref 0), some (.int dam), some (.int hour)] [] (0 + am_bc mX9_bitsOf) (0 + am_bs mX9_bitsOf) Q)) ∧ (¬ hour < (I 0 9) → Q (.inr 1) (G X I L F))))) : WP mX9_below 0 (am_ent 3 [.ref 0, .int dam, .int hour]) [] (G X I L F) 0 0 Q := by
  refine w_aload_n rX9_below_0 rfl ?_
  refine w_iload_n rX9_below_1 rfl ?_
  refine w_invokevirtual rX9_below_2 rfl rfl rfl (Nat.le_of_ble_eq_true rfl) ⟨trivial, trivial, trivial⟩ (G_is (by decide) rfl) (by decide) (by decide) ?_
  refine s_X9_isDam ?_
  show WP mX9_below 5 _ _ _ 0 0 _
  refine w_ifne rX9_below_5 (fun h5 => ?_) (fun h5 => ?_)
  · replace q := q.2 h5
    refine w_iload_n rX9_below_18 rfl ?_
    refine w_invokestatic rX9_below_19 rfl rfl rfl (Nat.le_of_ble_eq_true rfl) ⟨trivial, trivial⟩ trivial (by decide) (by decide) ?_
    refine s_X9_isHour ?_
    show WP mX9_below 22 _ _ _ 0 0 _
    refine w_ifeq rX9_below_22 (fun h22 => ?_) (fun h22 => ?_)
    · replace q := q.1 h22
      exact w_throw (by rfl) (by decide) (by decide) (Nat.le_of_ble_eq_true rfl) q
    · replace q := q.2 h22
      refine w_iload_n rX9_below_25 rfl ?_
      refine w_aload_n rX9_below_26 rfl ?_
      refine x_getI rX9_below_27 rfl rfl (G_is (by decide) rfl) ?_
      refine w_icmplt rX9_below_30 (fun h30 => ?_) (fun h30 => ?_)
      · replace q := q.1 h30
        refine w_aload_n rX9_below_44 rfl ?_
        refine w_getR rX9_below_45 rfl rfl (G_is (by decide) rfl) (x := 381) rfl ?_
        refine w_iload_n rX9_below_48 rfl ?_
        refine w_aaload rX9_below_49 (G_aa (by decide) rfl rfl (gd_X9_isDam h5)) (ga_dam (gd_X9_isDam h5)) ?_
        refine w_getR rX9_below_50 rfl rfl (G_isk (gi_dam (gd_X9_isDam h5)).1) (gi_dam (gd_X9_isDam h5)).2.2.1 ?_
        refine w_iload_n rX9_below_53 rfl ?_
        refine x_faload rX9_below_54 (G_atk (gi_dam (gd_X9_isDam h5)).2.2.2.2 (gd_X9_isHour h22)) ?_
        refine w_invokestatic rX9_below_55 rfl rfl rfl (Nat.le_of_ble_eq_true rfl) ⟨trivial, trivial⟩ trivial (by decide) (by decide) ?_
        exact q
      · replace q := q.2 h30
        exact w_throw (by rfl) (by decide) (by decide) (Nat.le_of_ble_eq_true rfl) q
  · replace q := q.1 h5
    exact w_throw (by rfl) (by decide) (by decide) (Nat.le_of_ble_eq_true rfl) q
theorem k_X9_below_58 {X : Nat × (Nat × (Nat → Int32))} {I : Nat → Nat → Int32} {L : Nat → Nat → Int64} {F : Nat → Nat → UInt32} {Q : AQ} {x1 : Int32} {x2 : Int32} {e0 : Int32} (q : Q (.inl (some (.int e0))) (G X I L F)) : WP mX9_below 58 [some (.ref 0), some (.int x1), some (.int x2)] [.int e0] (G X I L F) 0 0 Q := by
  refine w_ireturn rX9_below_58 trivial ?_
  exact q
theorem k_X9_valley_0 {X : Nat × (Nat × (Nat → Int32))} {I : Nat → Nat → Int32} {L : Nat → Nat → Int64} {F : Nat → Nat → UInt32} {Q : AQ} {dam : Int32} {people : Int32} {danger : Int32} {hours : Int32} (q : ((f_X9_isDam dam) = 0 → Q (.inr 0) (G X I L F)) ∧ (¬ (f_X9_isDam dam) = 0 → (people < 0 → Q (.inr 1) (G X I L F)) ∧ (¬ people < 0 → (10000 < people → Q (.inr 1) (G X I L F)) ∧ (¬ 10000 < people → (danger < 1 → Q (.inr 1) (G X I L F)) ∧ (¬ danger < 1 → (100000 < danger → Q (.inr 1) (G X I L F)) ∧ (¬ 100000 < danger → (hours < 0 → Q (.inr 1) (G X I L F)) ∧ (¬ hours < 0 → (hours ≤ 12 → ((I (423 + 5 * Int32.toNatClampNeg dam) 2) = 0 → Q (.inr 2) (G X I L F)) ∧ (¬ (I (423 + 5 * Int32.toNatClampNeg dam) 2) = 0 → Q (.inl none) (G X (am_u (am_u (am_u (am_u I (423 + 5 * Int32.toNatClampNeg dam) 8 1) (423 + 5 * Int32.toNatClampNeg dam) 9 people) (423 + 5 * Int32.toNatClampNeg dam) 10 danger) (423 + 5 * Int32.toNatClampNeg dam) 11 hours) L F))) ∧ (¬ hours ≤ 12 → Q (.inr 1) (G X I L F))))))))) : WP mX9_valley 0 (am_ent 6 [.ref 0, .int dam, .int people, .int danger, .int hours]) [] (G X I L F) 0 0 Q := by
  refine w_aload_n rX9_valley_0 rfl ?_
  refine w_iload_n rX9_valley_1 rfl ?_
  refine w_invokevirtual rX9_valley_2 rfl rfl rfl (Nat.le_of_ble_eq_true rfl) ⟨trivial, trivial, trivial⟩ (G_is (by decide) rfl) (by decide) (by decide) ?_
  refine s_X9_isDam ?_
  show WP mX9_valley 5 _ _ _ 0 0 _
  refine w_ifne rX9_valley_5 (fun h5 => ?_) (fun h5 => ?_)
  · replace q := q.2 h5
    refine w_iload_n rX9_valley_18 rfl ?_
    refine w_iflt rX9_valley_19 (fun h19 => ?_) (fun h19 => ?_)
    · replace q := q.1 h19
      exact w_throw (by rfl) (by decide) (by decide) (Nat.le_of_ble_eq_true rfl) q
    · replace q := q.2 h19
      refine w_iload_n rX9_valley_22 rfl ?_
      refine w_sipush rX9_valley_23 (x := 10000) (by decide) ?_
      refine w_icmpgt rX9_valley_26 (fun h26 => ?_) (fun h26 => ?_)
      · replace q := q.1 h26
        exact w_throw (by rfl) (by decide) (by decide) (Nat.le_of_ble_eq_true rfl) q
      · replace q := q.2 h26
        refine w_iload_n rX9_valley_29 rfl ?_
        refine w_iconst rX9_valley_30 (x := 1) (by decide) ?_
        refine w_icmplt rX9_valley_31 (fun h31 => ?_) (fun h31 => ?_)
        · replace q := q.1 h31
          exact w_throw (by rfl) (by decide) (by decide) (Nat.le_of_ble_eq_true rfl) q
        · replace q := q.2 h31
          refine w_iload_n rX9_valley_34 rfl ?_
          refine w_ldcI rX9_valley_35 (x := 100000) (by decide) ?_
          refine w_icmpgt rX9_valley_37 (fun h37 => ?_) (fun h37 => ?_)
          · replace q := q.1 h37
            exact w_throw (by rfl) (by decide) (by decide) (Nat.le_of_ble_eq_true rfl) q
          · replace q := q.2 h37
            refine w_iload rX9_valley_40 rfl ?_
            refine w_iflt rX9_valley_42 (fun h42 => ?_) (fun h42 => ?_)
            · replace q := q.1 h42
              exact w_throw (by rfl) (by decide) (by decide) (Nat.le_of_ble_eq_true rfl) q
            · replace q := q.2 h42
              refine w_iload rX9_valley_45 rfl ?_
              refine w_bipush rX9_valley_47 (x := 12) (by decide) ?_
              refine w_icmple rX9_valley_49 (fun h49 => ?_) (fun h49 => ?_)
              · replace q := q.1 h49
                refine w_aload_n rX9_valley_63 rfl ?_
                refine w_getR rX9_valley_64 rfl rfl (G_is (by decide) rfl) (x := 381) rfl ?_
                refine w_iload_n rX9_valley_67 rfl ?_
                refine w_aaload rX9_valley_68 (G_aa (by decide) rfl rfl (gd_X9_isDam h5)) (ga_dam (gd_X9_isDam h5)) ?_
                refine w_astore rX9_valley_69 rfl trivial ?_
                refine w_aload rX9_valley_71 rfl ?_
                refine x_getI rX9_valley_73 rfl rfl (G_isk (gi_dam (gd_X9_isDam h5)).1) ?_
                refine w_ifne rX9_valley_76 (fun h76 => ?_) (fun h76 => ?_)
                · replace q := q.2 h76
                  refine w_aload rX9_valley_89 rfl ?_
                  refine w_iconst rX9_valley_91 (x := 1) (by decide) ?_
                  refine x_putI rX9_valley_92 rfl (G_isk (gi_dam (gd_X9_isDam h5)).1) (Or.inr rfl) ?_
                  refine w_aload rX9_valley_95 rfl ?_
                  refine w_iload_n rX9_valley_97 rfl ?_
                  refine x_putI rX9_valley_98 rfl (G_isk (gi_dam (gd_X9_isDam h5)).1) trivial ?_
                  refine w_aload rX9_valley_101 rfl ?_
                  refine w_iload_n rX9_valley_103 rfl ?_
                  refine x_putI rX9_valley_104 rfl (G_isk (gi_dam (gd_X9_isDam h5)).1) trivial ?_
                  refine w_aload rX9_valley_107 rfl ?_
                  refine w_iload rX9_valley_109 rfl ?_
                  refine x_putI rX9_valley_111 rfl (G_isk (gi_dam (gd_X9_isDam h5)).1) trivial ?_
                  refine w_return rX9_valley_114 ?_
                  exact q
                · replace q := q.1 h76
                  exact w_throw (by rfl) (by decide) (by decide) (Nat.le_of_ble_eq_true rfl) q
              · replace q := q.2 h49
                exact w_throw (by rfl) (by decide) (by decide) (Nat.le_of_ble_eq_true rfl) q
  · replace q := q.1 h5
    exact w_throw (by rfl) (by decide) (by decide) (Nat.le_of_ble_eq_true rfl) q
theorem k_X9_sound_0 {X : Nat × (Nat × (Nat → Int32))} {I : Nat → Nat → Int32} {L : Nat → Nat → Int64} {F : Nat → Nat → UInt32} {Q : AQ} {dam : Int32} {run : Int32} (q : ((f_X9_isDam dam) = 0 → Q (.inr 0) (G X I L F)) ∧ (¬ (f_X9_isDam dam) = 0 → ((f_X9_isRun run I) = 0 → Q (.inr 0) (G X I L F)) ∧ (¬ (f_X9_isRun run I) = 0 → WP mX9_maySound 0 (am_ent 4 [.ref 0, .int dam, .int run]) [] (G X I L F) 0 0 (am_kq mX9_sound 29 [some (.ref 0), some (.int dam), some (.int run), none, none] [] (0 + am_bc mX9_maySound) (0 + am_bs mX9_maySound) Q)))) : WP mX9_sound 0 (am_ent 5 [.ref 0, .int dam, .int run]) [] (G X I L F) 0 0 Q := by
  refine w_aload_n rX9_sound_0 rfl ?_
  refine w_iload_n rX9_sound_1 rfl ?_
  refine w_invokevirtual rX9_sound_2 rfl rfl rfl (Nat.le_of_ble_eq_true rfl) ⟨trivial, trivial, trivial⟩ (G_is (by decide) rfl) (by decide) (by decide) ?_
  refine s_X9_isDam ?_
  show WP mX9_sound 5 _ _ _ 0 0 _
  refine w_ifeq rX9_sound_5 (fun h5 => ?_) (fun h5 => ?_)
  · replace q := q.1 h5
    exact w_throw (by rfl) (by decide) (by decide) (Nat.le_of_ble_eq_true rfl) q
  · replace q := q.2 h5
    refine w_aload_n rX9_sound_8 rfl ?_
    refine w_iload_n rX9_sound_9 rfl ?_
    refine w_invokevirtual rX9_sound_10 rfl rfl rfl (Nat.le_of_ble_eq_true rfl) ⟨trivial, trivial, trivial⟩ (G_is (by decide) rfl) (by decide) (by decide) ?_
    refine s_X9_isRun ?_
    show WP mX9_sound 13 _ _ _ 0 0 _
    refine w_ifne rX9_sound_13 (fun h13 => ?_) (fun h13 => ?_)
    · replace q := q.2 h13
      refine w_aload_n rX9_sound_26 rfl ?_
      refine w_iload_n rX9_sound_27 rfl ?_
      refine w_iload_n rX9_sound_28 rfl ?_
      refine w_invokevirtual rX9_sound_29 rfl rfl rfl (Nat.le_of_ble_eq_true rfl) ⟨trivial, trivial, trivial, trivial⟩ (G_is (by decide) rfl) (by decide) (by decide) ?_
      exact q
    · replace q := q.1 h13
      exact w_throw (by rfl) (by decide) (by decide) (Nat.le_of_ble_eq_true rfl) q
theorem k_X9_sound_32 {X : Nat × (Nat × (Nat → Int32))} {I : Nat → Nat → Int32} {L : Nat → Nat → Int64} {F : Nat → Nat → UInt32} {Q : AQ} {x1 : Int32} {x2 : Int32} {e0 : Int32} (q : (e0 = 0 → Q (.inr 2) (G X I L F)) ∧ (¬ e0 = 0 → vp_in x1 3 ∧ (vp_in (I 0 8) 60 ∧ (vf_n32 (FP.fmul (FP.i2f ((am_u (am_u (am_u I (438 + Int32.toNatClampNeg (I 0 8)) 0 x1) (438 + Int32.toNatClampNeg (I 0 8)) 1 x2) (438 + Int32.toNatClampNeg (I 0 8)) 2 (I 0 9)) (423 + 5 * Int32.toNatClampNeg x1) 9)) (F (423 + 5 * Int32.toNatClampNeg x1) 12)) ∧ (Q (.inl (some (.int (((I 0 8) + 1) - 1)))) (G X (am_u (am_u (am_u (am_u (am_u (am_u I (438 + Int32.toNatClampNeg (I 0 8)) 0 x1) (438 + Int32.toNatClampNeg (I 0 8)) 1 x2) (438 + Int32.toNatClampNeg (I 0 8)) 2 (I 0 9)) (438 + Int32.toNatClampNeg (I 0 8)) 3 (FP.f2i (FP.fmul (FP.i2f ((am_u (am_u (am_u I (438 + Int32.toNatClampNeg (I 0 8)) 0 x1) (438 + Int32.toNatClampNeg (I 0 8)) 1 x2) (438 + Int32.toNatClampNeg (I 0 8)) 2 (I 0 9)) (423 + 5 * Int32.toNatClampNeg x1) 9)) (F (423 + 5 * Int32.toNatClampNeg x1) 12)))) (438 + Int32.toNatClampNeg (I 0 8)) 4 0) 0 8 ((I 0 8) + 1)) L F)))))) : WP mX9_sound 32 [some (.ref 0), some (.int x1), some (.int x2), none, none] [.int e0] (G X I L F) 0 0 Q := by
  refine w_ifne rX9_sound_32 (fun h32 => ?_) (fun h32 => ?_)
  · replace q := q.2 h32
    refine w_aload_n rX9_sound_46 rfl ?_
    refine w_getR rX9_sound_47 rfl rfl (G_is (by decide) rfl) (x := 381) rfl ?_
    refine w_iload_n rX9_sound_50 rfl ?_
    have h51 := q.1
    replace q := q.2
    refine w_aaload rX9_sound_51 (G_aa (by decide) rfl rfl h51) (ga_dam h51) ?_
    refine w_astore_n rX9_sound_52 rfl trivial ?_
    refine w_aload_n rX9_sound_53 rfl ?_
    refine w_getR rX9_sound_54 rfl rfl (G_is (by decide) rfl) (x := 382) rfl ?_
    refine w_aload_n rX9_sound_57 rfl ?_
    refine x_getI rX9_sound_58 rfl rfl (G_is (by decide) rfl) ?_
    have h61 := q.1
    replace q := q.2
    refine w_aaload rX9_sound_61 (G_aa (by decide) rfl rfl h61) (ga_sir h61) ?_
    refine w_astore rX9_sound_62 rfl trivial ?_
    refine w_aload rX9_sound_64 rfl ?_
    refine w_iload_n rX9_sound_66 rfl ?_
    refine x_putI rX9_sound_67 rfl (G_isk (gi_sir h61)) trivial ?_
    refine w_aload rX9_sound_70 rfl ?_
    refine w_iload_n rX9_sound_72 rfl ?_
    refine x_putI rX9_sound_73 rfl (G_isk (gi_sir h61)) trivial ?_
    refine w_aload rX9_sound_76 rfl ?_
    refine w_aload_n rX9_sound_78 rfl ?_
    refine x_getI rX9_sound_79 rfl rfl (G_is (by decide) rfl) ?_
    rw [au_ne (f := (am_u I (438 + Int32.toNatClampNeg (I 0 8)) 0 x1)) (o := (438 + Int32.toNatClampNeg (I 0 8))) (k := 1) (a := 0) (b := 9) (fun z => absurd z.1 (by omega))]
    rw [au_ne (f := I) (o := (438 + Int32.toNatClampNeg (I 0 8))) (k := 0) (a := 0) (b := 9) (fun z => absurd z.1 (by omega))]
    refine x_putI rX9_sound_82 rfl (G_isk (gi_sir h61)) trivial ?_
    refine w_aload rX9_sound_85 rfl ?_
    refine w_aload_n rX9_sound_87 rfl ?_
    refine x_getI rX9_sound_88 rfl rfl (G_isk (gi_dam h51).1) ?_
    refine w_i2f rX9_sound_91 ?_
    refine w_aload_n rX9_sound_92 rfl ?_
    refine x_getF rX9_sound_93 rfl rfl (G_isk (gi_dam h51).1) ?_
    refine w_fmul rX9_sound_96 q.1 ?_
    replace q := q.2
    refine w_f2i rX9_sound_97 ?_
    refine x_putI rX9_sound_98 rfl (G_isk (gi_sir h61)) trivial ?_
    refine w_aload rX9_sound_101 rfl ?_
    refine w_iconst rX9_sound_103 (x := 0) (by decide) ?_
    refine x_putI rX9_sound_104 rfl (G_isk (gi_sir h61)) trivial ?_
    refine w_aload_n rX9_sound_107 rfl ?_
    refine w_dup rX9_sound_108 trivial ?_
    refine x_getI rX9_sound_109 rfl rfl (G_is (by decide) rfl) ?_
    rw [au_ne (f := (am_u (am_u (am_u (am_u I (438 + Int32.toNatClampNeg (I 0 8)) 0 x1) (438 + Int32.toNatClampNeg (I 0 8)) 1 x2) (438 + Int32.toNatClampNeg (I 0 8)) 2 (I 0 9)) (438 + Int32.toNatClampNeg (I 0 8)) 3 (FP.f2i (FP.fmul (FP.i2f ((am_u (am_u (am_u I (438 + Int32.toNatClampNeg (I 0 8)) 0 x1) (438 + Int32.toNatClampNeg (I 0 8)) 1 x2) (438 + Int32.toNatClampNeg (I 0 8)) 2 (I 0 9)) (423 + 5 * Int32.toNatClampNeg x1) 9)) (F (423 + 5 * Int32.toNatClampNeg x1) 12))))) (o := (438 + Int32.toNatClampNeg (I 0 8))) (k := 4) (a := 0) (b := 8) (fun z => absurd z.1 (by omega))]
    rw [au_ne (f := (am_u (am_u (am_u I (438 + Int32.toNatClampNeg (I 0 8)) 0 x1) (438 + Int32.toNatClampNeg (I 0 8)) 1 x2) (438 + Int32.toNatClampNeg (I 0 8)) 2 (I 0 9))) (o := (438 + Int32.toNatClampNeg (I 0 8))) (k := 3) (a := 0) (b := 8) (fun z => absurd z.1 (by omega))]
    rw [au_ne (f := (am_u (am_u I (438 + Int32.toNatClampNeg (I 0 8)) 0 x1) (438 + Int32.toNatClampNeg (I 0 8)) 1 x2)) (o := (438 + Int32.toNatClampNeg (I 0 8))) (k := 2) (a := 0) (b := 8) (fun z => absurd z.1 (by omega))]
    rw [au_ne (f := (am_u I (438 + Int32.toNatClampNeg (I 0 8)) 0 x1)) (o := (438 + Int32.toNatClampNeg (I 0 8))) (k := 1) (a := 0) (b := 8) (fun z => absurd z.1 (by omega))]
    rw [au_ne (f := I) (o := (438 + Int32.toNatClampNeg (I 0 8))) (k := 0) (a := 0) (b := 8) (fun z => absurd z.1 (by omega))]
    refine w_iconst rX9_sound_112 (x := 1) (by decide) ?_
    refine w_iadd rX9_sound_113 ?_
    refine x_putI rX9_sound_114 rfl (G_is (by decide) rfl) trivial ?_
    refine w_aload_n rX9_sound_117 rfl ?_
    refine x_getI rX9_sound_118 rfl rfl (G_is (by decide) rfl) ?_
    rw [am_u_eq (f := (am_u (am_u (am_u (am_u (am_u I (438 + Int32.toNatClampNeg (I 0 8)) 0 x1) (438 + Int32.toNatClampNeg (I 0 8)) 1 x2) (438 + Int32.toNatClampNeg (I 0 8)) 2 (I 0 9)) (438 + Int32.toNatClampNeg (I 0 8)) 3 (FP.f2i (FP.fmul (FP.i2f ((am_u (am_u (am_u I (438 + Int32.toNatClampNeg (I 0 8)) 0 x1) (438 + Int32.toNatClampNeg (I 0 8)) 1 x2) (438 + Int32.toNatClampNeg (I 0 8)) 2 (I 0 9)) (423 + 5 * Int32.toNatClampNeg x1) 9)) (F (423 + 5 * Int32.toNatClampNeg x1) 12)))) (438 + Int32.toNatClampNeg (I 0 8)) 4 0)) (o := 0) (k := 8)]
    refine w_iconst rX9_sound_121 (x := 1) (by decide) ?_
    refine w_isub rX9_sound_122 ?_
    refine w_ireturn rX9_sound_123 trivial ?_
    exact q
  · replace q := q.1 h32
    exact w_throw (by rfl) (by decide) (by decide) (Nat.le_of_ble_eq_true rfl) q
theorem k_X9_siren_0 {X : Nat × (Nat × (Nat → Int32))} {I : Nat → Nat → Int32} {L : Nat → Nat → Int64} {F : Nat → Nat → UInt32} {Q : AQ} {sir : Int32} (q : ((f_X9_isSiren sir I) = 0 → Q (.inr 0) (G X I L F)) ∧ (¬ (f_X9_isSiren sir I) = 0 → Q (.inl (some (.int (I (438 + Int32.toNatClampNeg sir) 4)))) (G X I L F))) : WP mX9_siren 0 (am_ent 2 [.ref 0, .int sir]) [] (G X I L F) 0 0 Q := by
  refine w_aload_n rX9_siren_0 rfl ?_
  refine w_iload_n rX9_siren_1 rfl ?_
  refine w_invokevirtual rX9_siren_2 rfl rfl rfl (Nat.le_of_ble_eq_true rfl) ⟨trivial, trivial, trivial⟩ (G_is (by decide) rfl) (by decide) (by decide) ?_
  refine s_X9_isSiren ?_
  show WP mX9_siren 5 _ _ _ 0 0 _
  refine w_ifne rX9_siren_5 (fun h5 => ?_) (fun h5 => ?_)
  · replace q := q.2 h5
    refine w_aload_n rX9_siren_19 rfl ?_
    refine w_getR rX9_siren_20 rfl rfl (G_is (by decide) rfl) (x := 382) rfl ?_
    refine w_iload_n rX9_siren_23 rfl ?_
    refine w_aaload rX9_siren_24 (G_aa (by decide) rfl rfl (gd_X9_isSiren h5)) (ga_sir (gd_X9_isSiren h5)) ?_
    refine x_getI rX9_siren_25 rfl rfl (G_isk (gi_sir (gd_X9_isSiren h5))) ?_
    refine w_ireturn rX9_siren_28 trivial ?_
    exact q
  · replace q := q.1 h5
    exact w_throw (by rfl) (by decide) (by decide) (Nat.le_of_ble_eq_true rfl) q
theorem k_X9_walkers_0 {X : Nat × (Nat × (Nat → Int32))} {I : Nat → Nat → Int32} {L : Nat → Nat → Int64} {F : Nat → Nat → UInt32} {Q : AQ} {sir : Int32} (q : ((f_X9_isSiren sir I) = 0 → Q (.inr 0) (G X I L F)) ∧ (¬ (f_X9_isSiren sir I) = 0 → Q (.inl (some (.int (I (438 + Int32.toNatClampNeg sir) 3)))) (G X I L F))) : WP mX9_walkers 0 (am_ent 2 [.ref 0, .int sir]) [] (G X I L F) 0 0 Q := by
  refine w_aload_n rX9_walkers_0 rfl ?_
  refine w_iload_n rX9_walkers_1 rfl ?_
  refine w_invokevirtual rX9_walkers_2 rfl rfl rfl (Nat.le_of_ble_eq_true rfl) ⟨trivial, trivial, trivial⟩ (G_is (by decide) rfl) (by decide) (by decide) ?_
  refine s_X9_isSiren ?_
  show WP mX9_walkers 5 _ _ _ 0 0 _
  refine w_ifne rX9_walkers_5 (fun h5 => ?_) (fun h5 => ?_)
  · replace q := q.2 h5
    refine w_aload_n rX9_walkers_19 rfl ?_
    refine w_getR rX9_walkers_20 rfl rfl (G_is (by decide) rfl) (x := 382) rfl ?_
    refine w_iload_n rX9_walkers_23 rfl ?_
    refine w_aaload rX9_walkers_24 (G_aa (by decide) rfl rfl (gd_X9_isSiren h5)) (ga_sir (gd_X9_isSiren h5)) ?_
    refine x_getI rX9_walkers_25 rfl rfl (G_isk (gi_sir (gd_X9_isSiren h5))) ?_
    refine w_ireturn rX9_walkers_28 trivial ?_
    exact q
  · replace q := q.1 h5
    exact w_throw (by rfl) (by decide) (by decide) (Nat.le_of_ble_eq_true rfl) q
theorem k_X9_trust_0 {X : Nat × (Nat × (Nat → Int32))} {I : Nat → Nat → Int32} {L : Nat → Nat → Int64} {F : Nat → Nat → UInt32} {Q : AQ} {dam : Int32} (q : ((f_X9_isDam dam) = 0 → Q (.inr 0) (G X I L F)) ∧ (¬ (f_X9_isDam dam) = 0 → WP mX9_bitsOf 0 (am_ent 5 [.float (F (423 + 5 * Int32.toNatClampNeg dam) 12)]) [] (G X I L F) 0 0 (am_kq mX9_trust 27 [some (.ref 0), some (.int dam)] [] (0 + am_bc mX9_bitsOf) (0 + am_bs mX9_bitsOf) Q))) : WP mX9_trust 0 (am_ent 2 [.ref 0, .int dam]) [] (G X I L F) 0 0 Q := by
  refine w_aload_n rX9_trust_0 rfl ?_
  refine w_iload_n rX9_trust_1 rfl ?_
  refine w_invokevirtual rX9_trust_2 rfl rfl rfl (Nat.le_of_ble_eq_true rfl) ⟨trivial, trivial, trivial⟩ (G_is (by decide) rfl) (by decide) (by decide) ?_
  refine s_X9_isDam ?_
  show WP mX9_trust 5 _ _ _ 0 0 _
  refine w_ifne rX9_trust_5 (fun h5 => ?_) (fun h5 => ?_)
  · replace q := q.2 h5
    refine w_aload_n rX9_trust_18 rfl ?_
    refine w_getR rX9_trust_19 rfl rfl (G_is (by decide) rfl) (x := 381) rfl ?_
    refine w_iload_n rX9_trust_22 rfl ?_
    refine w_aaload rX9_trust_23 (G_aa (by decide) rfl rfl (gd_X9_isDam h5)) (ga_dam (gd_X9_isDam h5)) ?_
    refine x_getF rX9_trust_24 rfl rfl (G_isk (gi_dam (gd_X9_isDam h5)).1) ?_
    refine w_invokestatic rX9_trust_27 rfl rfl rfl (Nat.le_of_ble_eq_true rfl) ⟨trivial, trivial⟩ trivial (by decide) (by decide) ?_
    exact q
  · replace q := q.1 h5
    exact w_throw (by rfl) (by decide) (by decide) (Nat.le_of_ble_eq_true rfl) q
theorem k_X9_trust_30 {X : Nat × (Nat × (Nat → Int32))} {I : Nat → Nat → Int32} {L : Nat → Nat → Int64} {F : Nat → Nat → UInt32} {Q : AQ} {x1 : Int32} {e0 : Int32} (q : Q (.inl (some (.int e0))) (G X I L F)) : WP mX9_trust 30 [some (.ref 0), some (.int x1)] [.int e0] (G X I L F) 0 0 Q := by
  refine w_ireturn rX9_trust_30 trivial ?_
  exact q
theorem k_X9_saved_0 {X : Nat × (Nat × (Nat → Int32))} {I : Nat → Nat → Int32} {L : Nat → Nat → Int64} {F : Nat → Nat → UInt32} {Q : AQ} {dam : Int32} (q : ((f_X9_isDam dam) = 0 → Q (.inr 0) (G X I L F)) ∧ (¬ (f_X9_isDam dam) = 0 → Q (.inl (some (.int (I (423 + 5 * Int32.toNatClampNeg dam) 13)))) (G X I L F))) : WP mX9_saved 0 (am_ent 2 [.ref 0, .int dam]) [] (G X I L F) 0 0 Q := by
  refine w_aload_n rX9_saved_0 rfl ?_
  refine w_iload_n rX9_saved_1 rfl ?_
  refine w_invokevirtual rX9_saved_2 rfl rfl rfl (Nat.le_of_ble_eq_true rfl) ⟨trivial, trivial, trivial⟩ (G_is (by decide) rfl) (by decide) (by decide) ?_
  refine s_X9_isDam ?_
  show WP mX9_saved 5 _ _ _ 0 0 _
  refine w_ifne rX9_saved_5 (fun h5 => ?_) (fun h5 => ?_)
  · replace q := q.2 h5
    refine w_aload_n rX9_saved_18 rfl ?_
    refine w_getR rX9_saved_19 rfl rfl (G_is (by decide) rfl) (x := 381) rfl ?_
    refine w_iload_n rX9_saved_22 rfl ?_
    refine w_aaload rX9_saved_23 (G_aa (by decide) rfl rfl (gd_X9_isDam h5)) (ga_dam (gd_X9_isDam h5)) ?_
    refine x_getI rX9_saved_24 rfl rfl (G_isk (gi_dam (gd_X9_isDam h5)).1) ?_
    refine w_ireturn rX9_saved_27 trivial ?_
    exact q
  · replace q := q.1 h5
    exact w_throw (by rfl) (by decide) (by decide) (Nat.le_of_ble_eq_true rfl) q
theorem k_X9_alarm_0 {X : Nat × (Nat × (Nat → Int32))} {I : Nat → Nat → Int32} {L : Nat → Nat → Int64} {F : Nat → Nat → UInt32} {Q : AQ}  (q : WP mX9_alarm 18 [some (.ref 0), some (.int (f_J9_min_7cf53 ((I 0 9) + 24) 200)), some (.int 0), some (.int 0), none, none] [] (G X I L F) 0 0 Q) : WP mX9_alarm 0 (am_ent 6 [.ref 0]) [] (G X I L F) 0 0 Q := by
  refine w_aload_n rX9_alarm_0 rfl ?_
  refine x_getI rX9_alarm_1 rfl rfl (G_is (by decide) rfl) ?_
  refine w_bipush rX9_alarm_4 (x := 24) (by decide) ?_
  refine w_iadd rX9_alarm_6 ?_
  refine w_sipush rX9_alarm_7 (x := 200) (by decide) ?_
  refine w_invokestatic rX9_alarm_10 rfl rfl rfl (Nat.le_of_ble_eq_true rfl) ⟨trivial, trivial, trivial⟩ trivial (by decide) (by decide) ?_
  refine s_J9_min_7cf53 ?_
  show WP mX9_alarm 13 _ _ _ 0 0 _
  refine w_istore_n rX9_alarm_13 rfl trivial ?_
  refine w_iconst rX9_alarm_14 (x := 0) (by decide) ?_
  refine w_istore_n rX9_alarm_15 rfl trivial ?_
  refine w_iconst rX9_alarm_16 (x := 0) (by decide) ?_
  refine w_istore_n rX9_alarm_17 rfl trivial ?_
  exact q
theorem k_X9_alarm_18 {X : Nat × (Nat × (Nat → Int32))} {I : Nat → Nat → Int32} {L : Nat → Nat → Int64} {F : Nat → Nat → UInt32} {Q : AQ} {x1 : Int32} {x2 : Int32} {x3 : Int32} {d4 : Option Value} {d5 : Option Value} (q : (3 ≤ x3 → Q (.inl (some (.int x2))) (G X I L F)) ∧ (¬ 3 ≤ x3 → vp_in x3 3 ∧ (((I (423 + 5 * Int32.toNatClampNeg x3) 8) = 0 → WP mX9_alarm 18 [some (.ref 0), some (.int x1), some (.int x2), some (.int (x3 + 1)), some (.ref (423 + 5 * Int32.toNatClampNeg x3)), some (.int (f_X6_latestOf (I (423 + 5 * Int32.toNatClampNeg x3) 3) I))] [] (G X I L F) 0 0 Q) ∧ (¬ (I (423 + 5 * Int32.toNatClampNeg x3) 8) = 0 → ((f_X6_latestOf (I (423 + 5 * Int32.toNatClampNeg x3) 3) I) = (-1) → WP mX9_alarm 18 [some (.ref 0), some (.int x1), some (.int x2), some (.int (x3 + 1)), some (.ref (423 + 5 * Int32.toNatClampNeg x3)), some (.int (f_X6_latestOf (I (423 + 5 * Int32.toNatClampNeg x3) 3) I))] [] (G X I L F) 0 0 Q) ∧ (¬ (f_X6_latestOf (I (423 + 5 * Int32.toNatClampNeg x3) 3) I) = (-1) → WP mX5_lookAhead 0 (am_ent 7 [.ref 380, .ref 9, .int (f_X6_latestOf (I (423 + 5 * Int32.toNatClampNeg x3) 3) I), .int (I 0 9), .int x1]) [] (G X I L F) 0 0 (am_kq mX9_alarm 78 [some (.ref 0), some (.int x1), some (.int x2), some (.int x3), some (.ref (423 + 5 * Int32.toNatClampNeg x3)), some (.int (f_X6_latestOf (I (423 + 5 * Int32.toNatClampNeg x3) 3) I))] [] (0 + am_bc mX5_lookAhead) (0 + am_bs mX5_lookAhead) Q)))))) : WP mX9_alarm 18 [some (.ref 0), some (.int x1), some (.int x2), some (.int x3), d4, d5] [] (G X I L F) 0 0 Q := by
  refine w_iload_n rX9_alarm_18 rfl ?_
  refine w_aload_n rX9_alarm_19 rfl ?_
  refine w_getR rX9_alarm_20 rfl rfl (G_is (by decide) rfl) (x := 381) rfl ?_
  refine G_lenc rX9_alarm_23 (by decide) rfl (n := 3) rfl (x := 3) (by decide) ?_
  refine w_icmpge rX9_alarm_24 (fun h24 => ?_) (fun h24 => ?_)
  · replace q := q.1 h24
    refine w_iload_n rX9_alarm_114 rfl ?_
    refine w_ireturn rX9_alarm_115 trivial ?_
    exact q
  · replace q := q.2 h24
    refine w_aload_n rX9_alarm_27 rfl ?_
    refine w_getR rX9_alarm_28 rfl rfl (G_is (by decide) rfl) (x := 381) rfl ?_
    refine w_iload_n rX9_alarm_31 rfl ?_
    have h32 := q.1
    replace q := q.2
    refine w_aaload rX9_alarm_32 (G_aa (by decide) rfl rfl h32) (ga_dam h32) ?_
    refine w_astore rX9_alarm_33 rfl trivial ?_
    refine w_aload_n rX9_alarm_35 rfl ?_
    refine w_getR rX9_alarm_36 rfl rfl (G_is (by decide) rfl) (x := 9) rfl ?_
    refine w_aload rX9_alarm_39 rfl ?_
    refine x_getI rX9_alarm_41 rfl rfl (G_isk (gi_dam h32).1) ?_
    refine w_invokevirtual rX9_alarm_44 rfl rfl rfl (Nat.le_of_ble_eq_true rfl) ⟨trivial, trivial, trivial⟩ (G_is (by decide) rfl) (by decide) (by decide) ?_
    refine s_X6_latestOf ?_
    show WP mX9_alarm 47 _ _ _ 0 0 _
    refine w_istore rX9_alarm_47 rfl trivial ?_
    refine w_aload rX9_alarm_49 rfl ?_
    refine x_getI rX9_alarm_51 rfl rfl (G_isk (gi_dam h32).1) ?_
    refine w_ifeq rX9_alarm_54 (fun h54 => ?_) (fun h54 => ?_)
    · replace q := q.1 h54
      refine w_iinc rX9_alarm_108 rfl rfl trivial ?_
      refine w_goto rX9_alarm_111 ?_
      exact q
    · replace q := q.2 h54
      refine w_iload rX9_alarm_57 rfl ?_
      refine w_iconst rX9_alarm_59 (x := -1) (by decide) ?_
      refine w_icmpeq rX9_alarm_60 (fun h60 => ?_) (fun h60 => ?_)
      · replace q := q.1 h60
        refine w_iinc rX9_alarm_108 rfl rfl trivial ?_
        refine w_goto rX9_alarm_111 ?_
        exact q
      · replace q := q.2 h60
        refine w_aload_n rX9_alarm_63 rfl ?_
        refine w_getR rX9_alarm_64 rfl rfl (G_is (by decide) rfl) (x := 380) rfl ?_
        refine w_aload_n rX9_alarm_67 rfl ?_
        refine w_getR rX9_alarm_68 rfl rfl (G_is (by decide) rfl) (x := 9) rfl ?_
        refine w_iload rX9_alarm_71 rfl ?_
        refine w_aload_n rX9_alarm_73 rfl ?_
        refine x_getI rX9_alarm_74 rfl rfl (G_is (by decide) rfl) ?_
        refine w_iload_n rX9_alarm_77 rfl ?_
        refine w_invokevirtual rX9_alarm_78 rfl rfl rfl (Nat.le_of_ble_eq_true rfl) ⟨trivial, trivial, trivial, trivial, trivial, trivial⟩ (G_is (by decide) rfl) (by decide) (by decide) ?_
        exact q
theorem k_X9_alarm_81 {X : Nat × (Nat × (Nat → Int32))} {I : Nat → Nat → Int32} {L : Nat → Nat → Int64} {F : Nat → Nat → UInt32} {Q : AQ} {x1 : Int32} {x2 : Int32} {x3 : Int32} {o4 : Nat} {x5 : Int32} (ho4 : isDam o4) (q : ∀ s96_1 : Int32, s96_1 = (if (Op.cmpValue (FP.fcmp (F 380 3) (FP.i2f (I o4 10))) .l) < 0 then 0 else ((1 : Int32) <<< (x3 &&& 31 : Int32)) : Int32) → (WP mX9_alarm 18 [some (.ref 0), some (.int x1), some (.int (x2 ||| s96_1)), some (.int (x3 + 1)), some (.ref o4), some (.int x5)] [] (G X I L F) 0 0 Q)) : WP mX9_alarm 81 [some (.ref 0), some (.int x1), some (.int x2), some (.int x3), some (.ref o4), some (.int x5)] [] (G X I L F) 0 0 Q := by
  refine w_iload_n rX9_alarm_81 rfl ?_
  refine w_aload_n rX9_alarm_82 rfl ?_
  refine w_getR rX9_alarm_83 rfl rfl (G_is (by decide) rfl) (x := 380) rfl ?_
  refine x_getF rX9_alarm_86 rfl rfl (G_is (by decide) rfl) ?_
  refine w_aload rX9_alarm_89 rfl ?_
  refine x_getI rX9_alarm_91 rfl rfl (G_isk ho4.1) ?_
  refine w_i2f rX9_alarm_94 ?_
  refine w_fcmp rX9_alarm_95 ?_
  have j96 : ∀ s96_1 : Int32, s96_1 = (if (Op.cmpValue (FP.fcmp (F 380 3) (FP.i2f (I o4 10))) .l) < 0 then 0 else ((1 : Int32) <<< (x3 &&& 31 : Int32)) : Int32) → WP mX9_alarm 106 [some (.ref 0), some (.int x1), some (.int x2), some (.int x3), some (.ref o4), some (.int x5)] [.int s96_1, .int x2] (G X I L F) 0 0 Q := by
    intro s96_1 es96_1
    replace q := q s96_1 es96_1
    refine w_ior rX9_alarm_106 ?_
    refine w_istore_n rX9_alarm_107 rfl trivial ?_
    refine w_iinc rX9_alarm_108 rfl rfl trivial ?_
    refine w_goto rX9_alarm_111 ?_
    exact q
  refine w_iflt rX9_alarm_96 (fun h96 => ?_) (fun h96 => ?_)
  · skip
    refine w_iconst rX9_alarm_105 (x := 0) (by decide) ?_
    exact j96 _ (if_pos h96).symm
  · skip
    refine w_iconst rX9_alarm_99 (x := 1) (by decide) ?_
    refine w_iload_n rX9_alarm_100 rfl ?_
    refine w_ishl rX9_alarm_101 ?_
    refine w_goto rX9_alarm_102 ?_
    exact j96 _ (if_neg h96).symm
theorem k_X9_pass_0 {X : Nat × (Nat × (Nat → Int32))} {I : Nat → Nat → Int32} {L : Nat → Nat → Int64} {F : Nat → Nat → UInt32} {Q : AQ} {hours : Int32} (q : (hours < 1 → Q (.inr 1) (G X I L F)) ∧ (¬ hours < 1 → (hours ≤ 24 → (((I 0 9) + hours) ≤ 200 → WP mX9_pass 46 [some (.ref 0), some (.int hours), some (.int 0), none] [] (G X I L F) 0 0 Q) ∧ (¬ ((I 0 9) + hours) ≤ 200 → Q (.inr 2) (G X I L F))) ∧ (¬ hours ≤ 24 → Q (.inr 1) (G X I L F)))) : WP mX9_pass 0 (am_ent 4 [.ref 0, .int hours]) [] (G X I L F) 0 0 Q := by
  refine w_iload_n rX9_pass_0 rfl ?_
  refine w_iconst rX9_pass_1 (x := 1) (by decide) ?_
  refine w_icmplt rX9_pass_2 (fun h2 => ?_) (fun h2 => ?_)
  · replace q := q.1 h2
    exact w_throw (by rfl) (by decide) (by decide) (Nat.le_of_ble_eq_true rfl) q
  · replace q := q.2 h2
    refine w_iload_n rX9_pass_5 rfl ?_
    refine w_bipush rX9_pass_6 (x := 24) (by decide) ?_
    refine w_icmple rX9_pass_8 (fun h8 => ?_) (fun h8 => ?_)
    · replace q := q.1 h8
      refine w_aload_n rX9_pass_21 rfl ?_
      refine x_getI rX9_pass_22 rfl rfl (G_is (by decide) rfl) ?_
      refine w_iload_n rX9_pass_25 rfl ?_
      refine w_iadd rX9_pass_26 ?_
      refine w_sipush rX9_pass_27 (x := 200) (by decide) ?_
      refine w_icmple rX9_pass_30 (fun h30 => ?_) (fun h30 => ?_)
      · replace q := q.1 h30
        refine w_iconst rX9_pass_44 (x := 0) (by decide) ?_
        refine w_istore_n rX9_pass_45 rfl trivial ?_
        exact q
      · replace q := q.2 h30
        exact w_throw (by rfl) (by decide) (by decide) (Nat.le_of_ble_eq_true rfl) q
    · replace q := q.2 h8
      exact w_throw (by rfl) (by decide) (by decide) (Nat.le_of_ble_eq_true rfl) q
theorem k_X9_pass_46 {X : Nat × (Nat × (Nat → Int32))} {I : Nat → Nat → Int32} {L : Nat → Nat → Int64} {F : Nat → Nat → UInt32} {Q : AQ} {x1 : Int32} {x2 : Int32} {d3 : Option Value} (q : (x1 ≤ x2 → Q (.inl (some (.int (I 0 9)))) (G X I L F)) ∧ (¬ x1 ≤ x2 → WP mX9_pass 53 [some (.ref 0), some (.int x1), some (.int x2), some (.int 0)] [] (G X I L F) 0 0 Q)) : WP mX9_pass 46 [some (.ref 0), some (.int x1), some (.int x2), d3] [] (G X I L F) 0 0 Q := by
  refine w_iload_n rX9_pass_46 rfl ?_
  refine w_iload_n rX9_pass_47 rfl ?_
  refine w_icmpge rX9_pass_48 (fun h48 => ?_) (fun h48 => ?_)
  · replace q := q.1 h48
    refine w_aload_n rX9_pass_153 rfl ?_
    refine x_getI rX9_pass_154 rfl rfl (G_is (by decide) rfl) ?_
    refine w_ireturn rX9_pass_157 trivial ?_
    exact q
  · replace q := q.2 h48
    refine w_iconst rX9_pass_51 (x := 0) (by decide) ?_
    refine w_istore_n rX9_pass_52 rfl trivial ?_
    exact q
theorem k_X9_pass_53 {X : Nat × (Nat × (Nat → Int32))} {I : Nat → Nat → Int32} {L : Nat → Nat → Int64} {F : Nat → Nat → UInt32} {Q : AQ} {x1 : Int32} {x2 : Int32} {x3 : Int32} (q : (3 ≤ x3 → WP mX9_pass 92 [some (.ref 0), some (.int x1), some (.int x2), some (.int 0)] [] (G X I L F) 0 0 Q) ∧ (¬ 3 ≤ x3 → vp_in x3 3 ∧ (((I (423 + 5 * Int32.toNatClampNeg x3) 2) = 0 → WP mX9_pass 84 [some (.ref 0), some (.int x1), some (.int x2), some (.int x3)] [] (G X I L F) 0 0 Q) ∧ (¬ (I (423 + 5 * Int32.toNatClampNeg x3) 2) = 0 → vp_in x3 3 ∧ (WP mX9_passHourAt 0 (am_ent 8 [.ref 0, .ref (423 + 5 * Int32.toNatClampNeg x3)]) [] (G X I L F) 0 0 (am_kq mX9_pass 81 [some (.ref 0), some (.int x1), some (.int x2), some (.int x3)] [] (0 + am_bc mX9_passHourAt) (0 + am_bs mX9_passHourAt) Q)))))) : WP mX9_pass 53 [some (.ref 0), some (.int x1), some (.int x2), some (.int x3)] [] (G X I L F) 0 0 Q := by
  refine w_iload_n rX9_pass_53 rfl ?_
  refine w_aload_n rX9_pass_54 rfl ?_
  refine w_getR rX9_pass_55 rfl rfl (G_is (by decide) rfl) (x := 381) rfl ?_
  refine G_lenc rX9_pass_58 (by decide) rfl (n := 3) rfl (x := 3) (by decide) ?_
  refine w_icmpge rX9_pass_59 (fun h59 => ?_) (fun h59 => ?_)
  · replace q := q.1 h59
    refine w_iconst rX9_pass_90 (x := 0) (by decide) ?_
    refine w_istore_n rX9_pass_91 rfl trivial ?_
    exact q
  · replace q := q.2 h59
    refine w_aload_n rX9_pass_62 rfl ?_
    refine w_getR rX9_pass_63 rfl rfl (G_is (by decide) rfl) (x := 381) rfl ?_
    refine w_iload_n rX9_pass_66 rfl ?_
    have h67 := q.1
    replace q := q.2
    refine w_aaload rX9_pass_67 (G_aa (by decide) rfl rfl h67) (ga_dam h67) ?_
    refine x_getI rX9_pass_68 rfl rfl (G_isk (gi_dam h67).1) ?_
    refine w_ifeq rX9_pass_71 (fun h71 => ?_) (fun h71 => ?_)
    · replace q := q.1 h71
      exact q
    · replace q := q.2 h71
      refine w_aload_n rX9_pass_74 rfl ?_
      refine w_aload_n rX9_pass_75 rfl ?_
      refine w_getR rX9_pass_76 rfl rfl (G_is (by decide) rfl) (x := 381) rfl ?_
      refine w_iload_n rX9_pass_79 rfl ?_
      have h80 := q.1
      replace q := q.2
      refine w_aaload rX9_pass_80 (G_aa (by decide) rfl rfl h80) (ga_dam h80) ?_
      refine w_invokevirtual rX9_pass_81 rfl rfl rfl (Nat.le_of_ble_eq_true rfl) ⟨trivial, trivial, trivial⟩ (G_is (by decide) rfl) (by decide) (by decide) ?_
      exact q
theorem k_X9_pass_84 {X : Nat × (Nat × (Nat → Int32))} {I : Nat → Nat → Int32} {L : Nat → Nat → Int64} {F : Nat → Nat → UInt32} {Q : AQ} {x1 : Int32} {x2 : Int32} {x3 : Int32} (q : WP mX9_pass 53 [some (.ref 0), some (.int x1), some (.int x2), some (.int (x3 + 1))] [] (G X I L F) 0 0 Q) : WP mX9_pass 84 [some (.ref 0), some (.int x1), some (.int x2), some (.int x3)] [] (G X I L F) 0 0 Q := by
  refine w_iinc rX9_pass_84 rfl rfl trivial ?_
  refine w_goto rX9_pass_87 ?_
  exact q
theorem k_X9_pass_92 {X : Nat × (Nat × (Nat → Int32))} {I : Nat → Nat → Int32} {L : Nat → Nat → Int64} {F : Nat → Nat → UInt32} {Q : AQ} {x1 : Int32} {x2 : Int32} {x3 : Int32} (q : ((I 0 8) ≤ x3 → WP mX9_pass 46 [some (.ref 0), some (.int x1), some (.int (x2 + 1)), some (.int x3)] [] (G X (am_u I 0 9 ((I 0 9) + 1)) L F) 0 0 Q) ∧ (¬ (I 0 8) ≤ x3 → (60 ≤ x3 → WP mX9_pass 46 [some (.ref 0), some (.int x1), some (.int (x2 + 1)), some (.int x3)] [] (G X (am_u I 0 9 ((I 0 9) + 1)) L F) 0 0 Q) ∧ (¬ 60 ≤ x3 → vp_in x3 60 ∧ ((((I (438 + Int32.toNatClampNeg x3) 4) = 0 → vp_in x3 60 ∧ ((p_X9_judge (438 + Int32.toNatClampNeg x3) I F) ∧ (True)))) ∧ (∀ I118 : Nat → Nat → Int32, I118 = (if (I (438 + Int32.toNatClampNeg x3) 4) = 0 then (fI_X9_judge (438 + Int32.toNatClampNeg x3) I F) else I : Nat → Nat → Int32) → ∀ F118 : Nat → Nat → UInt32, F118 = (if (I (438 + Int32.toNatClampNeg x3) 4) = 0 then (fF_X9_judge (438 + Int32.toNatClampNeg x3) I F) else F : Nat → Nat → UInt32) → (WP mX9_pass 92 [some (.ref 0), some (.int x1), some (.int x2), some (.int (x3 + 1))] [] (G X I118 L F118) 0 0 Q)))))) : WP mX9_pass 92 [some (.ref 0), some (.int x1), some (.int x2), some (.int x3)] [] (G X I L F) 0 0 Q := by
  refine w_iload_n rX9_pass_92 rfl ?_
  refine w_aload_n rX9_pass_93 rfl ?_
  refine x_getI rX9_pass_94 rfl rfl (G_is (by decide) rfl) ?_
  refine w_icmpge rX9_pass_97 (fun h97 => ?_) (fun h97 => ?_)
  · replace q := q.1 h97
    refine w_aload_n rX9_pass_137 rfl ?_
    refine w_dup rX9_pass_138 trivial ?_
    refine x_getI rX9_pass_139 rfl rfl (G_is (by decide) rfl) ?_
    refine w_iconst rX9_pass_142 (x := 1) (by decide) ?_
    refine w_iadd rX9_pass_143 ?_
    refine x_putI rX9_pass_144 rfl (G_is (by decide) rfl) trivial ?_
    refine w_iinc rX9_pass_147 rfl rfl trivial ?_
    refine w_goto rX9_pass_150 ?_
    exact q
  · replace q := q.2 h97
    refine w_iload_n rX9_pass_100 rfl ?_
    refine w_aload_n rX9_pass_101 rfl ?_
    refine w_getR rX9_pass_102 rfl rfl (G_is (by decide) rfl) (x := 382) rfl ?_
    refine G_lenc rX9_pass_105 (by decide) rfl (n := 60) rfl (x := 60) (by decide) ?_
    refine w_icmpge rX9_pass_106 (fun h106 => ?_) (fun h106 => ?_)
    · replace q := q.1 h106
      refine w_aload_n rX9_pass_137 rfl ?_
      refine w_dup rX9_pass_138 trivial ?_
      refine x_getI rX9_pass_139 rfl rfl (G_is (by decide) rfl) ?_
      refine w_iconst rX9_pass_142 (x := 1) (by decide) ?_
      refine w_iadd rX9_pass_143 ?_
      refine x_putI rX9_pass_144 rfl (G_is (by decide) rfl) trivial ?_
      refine w_iinc rX9_pass_147 rfl rfl trivial ?_
      refine w_goto rX9_pass_150 ?_
      exact q
    · replace q := q.2 h106
      refine w_aload_n rX9_pass_109 rfl ?_
      refine w_getR rX9_pass_110 rfl rfl (G_is (by decide) rfl) (x := 382) rfl ?_
      refine w_iload_n rX9_pass_113 rfl ?_
      have h114 := q.1
      replace q := q.2
      refine w_aaload rX9_pass_114 (G_aa (by decide) rfl rfl h114) (ga_sir h114) ?_
      refine x_getI rX9_pass_115 rfl rfl (G_isk (gi_sir h114)) ?_
      have j118 : ∀ I118 : Nat → Nat → Int32, I118 = (if (I (438 + Int32.toNatClampNeg x3) 4) = 0 then (fI_X9_judge (438 + Int32.toNatClampNeg x3) I F) else I : Nat → Nat → Int32) → ∀ F118 : Nat → Nat → UInt32, F118 = (if (I (438 + Int32.toNatClampNeg x3) 4) = 0 then (fF_X9_judge (438 + Int32.toNatClampNeg x3) I F) else F : Nat → Nat → UInt32) → WP mX9_pass 131 [some (.ref 0), some (.int x1), some (.int x2), some (.int x3)] [] (G X I118 L F118) 0 0 Q := by
        intro I118 eI118 F118 eF118
        replace q := q.2
        replace q := q I118 eI118 F118 eF118
        refine w_iinc rX9_pass_131 rfl rfl trivial ?_
        refine w_goto rX9_pass_134 ?_
        exact q
      replace q := q.1
      refine w_ifne rX9_pass_118 (fun h118 => ?_) (fun h118 => ?_)
      · skip
        exact j118 _ (if_neg h118).symm _ (if_neg h118).symm
      · replace q := q h118
        refine w_aload_n rX9_pass_121 rfl ?_
        refine w_aload_n rX9_pass_122 rfl ?_
        refine w_getR rX9_pass_123 rfl rfl (G_is (by decide) rfl) (x := 382) rfl ?_
        refine w_iload_n rX9_pass_126 rfl ?_
        have h127 := q.1
        replace q := q.2
        refine w_aaload rX9_pass_127 (G_aa (by decide) rfl rfl h127) (ga_sir h127) ?_
        refine w_invokevirtual rX9_pass_128 rfl rfl rfl (Nat.le_of_ble_eq_true rfl) ⟨trivial, trivial, trivial⟩ (G_is (by decide) rfl) (by decide) (by decide) ?_
        refine s_X9_judge (gi_sir h127) q.1 ?_
        replace q := q.2
        show WP mX9_pass 131 _ _ _ 0 0 _
        exact j118 _ (if_pos h118).symm _ (if_pos h118).symm
theorem k_X9_stampRuns_0 {X : Nat × (Nat × (Nat → Int32))} {I : Nat → Nat → Int32} {L : Nat → Nat → Int64} {F : Nat → Nat → UInt32} {Q : AQ} {gauge : Int32} {hour : Int32} (q : WP mX9_stampRuns 2 [some (.ref 0), some (.int gauge), some (.int hour), some (.int 0)] [] (G X I L F) 0 0 Q) : WP mX9_stampRuns 0 (am_ent 4 [.ref 0, .int gauge, .int hour]) [] (G X I L F) 0 0 Q := by
  refine w_iconst rX9_stampRuns_0 (x := 0) (by decide) ?_
  refine w_istore_n rX9_stampRuns_1 rfl trivial ?_
  exact q
theorem k_X9_stampRuns_2 {X : Nat × (Nat × (Nat → Int32))} {I : Nat → Nat → Int32} {L : Nat → Nat → Int64} {F : Nat → Nat → UInt32} {Q : AQ} {x1 : Int32} {x2 : Int32} {x3 : Int32} (q : ((I 0 7) ≤ x3 → Q (.inl none) (G X I L F)) ∧ (¬ (I 0 7) ≤ x3 → (40 ≤ x3 → Q (.inl none) (G X I L F)) ∧ (¬ 40 ≤ x3 → vp_in x3 40 ∧ (((¬ (I (383 + Int32.toNatClampNeg x3) 2) < x2 → vp_in x3 40 ∧ ((¬ (f_X6_names (I (383 + Int32.toNatClampNeg x3) 0) x1 I) = 0 → vp_in x3 40 ∧ (True))))) ∧ (∀ I29 : Nat → Nat → Int32, I29 = (if (I (383 + Int32.toNatClampNeg x3) 2) < x2 then I else (if (f_X6_names (I (383 + Int32.toNatClampNeg x3) 0) x1 I) = 0 then I else (am_u I (383 + Int32.toNatClampNeg x3) 5 1) : Nat → Nat → Int32) : Nat → Nat → Int32) → (WP mX9_stampRuns 2 [some (.ref 0), some (.int x1), some (.int x2), some (.int (x3 + 1))] [] (G X I29 L F) 0 0 Q)))))) : WP mX9_stampRuns 2 [some (.ref 0), some (.int x1), some (.int x2), some (.int x3)] [] (G X I L F) 0 0 Q := by
  refine w_iload_n rX9_stampRuns_2 rfl ?_
  refine w_aload_n rX9_stampRuns_3 rfl ?_
  refine x_getI rX9_stampRuns_4 rfl rfl (G_is (by decide) rfl) ?_
  refine w_icmpge rX9_stampRuns_7 (fun h7 => ?_) (fun h7 => ?_)
  · replace q := q.1 h7
    refine w_return rX9_stampRuns_68 ?_
    exact q
  · replace q := q.2 h7
    refine w_iload_n rX9_stampRuns_10 rfl ?_
    refine w_aload_n rX9_stampRuns_11 rfl ?_
    refine w_getR rX9_stampRuns_12 rfl rfl (G_is (by decide) rfl) (x := 379) rfl ?_
    refine G_lenc rX9_stampRuns_15 (by decide) rfl (n := 40) rfl (x := 40) (by decide) ?_
    refine w_icmpge rX9_stampRuns_16 (fun h16 => ?_) (fun h16 => ?_)
    · replace q := q.1 h16
      refine w_return rX9_stampRuns_68 ?_
      exact q
    · replace q := q.2 h16
      refine w_iload_n rX9_stampRuns_19 rfl ?_
      refine w_aload_n rX9_stampRuns_20 rfl ?_
      refine w_getR rX9_stampRuns_21 rfl rfl (G_is (by decide) rfl) (x := 379) rfl ?_
      refine w_iload_n rX9_stampRuns_24 rfl ?_
      have h25 := q.1
      replace q := q.2
      refine w_aaload rX9_stampRuns_25 (G_aa (by decide) rfl rfl h25) (ga_run h25) ?_
      refine x_getI rX9_stampRuns_26 rfl rfl (G_isk (gi_run h25)) ?_
      have j29 : ∀ I29 : Nat → Nat → Int32, I29 = (if (I (383 + Int32.toNatClampNeg x3) 2) < x2 then I else (if (f_X6_names (I (383 + Int32.toNatClampNeg x3) 0) x1 I) = 0 then I else (am_u I (383 + Int32.toNatClampNeg x3) 5 1) : Nat → Nat → Int32) : Nat → Nat → Int32) → WP mX9_stampRuns 62 [some (.ref 0), some (.int x1), some (.int x2), some (.int x3)] [] (G X I29 L F) 0 0 Q := by
        intro I29 eI29
        replace q := q.2
        replace q := q I29 eI29
        refine w_iinc rX9_stampRuns_62 rfl rfl trivial ?_
        refine w_goto rX9_stampRuns_65 ?_
        exact q
      replace q := q.1
      refine w_icmpgt rX9_stampRuns_29 (fun h29 => ?_) (fun h29 => ?_)
      · skip
        exact j29 _ (if_pos h29).symm
      · replace q := q h29
        refine w_aload_n rX9_stampRuns_32 rfl ?_
        refine w_getR rX9_stampRuns_33 rfl rfl (G_is (by decide) rfl) (x := 9) rfl ?_
        refine w_aload_n rX9_stampRuns_36 rfl ?_
        refine w_getR rX9_stampRuns_37 rfl rfl (G_is (by decide) rfl) (x := 379) rfl ?_
        refine w_iload_n rX9_stampRuns_40 rfl ?_
        have h41 := q.1
        replace q := q.2
        refine w_aaload rX9_stampRuns_41 (G_aa (by decide) rfl rfl h41) (ga_run h41) ?_
        refine x_getI rX9_stampRuns_42 rfl rfl (G_isk (gi_run h41)) ?_
        refine w_iload_n rX9_stampRuns_45 rfl ?_
        refine w_invokevirtual rX9_stampRuns_46 rfl rfl rfl (Nat.le_of_ble_eq_true rfl) ⟨trivial, trivial, trivial, trivial⟩ (G_is (by decide) rfl) (by decide) (by decide) ?_
        refine s_X6_names ?_
        show WP mX9_stampRuns 49 _ _ _ 0 0 _
        refine w_ifeq rX9_stampRuns_49 (fun h49 => ?_) (fun h49 => ?_)
        · skip
          exact j29 _ ((if_neg h29).trans (if_pos h49)).symm
        · replace q := q h49
          refine w_aload_n rX9_stampRuns_52 rfl ?_
          refine w_getR rX9_stampRuns_53 rfl rfl (G_is (by decide) rfl) (x := 379) rfl ?_
          refine w_iload_n rX9_stampRuns_56 rfl ?_
          have h57 := q.1
          replace q := q.2
          refine w_aaload rX9_stampRuns_57 (G_aa (by decide) rfl rfl h57) (ga_run h57) ?_
          refine w_iconst rX9_stampRuns_58 (x := 1) (by decide) ?_
          refine x_putI rX9_stampRuns_59 rfl (G_isk (gi_run h57)) (Or.inr rfl) ?_
          exact j29 _ ((if_neg h29).trans (if_neg h49)).symm
