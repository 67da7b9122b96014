/-! own: methods as functions, written by a program -/
set_option maxRecDepth 100000
def p_X9_judge (o : Nat) (I : Nat → Nat → Int32) (F : Nat → Nat → UInt32) : Prop := ((¬ (f_X9_isDam (I o 0)) = 0 → (¬ (f_X9_isRun (I o 1) I) = 0 → (¬ (f_X9_isHour (I 0 9)) = 0 → (((f_X9_reasonAgainst (I o 1) I) = 0 → ((Op.cmpValue (FP.fcmp (F ((423 + 5 * Int32.toNatClampNeg (I o 0)) + 4) (Int32.toNatClampNeg (I 0 9))) (FP.i2f (I (423 + 5 * Int32.toNatClampNeg (I o 0)) 10))) .l) < 0 → (¬ (I 0 9) < (I (383 + Int32.toNatClampNeg (I o 1)) 2) → vf_n32 (FP.fmul (F (423 + 5 * Int32.toNatClampNeg (I o 0)) 12) 1061158912) ∧ (True))) ∧ (¬ (Op.cmpValue (FP.fcmp (F ((423 + 5 * Int32.toNatClampNeg (I o 0)) + 4) (Int32.toNatClampNeg (I 0 9))) (FP.i2f (I (423 + 5 * Int32.toNatClampNeg (I o 0)) 10))) .l) < 0 → vf_n32 (FP.fsub 1065353216 (F (423 + 5 * Int32.toNatClampNeg (I o 0)) 12)) ∧ (vf_n32 (FP.fmul (FP.fsub 1065353216 (F (423 + 5 * Int32.toNatClampNeg (I o 0)) 12)) 1056964608) ∧ (vf_n32 (FP.fadd (F (423 + 5 * Int32.toNatClampNeg (I o 0)) 12) (FP.fmul (FP.fsub 1065353216 (F (423 + 5 * Int32.toNatClampNeg (I o 0)) 12)) 1056964608)) ∧ (True))))) ∧ (¬ (f_X9_reasonAgainst (I o 1) I) = 0 → vf_n32 (FP.fmul (F (423 + 5 * Int32.toNatClampNeg (I o 0)) 12) 1063675494) ∧ (True))) ∧ (True))))) ∧ (True)
def fI_X9_judge (o : Nat) (I : Nat → Nat → Int32) (F : Nat → Nat → UInt32) : Nat → Nat → Int32 := (if (f_X9_isDam (I o 0)) = 0 then I else (if (f_X9_isRun (I o 1) I) = 0 then I else (if (f_X9_isHour (I 0 9)) = 0 then I else (if (f_X9_reasonAgainst (I o 1) I) = 0 then (if (Op.cmpValue (FP.fcmp (F ((423 + 5 * Int32.toNatClampNeg (I o 0)) + 4) (Int32.toNatClampNeg (I 0 9))) (FP.i2f (I (423 + 5 * Int32.toNatClampNeg (I o 0)) 10))) .l) < 0 then (if (I 0 9) < (I (383 + Int32.toNatClampNeg (I o 1)) 2) then I else (am_u I o 4 2) : Nat → Nat → Int32) else (if (((am_u I o 4 1) 0 9) - ((am_u I o 4 1) o 2)) < ((am_u I o 4 1) (423 + 5 * Int32.toNatClampNeg (I o 0)) 11) then (am_u I o 4 1) else (am_u (am_u I o 4 1) (423 + 5 * Int32.toNatClampNeg (I o 0)) 13 (((am_u I o 4 1) (423 + 5 * Int32.toNatClampNeg (I o 0)) 13) + ((am_u I o 4 1) o 3))) : Nat → Nat → Int32) : Nat → Nat → Int32) else (am_u I o 4 3) : Nat → Nat → Int32) : Nat → Nat → Int32) : Nat → Nat → Int32) : Nat → Nat → Int32)
def fF_X9_judge (o : Nat) (I : Nat → Nat → Int32) (F : Nat → Nat → UInt32) : Nat → Nat → UInt32 := (if (f_X9_isDam (I o 0)) = 0 then F else (if (f_X9_isRun (I o 1) I) = 0 then F else (if (f_X9_isHour (I 0 9)) = 0 then F else (if (f_X9_reasonAgainst (I o 1) I) = 0 then (if (Op.cmpValue (FP.fcmp (F ((423 + 5 * Int32.toNatClampNeg (I o 0)) + 4) (Int32.toNatClampNeg (I 0 9))) (FP.i2f (I (423 + 5 * Int32.toNatClampNeg (I o 0)) 10))) .l) < 0 then (if (I 0 9) < (I (383 + Int32.toNatClampNeg (I o 1)) 2) then F else (am_u F (423 + 5 * Int32.toNatClampNeg (I o 0)) 12 (FP.fmul (F (423 + 5 * Int32.toNatClampNeg (I o 0)) 12) 1061158912)) : Nat → Nat → UInt32) else (am_u F (423 + 5 * Int32.toNatClampNeg (I o 0)) 12 (FP.fadd (F (423 + 5 * Int32.toNatClampNeg (I o 0)) 12) (FP.fmul (FP.fsub 1065353216 (F (423 + 5 * Int32.toNatClampNeg (I o 0)) 12)) 1056964608))) : Nat → Nat → UInt32) else (am_u F (423 + 5 * Int32.toNatClampNeg (I o 0)) 12 (FP.fmul (F (423 + 5 * Int32.toNatClampNeg (I o 0)) 12) 1063675494)) : Nat → Nat → UInt32) : Nat → Nat → UInt32) : Nat → Nat → UInt32) : Nat → Nat → UInt32)
theorem s_X9_judge {X : Nat × (Nat × (Nat → Int32))} {I : Nat → Nat → Int32} {L : Nat → Nat → Int64} {F : Nat → Nat → UInt32} {Q : AQ} {o : Nat} (ho : isSir o) (p : (p_X9_judge o I F)) (q : Q (.inl none) (G X (fI_X9_judge o I F) L (fF_X9_judge o I F))) : WP mX9_judge 0 (am_ent 4 [.ref 0, .ref o]) [] (G X I L F) 0 0 Q := by
  unfold fI_X9_judge fF_X9_judge at q
  unfold p_X9_judge at p
  have q0 := q
  clear q
  have q : ((¬ (f_X9_isDam (I o 0)) = 0 → (¬ (f_X9_isRun (I o 1) I) = 0 → (¬ (f_X9_isHour (I 0 9)) = 0 → (((f_X9_reasonAgainst (I o 1) I) = 0 → ((Op.cmpValue (FP.fcmp (F ((423 + 5 * Int32.toNatClampNeg (I o 0)) + 4) (Int32.toNatClampNeg (I 0 9))) (FP.i2f (I (423 + 5 * Int32.toNatClampNeg (I o 0)) 10))) .l) < 0 → (¬ (I 0 9) < (I (383 + Int32.toNatClampNeg (I o 1)) 2) → vf_n32 (FP.fmul (F (423 + 5 * Int32.toNatClampNeg (I o 0)) 12) 1061158912) ∧ (True))) ∧ (¬ (Op.cmpValue (FP.fcmp (F ((423 + 5 * Int32.toNatClampNeg (I o 0)) + 4) (Int32.toNatClampNeg (I 0 9))) (FP.i2f (I (423 + 5 * Int32.toNatClampNeg (I o 0)) 10))) .l) < 0 → vf_n32 (FP.fsub 1065353216 (F (423 + 5 * Int32.toNatClampNeg (I o 0)) 12)) ∧ (vf_n32 (FP.fmul (FP.fsub 1065353216 (F (423 + 5 * Int32.toNatClampNeg (I o 0)) 12)) 1056964608) ∧ (vf_n32 (FP.fadd (F (423 + 5 * Int32.toNatClampNeg (I o 0)) 12) (FP.fmul (FP.fsub 1065353216 (F (423 + 5 * Int32.toNatClampNeg (I o 0)) 12)) 1056964608)) ∧ (True))))) ∧ (¬ (f_X9_reasonAgainst (I o 1) I) = 0 → vf_n32 (FP.fmul (F (423 + 5 * Int32.toNatClampNeg (I o 0)) 12) 1063675494) ∧ (True))) ∧ (True))))) ∧ (Q (.inl none) (G X (if (f_X9_isDam (I o 0)) = 0 then I else (if (f_X9_isRun (I o 1) I) = 0 then I else (if (f_X9_isHour (I 0 9)) = 0 then I else (if (f_X9_reasonAgainst (I o 1) I) = 0 then (if (Op.cmpValue (FP.fcmp (F ((423 + 5 * Int32.toNatClampNeg (I o 0)) + 4) (Int32.toNatClampNeg (I 0 9))) (FP.i2f (I (423 + 5 * Int32.toNatClampNeg (I o 0)) 10))) .l) < 0 then (if (I 0 9) < (I (383 + Int32.toNatClampNeg (I o 1)) 2) then I else (am_u I o 4 2) : Nat → Nat → Int32) else (if (((am_u I o 4 1) 0 9) - ((am_u I o 4 1) o 2)) < ((am_u I o 4 1) (423 + 5 * Int32.toNatClampNeg (I o 0)) 11) then (am_u I o 4 1) else (am_u (am_u I o 4 1) (423 + 5 * Int32.toNatClampNeg (I o 0)) 13 (((am_u I o 4 1) (423 + 5 * Int32.toNatClampNeg (I o 0)) 13) + ((am_u I o 4 1) o 3))) : Nat → Nat → Int32) : Nat → Nat → Int32) else (am_u I o 4 3) : Nat → Nat → Int32) : Nat → Nat → Int32) : Nat → Nat → Int32) : Nat → Nat → Int32) L (if (f_X9_isDam (I o 0)) = 0 then F else (if (f_X9_isRun (I o 1) I) = 0 then F else (if (f_X9_isHour (I 0 9)) = 0 then F else (if (f_X9_reasonAgainst (I o 1) I) = 0 then (if (Op.cmpValue (FP.fcmp (F ((423 + 5 * Int32.toNatClampNeg (I o 0)) + 4) (Int32.toNatClampNeg (I 0 9))) (FP.i2f (I (423 + 5 * Int32.toNatClampNeg (I o 0)) 10))) .l) < 0 then (if (I 0 9) < (I (383 + Int32.toNatClampNeg (I o 1)) 2) then F else (am_u F (423 + 5 * Int32.toNatClampNeg (I o 0)) 12 (FP.fmul (F (423 + 5 * Int32.toNatClampNeg (I o 0)) 12) 1061158912)) : Nat → Nat → UInt32) else (am_u F (423 + 5 * Int32.toNatClampNeg (I o 0)) 12 (FP.fadd (F (423 + 5 * Int32.toNatClampNeg (I o 0)) 12) (FP.fmul (FP.fsub 1065353216 (F (423 + 5 * Int32.toNatClampNeg (I o 0)) 12)) 1056964608))) : Nat → Nat → UInt32) else (am_u F (423 + 5 * Int32.toNatClampNeg (I o 0)) 12 (FP.fmul (F (423 + 5 * Int32.toNatClampNeg (I o 0)) 12) 1063675494)) : Nat → Nat → UInt32) : Nat → Nat → UInt32) : Nat → Nat → UInt32) : Nat → Nat → UInt32))) := by
    exact ⟨p.1, q0⟩
  clear p q0
  refine w_aload_n rX9_judge_0 rfl ?_
  refine w_aload_n rX9_judge_1 rfl ?_
  refine x_getI rX9_judge_2 rfl rfl (G_isk ho) ?_
  refine w_invokevirtual rX9_judge_5 rfl rfl rfl (Nat.le_of_ble_eq_true rfl) ⟨trivial, trivial, trivial⟩ (G_is (by decide) rfl) (by decide) (by decide) ?_
  refine s_X9_isDam ?_
  show WP mX9_judge 8 _ _ _ 0 0 _
  have j8 : ∀ I8 : Nat → Nat → Int32, I8 = (if (f_X9_isDam (I o 0)) = 0 then I else (if (f_X9_isRun (I o 1) I) = 0 then I else (if (f_X9_isHour (I 0 9)) = 0 then I else (if (f_X9_reasonAgainst (I o 1) I) = 0 then (if (Op.cmpValue (FP.fcmp (F ((423 + 5 * Int32.toNatClampNeg (I o 0)) + 4) (Int32.toNatClampNeg (I 0 9))) (FP.i2f (I (423 + 5 * Int32.toNatClampNeg (I o 0)) 10))) .l) < 0 then (if (I 0 9) < (I (383 + Int32.toNatClampNeg (I o 1)) 2) then I else (am_u I o 4 2) : Nat → Nat → Int32) else (if (((am_u I o 4 1) 0 9) - ((am_u I o 4 1) o 2)) < ((am_u I o 4 1) (423 + 5 * Int32.toNatClampNeg (I o 0)) 11) then (am_u I o 4 1) else (am_u (am_u I o 4 1) (423 + 5 * Int32.toNatClampNeg (I o 0)) 13 (((am_u I o 4 1) (423 + 5 * Int32.toNatClampNeg (I o 0)) 13) + ((am_u I o 4 1) o 3))) : Nat → Nat → Int32) : Nat → Nat → Int32) else (am_u I o 4 3) : Nat → Nat → Int32) : Nat → Nat → Int32) : Nat → Nat → Int32) : Nat → Nat → Int32) → ∀ F8 : Nat → Nat → UInt32, F8 = (if (f_X9_isDam (I o 0)) = 0 then F else (if (f_X9_isRun (I o 1) I) = 0 then F else (if (f_X9_isHour (I 0 9)) = 0 then F else (if (f_X9_reasonAgainst (I o 1) I) = 0 then (if (Op.cmpValue (FP.fcmp (F ((423 + 5 * Int32.toNatClampNeg (I o 0)) + 4) (Int32.toNatClampNeg (I 0 9))) (FP.i2f (I (423 + 5 * Int32.toNatClampNeg (I o 0)) 10))) .l) < 0 then (if (I 0 9) < (I (383 + Int32.toNatClampNeg (I o 1)) 2) then F else (am_u F (423 + 5 * Int32.toNatClampNeg (I o 0)) 12 (FP.fmul (F (423 + 5 * Int32.toNatClampNeg (I o 0)) 12) 1061158912)) : Nat → Nat → UInt32) else (am_u F (423 + 5 * Int32.toNatClampNeg (I o 0)) 12 (FP.fadd (F (423 + 5 * Int32.toNatClampNeg (I o 0)) 12) (FP.fmul (FP.fsub 1065353216 (F (423 + 5 * Int32.toNatClampNeg (I o 0)) 12)) 1056964608))) : Nat → Nat → UInt32) else (am_u F (423 + 5 * Int32.toNatClampNeg (I o 0)) 12 (FP.fmul (F (423 + 5 * Int32.toNatClampNeg (I o 0)) 12) 1063675494)) : Nat → Nat → UInt32) : Nat → Nat → UInt32) : Nat → Nat → UInt32) : Nat → Nat → UInt32) → Q (.inl none) (G X I8 L F8) := by
    intro I8 eI8 F8 eF8
    subst eI8
    subst eF8
    skip
    replace q := q.2
    exact q
  replace q := q.1
  refine w_ifeq rX9_judge_8 (fun h8 => ?_) (fun h8 => ?_)
  · skip
    refine w_return rX9_judge_32 ?_
    exact j8 _ (if_pos h8).symm _ (if_pos h8).symm
  · replace q := q h8
    refine w_aload_n rX9_judge_11 rfl ?_
    refine w_aload_n rX9_judge_12 rfl ?_
    refine x_getI rX9_judge_13 rfl rfl (G_isk ho) ?_
    refine w_invokevirtual rX9_judge_16 rfl rfl rfl (Nat.le_of_ble_eq_true rfl) ⟨trivial, trivial, trivial⟩ (G_is (by decide) rfl) (by decide) (by decide) ?_
    refine s_X9_isRun ?_
    show WP mX9_judge 19 _ _ _ 0 0 _
    refine w_ifeq rX9_judge_19 (fun h19 => ?_) (fun h19 => ?_)
    · skip
      refine w_return rX9_judge_32 ?_
      exact j8 _ ((if_neg h8).trans (if_pos h19)).symm _ ((if_neg h8).trans (if_pos h19)).symm
    · replace q := q h19
      refine w_aload_n rX9_judge_22 rfl ?_
      refine x_getI rX9_judge_23 rfl rfl (G_is (by decide) rfl) ?_
      refine w_invokestatic rX9_judge_26 rfl rfl rfl (Nat.le_of_ble_eq_true rfl) ⟨trivial, trivial⟩ trivial (by decide) (by decide) ?_
      refine s_X9_isHour ?_
      show WP mX9_judge 29 _ _ _ 0 0 _
      refine w_ifne rX9_judge_29 (fun h29 => ?_) (fun h29 => ?_)
      · replace q := q h29
        refine w_aload_n rX9_judge_33 rfl ?_
        refine w_getR rX9_judge_34 rfl rfl (G_is (by decide) rfl) (x := 381) rfl ?_
        refine w_aload_n rX9_judge_37 rfl ?_
        refine x_getI rX9_judge_38 rfl rfl (G_isk ho) ?_
        refine w_aaload rX9_judge_41 (G_aa (by decide) rfl rfl (gd_X9_isDam h8)) (ga_dam (gd_X9_isDam h8)) ?_
        refine w_astore_n rX9_judge_42 rfl trivial ?_
        refine w_aload_n rX9_judge_43 rfl ?_
        refine w_aload_n rX9_judge_44 rfl ?_
        refine x_getI rX9_judge_45 rfl rfl (G_isk ho) ?_
        refine w_invokevirtual rX9_judge_48 rfl rfl rfl (Nat.le_of_ble_eq_true rfl) ⟨trivial, trivial, trivial⟩ (G_is (by decide) rfl) (by decide) (by decide) ?_
        refine s_X9_reasonAgainst ?_
        show WP mX9_judge 51 _ _ _ 0 0 _
        have j51 : ∀ I51 : Nat → Nat → Int32, I51 = (if (f_X9_reasonAgainst (I o 1) I) = 0 then (if (Op.cmpValue (FP.fcmp (F ((423 + 5 * Int32.toNatClampNeg (I o 0)) + 4) (Int32.toNatClampNeg (I 0 9))) (FP.i2f (I (423 + 5 * Int32.toNatClampNeg (I o 0)) 10))) .l) < 0 then (if (I 0 9) < (I (383 + Int32.toNatClampNeg (I o 1)) 2) then I else (am_u I o 4 2) : Nat → Nat → Int32) else (if (((am_u I o 4 1) 0 9) - ((am_u I o 4 1) o 2)) < ((am_u I o 4 1) (423 + 5 * Int32.toNatClampNeg (I o 0)) 11) then (am_u I o 4 1) else (am_u (am_u I o 4 1) (423 + 5 * Int32.toNatClampNeg (I o 0)) 13 (((am_u I o 4 1) (423 + 5 * Int32.toNatClampNeg (I o 0)) 13) + ((am_u I o 4 1) o 3))) : Nat → Nat → Int32) : Nat → Nat → Int32) else (am_u I o 4 3) : Nat → Nat → Int32) → ∀ F51 : Nat → Nat → UInt32, F51 = (if (f_X9_reasonAgainst (I o 1) I) = 0 then (if (Op.cmpValue (FP.fcmp (F ((423 + 5 * Int32.toNatClampNeg (I o 0)) + 4) (Int32.toNatClampNeg (I 0 9))) (FP.i2f (I (423 + 5 * Int32.toNatClampNeg (I o 0)) 10))) .l) < 0 then (if (I 0 9) < (I (383 + Int32.toNatClampNeg (I o 1)) 2) then F else (am_u F (423 + 5 * Int32.toNatClampNeg (I o 0)) 12 (FP.fmul (F (423 + 5 * Int32.toNatClampNeg (I o 0)) 12) 1061158912)) : Nat → Nat → UInt32) else (am_u F (423 + 5 * Int32.toNatClampNeg (I o 0)) 12 (FP.fadd (F (423 + 5 * Int32.toNatClampNeg (I o 0)) 12) (FP.fmul (FP.fsub 1065353216 (F (423 + 5 * Int32.toNatClampNeg (I o 0)) 12)) 1056964608))) : Nat → Nat → UInt32) else (am_u F (423 + 5 * Int32.toNatClampNeg (I o 0)) 12 (FP.fmul (F (423 + 5 * Int32.toNatClampNeg (I o 0)) 12) 1063675494)) : Nat → Nat → UInt32) → ∀ d51_3 : Option Value, am_nl [d51_3] 1 → WP mX9_judge 186 [some (.ref 0), some (.ref o), some (.ref (423 + 5 * Int32.toNatClampNeg (I o 0))), d51_3] [] (G X I51 L F51) 0 0 Q := by
          intro I51 eI51 F51 eF51 d51_3 nd51_3
          subst eI51
          subst eF51
          skip
          replace q := q.2
          refine w_return rX9_judge_186 ?_
          exact j8 _ (((if_neg h8).trans (if_neg h19)).trans (if_neg h29)).symm _ (((if_neg h8).trans (if_neg h19)).trans (if_neg h29)).symm
        replace q := q.1
        refine w_ifeq rX9_judge_51 (fun h51 => ?_) (fun h51 => ?_)
        · replace q := q.1 h51
          refine w_aload_n rX9_judge_74 rfl ?_
          refine w_getR rX9_judge_75 rfl rfl (G_isk (gi_dam (gd_X9_isDam h8)).1) (gi_dam (gd_X9_isDam h8)).2.2.1 ?_
          refine w_aload_n rX9_judge_78 rfl ?_
          refine x_getI rX9_judge_79 rfl rfl (G_is (by decide) rfl) ?_
          refine x_faload rX9_judge_82 (G_atk (gi_dam (gd_X9_isDam h8)).2.2.2.2 (gd_X9_isHour h29)) ?_
          refine w_aload_n rX9_judge_83 rfl ?_
          refine x_getI rX9_judge_84 rfl rfl (G_isk (gi_dam (gd_X9_isDam h8)).1) ?_
          refine w_i2f rX9_judge_87 ?_
          refine w_fcmp rX9_judge_88 ?_
          refine w_iflt rX9_judge_89 (fun h89 => ?_) (fun h89 => ?_)
          · replace q := q.1 h89
            refine w_aload_n rX9_judge_150 rfl ?_
            refine x_getI rX9_judge_151 rfl rfl (G_is (by decide) rfl) ?_
            refine w_aload_n rX9_judge_154 rfl ?_
            refine w_getR rX9_judge_155 rfl rfl (G_is (by decide) rfl) (x := 379) rfl ?_
            refine w_aload_n rX9_judge_158 rfl ?_
            refine x_getI rX9_judge_159 rfl rfl (G_isk ho) ?_
            refine w_aaload rX9_judge_162 (G_aa (by decide) rfl rfl (gd_X9_isRun h19)) (ga_run (gd_X9_isRun h19)) ?_
            refine x_getI rX9_judge_163 rfl rfl (G_isk (gi_run (gd_X9_isRun h19))) ?_
            refine w_icmplt rX9_judge_166 (fun h166 => ?_) (fun h166 => ?_)
            · skip
              exact j51 _ (((if_pos h51).trans (if_pos h89)).trans (if_pos h166)).symm _ (((if_pos h51).trans (if_pos h89)).trans (if_pos h166)).symm (none) trivial
            · replace q := q h166
              refine w_aload_n rX9_judge_169 rfl ?_
              refine w_iconst rX9_judge_170 (x := 2) (by decide) ?_
              refine x_putI rX9_judge_171 rfl (G_isk ho) trivial ?_
              refine w_aload_n rX9_judge_174 rfl ?_
              refine w_aload_n rX9_judge_175 rfl ?_
              refine x_getF rX9_judge_176 rfl rfl (G_isk (gi_dam (gd_X9_isDam h8)).1) ?_
              refine w_ldc_wF rX9_judge_179 (x := 1061158912) (by decide) ?_
              refine w_fmul rX9_judge_182 q.1 ?_
              replace q := q.2
              refine x_putF rX9_judge_183 rfl (G_isk (gi_dam (gd_X9_isDam h8)).1) ?_
              exact j51 _ (((if_pos h51).trans (if_pos h89)).trans (if_neg h166)).symm _ (((if_pos h51).trans (if_pos h89)).trans (if_neg h166)).symm (none) trivial
          · replace q := q.2 h89
            refine w_aload_n rX9_judge_92 rfl ?_
            refine w_iconst rX9_judge_93 (x := 1) (by decide) ?_
            refine x_putI rX9_judge_94 rfl (G_isk ho) trivial ?_
            refine w_fconst rX9_judge_97 (x := 1065353216) rfl ?_
            refine w_aload_n rX9_judge_98 rfl ?_
            refine x_getF rX9_judge_99 rfl rfl (G_isk (gi_dam (gd_X9_isDam h8)).1) ?_
            refine w_fsub rX9_judge_102 q.1 ?_
            replace q := q.2
            refine w_fstore_n rX9_judge_103 rfl trivial ?_
            refine w_aload_n rX9_judge_104 rfl ?_
            refine w_aload_n rX9_judge_105 rfl ?_
            refine x_getF rX9_judge_106 rfl rfl (G_isk (gi_dam (gd_X9_isDam h8)).1) ?_
            refine w_fload_n rX9_judge_109 rfl ?_
            refine w_ldc_wF rX9_judge_110 (x := 1056964608) (by decide) ?_
            refine w_fmul rX9_judge_113 q.1 ?_
            replace q := q.2
            refine w_fadd rX9_judge_114 q.1 ?_
            replace q := q.2
            refine x_putF rX9_judge_115 rfl (G_isk (gi_dam (gd_X9_isDam h8)).1) ?_
            refine w_aload_n rX9_judge_118 rfl ?_
            refine x_getI rX9_judge_119 rfl rfl (G_is (by decide) rfl) ?_
            refine w_aload_n rX9_judge_122 rfl ?_
            refine x_getI rX9_judge_123 rfl rfl (G_isk ho) ?_
            refine w_isub rX9_judge_126 ?_
            refine w_aload_n rX9_judge_127 rfl ?_
            refine x_getI rX9_judge_128 rfl rfl (G_isk (gi_dam (gd_X9_isDam h8)).1) ?_
            have j131 : ∀ I131 : Nat → Nat → Int32, I131 = (if (((am_u I o 4 1) 0 9) - ((am_u I o 4 1) o 2)) < ((am_u I o 4 1) (423 + 5 * Int32.toNatClampNeg (I o 0)) 11) then (am_u I o 4 1) else (am_u (am_u I o 4 1) (423 + 5 * Int32.toNatClampNeg (I o 0)) 13 (((am_u I o 4 1) (423 + 5 * Int32.toNatClampNeg (I o 0)) 13) + ((am_u I o 4 1) o 3))) : Nat → Nat → Int32) → WP mX9_judge 147 [some (.ref 0), some (.ref o), some (.ref (423 + 5 * Int32.toNatClampNeg (I o 0))), some (.float (FP.fsub 1065353216 (F (423 + 5 * Int32.toNatClampNeg (I o 0)) 12)))] [] (G X I131 L (am_u F (423 + 5 * Int32.toNatClampNeg (I o 0)) 12 (FP.fadd (F (423 + 5 * Int32.toNatClampNeg (I o 0)) 12) (FP.fmul (FP.fsub 1065353216 (F (423 + 5 * Int32.toNatClampNeg (I o 0)) 12)) 1056964608)))) 0 0 Q := by
              intro I131 eI131
              subst eI131
              skip
              refine w_goto rX9_judge_147 ?_
              exact j51 _ ((if_pos h51).trans (if_neg h89)).symm _ ((if_pos h51).trans (if_neg h89)).symm (some (.float (FP.fsub 1065353216 (F (423 + 5 * Int32.toNatClampNeg (I o 0)) 12)))) trivial
            refine w_icmplt rX9_judge_131 (fun h131 => ?_) (fun h131 => ?_)
            · skip
              exact j131 _ (if_pos h131).symm
            · skip
              refine w_aload_n rX9_judge_134 rfl ?_
              refine w_dup rX9_judge_135 trivial ?_
              refine x_getI rX9_judge_136 rfl rfl (G_isk (gi_dam (gd_X9_isDam h8)).1) ?_
              refine w_aload_n rX9_judge_139 rfl ?_
              refine x_getI rX9_judge_140 rfl rfl (G_isk ho) ?_
              refine w_iadd rX9_judge_143 ?_
              refine x_putI rX9_judge_144 rfl (G_isk (gi_dam (gd_X9_isDam h8)).1) trivial ?_
              exact j131 _ (if_neg h131).symm
        · replace q := q.2 h51
          refine w_aload_n rX9_judge_54 rfl ?_
          refine w_iconst rX9_judge_55 (x := 3) (by decide) ?_
          refine x_putI rX9_judge_56 rfl (G_isk ho) trivial ?_
          refine w_aload_n rX9_judge_59 rfl ?_
          refine w_aload_n rX9_judge_60 rfl ?_
          refine x_getF rX9_judge_61 rfl rfl (G_isk (gi_dam (gd_X9_isDam h8)).1) ?_
          refine w_ldc_wF rX9_judge_64 (x := 1063675494) (by decide) ?_
          refine w_fmul rX9_judge_67 q.1 ?_
          replace q := q.2
          refine x_putF rX9_judge_68 rfl (G_isk (gi_dam (gd_X9_isDam h8)).1) ?_
          refine w_goto rX9_judge_71 ?_
          exact j51 _ (if_neg h51).symm _ (if_neg h51).symm (none) trivial
      · skip
        refine w_return rX9_judge_32 ?_
        exact j8 _ (((if_neg h8).trans (if_neg h19)).trans (if_pos h29)).symm _ (((if_neg h8).trans (if_neg h19)).trans (if_pos h29)).symm
def f_J6_bitCount_0f7a4 (x : Int32) : Int32 := ((((((((x - ((UInt32.toInt32 ((Int32.toUInt32 x) >>> ((Int32.toUInt32 1) &&& Int32.toUInt32 31))) &&& 1431655765)) &&& 858993459) + ((UInt32.toInt32 ((Int32.toUInt32 (x - ((UInt32.toInt32 ((Int32.toUInt32 x) >>> ((Int32.toUInt32 1) &&& Int32.toUInt32 31))) &&& 1431655765))) >>> ((Int32.toUInt32 2) &&& Int32.toUInt32 31))) &&& 858993459)) + (UInt32.toInt32 ((Int32.toUInt32 (((x - ((UInt32.toInt32 ((Int32.toUInt32 x) >>> ((Int32.toUInt32 1) &&& Int32.toUInt32 31))) &&& 1431655765)) &&& 858993459) + ((UInt32.toInt32 ((Int32.toUInt32 (x - ((UInt32.toInt32 ((Int32.toUInt32 x) >>> ((Int32.toUInt32 1) &&& Int32.toUInt32 31))) &&& 1431655765))) >>> ((Int32.toUInt32 2) &&& Int32.toUInt32 31))) &&& 858993459))) >>> ((Int32.toUInt32 4) &&& Int32.toUInt32 31)))) &&& 252645135) + (UInt32.toInt32 ((Int32.toUInt32 (((((x - ((UInt32.toInt32 ((Int32.toUInt32 x) >>> ((Int32.toUInt32 1) &&& Int32.toUInt32 31))) &&& 1431655765)) &&& 858993459) + ((UInt32.toInt32 ((Int32.toUInt32 (x - ((UInt32.toInt32 ((Int32.toUInt32 x) >>> ((Int32.toUInt32 1) &&& Int32.toUInt32 31))) &&& 1431655765))) >>> ((Int32.toUInt32 2) &&& Int32.toUInt32 31))) &&& 858993459)) + (UInt32.toInt32 ((Int32.toUInt32 (((x - ((UInt32.toInt32 ((Int32.toUInt32 x) >>> ((Int32.toUInt32 1) &&& Int32.toUInt32 31))) &&& 1431655765)) &&& 858993459) + ((UInt32.toInt32 ((Int32.toUInt32 (x - ((UInt32.toInt32 ((Int32.toUInt32 x) >>> ((Int32.toUInt32 1) &&& Int32.toUInt32 31))) &&& 1431655765))) >>> ((Int32.toUInt32 2) &&& Int32.toUInt32 31))) &&& 858993459))) >>> ((Int32.toUInt32 4) &&& Int32.toUInt32 31)))) &&& 252645135)) >>> ((Int32.toUInt32 8) &&& Int32.toUInt32 31)))) + (UInt32.toInt32 ((Int32.toUInt32 ((((((x - ((UInt32.toInt32 ((Int32.toUInt32 x) >>> ((Int32.toUInt32 1) &&& Int32.toUInt32 31))) &&& 1431655765)) &&& 858993459) + ((UInt32.toInt32 ((Int32.toUInt32 (x - ((UInt32.toInt32 ((Int32.toUInt32 x) >>> ((Int32.toUInt32 1) &&& Int32.toUInt32 31))) &&& 1431655765))) >>> ((Int32.toUInt32 2) &&& Int32.toUInt32 31))) &&& 858993459)) + (UInt32.toInt32 ((Int32.toUInt32 (((x - ((UInt32.toInt32 ((Int32.toUInt32 x) >>> ((Int32.toUInt32 1) &&& Int32.toUInt32 31))) &&& 1431655765)) &&& 858993459) + ((UInt32.toInt32 ((Int32.toUInt32 (x - ((UInt32.toInt32 ((Int32.toUInt32 x) >>> ((Int32.toUInt32 1) &&& Int32.toUInt32 31))) &&& 1431655765))) >>> ((Int32.toUInt32 2) &&& Int32.toUInt32 31))) &&& 858993459))) >>> ((Int32.toUInt32 4) &&& Int32.toUInt32 31)))) &&& 252645135) + (UInt32.toInt32 ((Int32.toUInt32 (((((x - ((UInt32.toInt32 ((Int32.toUInt32 x) >>> ((Int32.toUInt32 1) &&& Int32.toUInt32 31))) &&& 1431655765)) &&& 858993459) + ((UInt32.toInt32 ((Int32.toUInt32 (x - ((UInt32.toInt32 ((Int32.toUInt32 x) >>> ((Int32.toUInt32 1) &&& Int32.toUInt32 31))) &&& 1431655765))) >>> ((Int32.toUInt32 2) &&& Int32.toUInt32 31))) &&& 858993459)) + (UInt32.toInt32 ((Int32.toUInt32 (((x - ((UInt32.toInt32 ((Int32.toUInt32 x) >>> ((Int32.toUInt32 1) &&& Int32.toUInt32 31))) &&& 1431655765)) &&& 858993459) + ((UInt32.toInt32 ((Int32.toUInt32 (x - ((UInt32.toInt32 ((Int32.toUInt32 x) >>> ((Int32.toUInt32 1) &&& Int32.toUInt32 31))) &&& 1431655765))) >>> ((Int32.toUInt32 2) &&& Int32.toUInt32 31))) &&& 858993459))) >>> ((Int32.toUInt32 4) &&& Int32.toUInt32 31)))) &&& 252645135)) >>> ((Int32.toUInt32 8) &&& Int32.toUInt32 31))))) >>> ((Int32.toUInt32 16) &&& Int32.toUInt32 31)))) &&& 63)
theorem s_J6_bitCount_0f7a4 {X : Nat × (Nat × (Nat → Int32))} {I : Nat → Nat → Int32} {L : Nat → Nat → Int64} {F : Nat → Nat → UInt32} {Q : AQ} {x : Int32} (q : Q (.inl (some (.int (f_J6_bitCount_0f7a4 x)))) (G X I L F)) : WP mJ6_bitCount_0f7a4 0 (am_ent 1 [.int x]) [] (G X I L F) 0 0 Q := by
  unfold f_J6_bitCount_0f7a4 at q
  refine w_iload_n rJ6_bitCount_0f7a4_0 rfl ?_
  refine w_iload_n rJ6_bitCount_0f7a4_1 rfl ?_
  refine w_iconst rJ6_bitCount_0f7a4_2 (x := 1) (by decide) ?_
  refine w_iushr rJ6_bitCount_0f7a4_3 ?_
  refine w_ldc_wI rJ6_bitCount_0f7a4_4 (x := 1431655765) (by decide) ?_
  refine w_iand rJ6_bitCount_0f7a4_7 ?_
  refine w_isub rJ6_bitCount_0f7a4_8 ?_
  refine w_istore_n rJ6_bitCount_0f7a4_9 rfl trivial ?_
  refine w_iload_n rJ6_bitCount_0f7a4_10 rfl ?_
  refine w_ldc_wI rJ6_bitCount_0f7a4_11 (x := 858993459) (by decide) ?_
  refine w_iand rJ6_bitCount_0f7a4_14 ?_
  refine w_iload_n rJ6_bitCount_0f7a4_15 rfl ?_
  refine w_iconst rJ6_bitCount_0f7a4_16 (x := 2) (by decide) ?_
  refine w_iushr rJ6_bitCount_0f7a4_17 ?_
  refine w_ldc_wI rJ6_bitCount_0f7a4_18 (x := 858993459) (by decide) ?_
  refine w_iand rJ6_bitCount_0f7a4_21 ?_
  refine w_iadd rJ6_bitCount_0f7a4_22 ?_
  refine w_istore_n rJ6_bitCount_0f7a4_23 rfl trivial ?_
  refine w_iload_n rJ6_bitCount_0f7a4_24 rfl ?_
  refine w_iload_n rJ6_bitCount_0f7a4_25 rfl ?_
  refine w_iconst rJ6_bitCount_0f7a4_26 (x := 4) (by decide) ?_
  refine w_iushr rJ6_bitCount_0f7a4_27 ?_
  refine w_iadd rJ6_bitCount_0f7a4_28 ?_
  refine w_ldc_wI rJ6_bitCount_0f7a4_29 (x := 252645135) (by decide) ?_
  refine w_iand rJ6_bitCount_0f7a4_32 ?_
  refine w_istore_n rJ6_bitCount_0f7a4_33 rfl trivial ?_
  refine w_iload_n rJ6_bitCount_0f7a4_34 rfl ?_
  refine w_iload_n rJ6_bitCount_0f7a4_35 rfl ?_
  refine w_bipush rJ6_bitCount_0f7a4_36 (x := 8) (by decide) ?_
  refine w_iushr rJ6_bitCount_0f7a4_38 ?_
  refine w_iadd rJ6_bitCount_0f7a4_39 ?_
  refine w_istore_n rJ6_bitCount_0f7a4_40 rfl trivial ?_
  refine w_iload_n rJ6_bitCount_0f7a4_41 rfl ?_
  refine w_iload_n rJ6_bitCount_0f7a4_42 rfl ?_
  refine w_bipush rJ6_bitCount_0f7a4_43 (x := 16) (by decide) ?_
  refine w_iushr rJ6_bitCount_0f7a4_45 ?_
  refine w_iadd rJ6_bitCount_0f7a4_46 ?_
  refine w_istore_n rJ6_bitCount_0f7a4_47 rfl trivial ?_
  refine w_iload_n rJ6_bitCount_0f7a4_48 rfl ?_
  refine w_bipush rJ6_bitCount_0f7a4_49 (x := 63) (by decide) ?_
  refine w_iand rJ6_bitCount_0f7a4_51 ?_
  refine w_ireturn rJ6_bitCount_0f7a4_52 trivial ?_
  exact q
def f_J9_max_7cf53 (x : Int32) (y : Int32) : Int32 := (if x < y then y else x : Int32)
theorem s_J9_max_7cf53 {X : Nat × (Nat × (Nat → Int32))} {I : Nat → Nat → Int32} {L : Nat → Nat → Int64} {F : Nat → Nat → UInt32} {Q : AQ} {x : Int32} {y : Int32} (q : Q (.inl (some (.int (f_J9_max_7cf53 x y)))) (G X I L F)) : WP mJ9_max_7cf53 0 (am_ent 2 [.int x, .int y]) [] (G X I L F) 0 0 Q := by
  unfold f_J9_max_7cf53 at q
  refine w_iload_n rJ9_max_7cf53_0 rfl ?_
  refine w_iload_n rJ9_max_7cf53_1 rfl ?_
  have j2 : ∀ s2_0 : Int32, s2_0 = (if x < y then y else x : Int32) → WP mJ9_max_7cf53 10 [some (.int x), some (.int y)] [.int s2_0] (G X I L F) 0 0 Q := by
    intro s2_0 es2_0
    subst es2_0
    skip
    refine w_ireturn rJ9_max_7cf53_10 trivial ?_
    exact q
  refine w_icmplt rJ9_max_7cf53_2 (fun h2 => ?_) (fun h2 => ?_)
  · skip
    refine w_iload_n rJ9_max_7cf53_9 rfl ?_
    exact j2 _ (if_pos h2).symm
  · skip
    refine w_iload_n rJ9_max_7cf53_5 rfl ?_
    refine w_goto rJ9_max_7cf53_6 ?_
    exact j2 _ (if_neg h2).symm
def f_J9_min_7cf53 (x : Int32) (y : Int32) : Int32 := (if y < x then y else x : Int32)
theorem s_J9_min_7cf53 {X : Nat × (Nat × (Nat → Int32))} {I : Nat → Nat → Int32} {L : Nat → Nat → Int64} {F : Nat → Nat → UInt32} {Q : AQ} {x : Int32} {y : Int32} (q : Q (.inl (some (.int (f_J9_min_7cf53 x y)))) (G X I L F)) : WP mJ9_min_7cf53 0 (am_ent 2 [.int x, .int y]) [] (G X I L F) 0 0 Q := by
  unfold f_J9_min_7cf53 at q
  refine w_iload_n rJ9_min_7cf53_0 rfl ?_
  refine w_iload_n rJ9_min_7cf53_1 rfl ?_
  have j2 : ∀ s2_0 : Int32, s2_0 = (if y < x then y else x : Int32) → WP mJ9_min_7cf53 10 [some (.int x), some (.int y)] [.int s2_0] (G X I L F) 0 0 Q := by
    intro s2_0 es2_0
    subst es2_0
    skip
    refine w_ireturn rJ9_min_7cf53_10 trivial ?_
    exact q
  refine w_icmpgt rJ9_min_7cf53_2 (fun h2 => ?_) (fun h2 => ?_)
  · skip
    refine w_iload_n rJ9_min_7cf53_9 rfl ?_
    exact j2 _ (if_pos h2).symm
  · skip
    refine w_iload_n rJ9_min_7cf53_5 rfl ?_
    refine w_goto rJ9_min_7cf53_6 ?_
    exact j2 _ (if_neg h2).symm
def f_J0_coder_7d493  : Int32 := 0
theorem s_J0_coder_7d493 {X : Nat × (Nat × (Nat → Int32))} {I : Nat → Nat → Int32} {L : Nat → Nat → Int64} {F : Nat → Nat → UInt32} {Q : AQ}  (q : Q (.inl (some (.int f_J0_coder_7d493))) (G X I L F)) : WP mJ0_coder_7d493 0 (am_ent 1 [.ref 1000001]) [] (G X I L F) 0 0 Q := by
  unfold f_J0_coder_7d493 at q
  refine w_getstatic rJ0_coder_7d493_0 (x := 1) (by decide) ?_
  refine w_ifeq rJ0_coder_7d493_3 (fun h => absurd h (show ¬ (1 : Int32) = 0 from by decide)) (fun _ => ?_)
  refine w_aload_n rJ0_coder_7d493_6 rfl ?_
  refine w_getSc rJ0_coder_7d493_7 ?_
  refine w_goto rJ0_coder_7d493_10 ?_
  refine w_ireturn rJ0_coder_7d493_14 (Or.inl rfl) ?_
  exact q
theorem b01_J0_coder_7d493  : f_J0_coder_7d493 = 0 ∨ f_J0_coder_7d493 = 1 := by
  unfold f_J0_coder_7d493
  repeat' first | refine b01_ite ?_ ?_ | exact Or.inl rfl | exact Or.inr rfl
def f_J0_isLatin1_aae02  : Int32 := 1
theorem s_J0_isLatin1_aae02 {X : Nat × (Nat × (Nat → Int32))} {I : Nat → Nat → Int32} {L : Nat → Nat → Int64} {F : Nat → Nat → UInt32} {Q : AQ}  (q : Q (.inl (some (.int f_J0_isLatin1_aae02))) (G X I L F)) : WP mJ0_isLatin1_aae02 0 (am_ent 1 [.ref 1000001]) [] (G X I L F) 0 0 Q := by
  unfold f_J0_isLatin1_aae02 at q
  refine w_getstatic rJ0_isLatin1_aae02_0 (x := 1) (by decide) ?_
  refine w_ifeq rJ0_isLatin1_aae02_3 (fun h => absurd h (show ¬ (1 : Int32) = 0 from by decide)) (fun _ => ?_)
  refine w_aload_n rJ0_isLatin1_aae02_6 rfl ?_
  refine w_getSc rJ0_isLatin1_aae02_7 ?_
  refine w_ifne rJ0_isLatin1_aae02_10 (fun h => absurd (show (0 : Int32) = 0 from by decide) h) (fun _ => ?_)
  refine w_iconst rJ0_isLatin1_aae02_13 (x := 1) (by decide) ?_
  refine w_goto rJ0_isLatin1_aae02_14 ?_
  refine w_ireturn rJ0_isLatin1_aae02_18 (Or.inr rfl) ?_
  exact q
theorem b01_J0_isLatin1_aae02  : f_J0_isLatin1_aae02 = 0 ∨ f_J0_isLatin1_aae02 = 1 := by
  unfold f_J0_isLatin1_aae02
  repeat' first | refine b01_ite ?_ ?_ | exact Or.inl rfl | exact Or.inr rfl
def f_J1_canEncode_9a6ad (ch : Int32) : Int32 := (if ch < 0 then 0 else (if 255 < ch then 0 else 1 : Int32) : Int32)
theorem s_J1_canEncode_9a6ad {X : Nat × (Nat × (Nat → Int32))} {I : Nat → Nat → Int32} {L : Nat → Nat → Int64} {F : Nat → Nat → UInt32} {Q : AQ} {ch : Int32} (q : Q (.inl (some (.int (f_J1_canEncode_9a6ad ch)))) (G X I L F)) : WP mJ1_canEncode_9a6ad 0 (am_ent 1 [.int ch]) [] (G X I L F) 0 0 Q := by
  unfold f_J1_canEncode_9a6ad at q
  refine w_iload_n rJ1_canEncode_9a6ad_0 rfl ?_
  have j1 : ∀ s1_0 : Int32, s1_0 = (if ch < 0 then 0 else (if 255 < ch then 0 else 1 : Int32) : Int32) → WP mJ1_canEncode_9a6ad 16 [some (.int ch)] [.int s1_0] (G X I L F) 0 0 Q := by
    intro s1_0 es1_0
    subst es1_0
    skip
    refine w_ireturn rJ1_canEncode_9a6ad_16 (show (if ch < 0 then 0 else (if 255 < ch then 0 else 1 : Int32) : Int32) = 0 ∨ (if ch < 0 then 0 else (if 255 < ch then 0 else 1 : Int32) : Int32) = 1 from by repeat' first | refine b01_ite ?_ ?_ | exact Or.inl rfl | exact Or.inr rfl) ?_
    exact q
  refine w_iflt rJ1_canEncode_9a6ad_1 (fun h1 => ?_) (fun h1 => ?_)
  · skip
    refine w_iconst rJ1_canEncode_9a6ad_15 (x := 0) (by decide) ?_
    exact j1 _ (if_pos h1).symm
  · skip
    refine w_iload_n rJ1_canEncode_9a6ad_4 rfl ?_
    refine w_sipush rJ1_canEncode_9a6ad_5 (x := 255) (by decide) ?_
    refine w_icmpgt rJ1_canEncode_9a6ad_8 (fun h8 => ?_) (fun h8 => ?_)
    · skip
      refine w_iconst rJ1_canEncode_9a6ad_15 (x := 0) (by decide) ?_
      exact j1 _ ((if_neg h1).trans (if_pos h8)).symm
    · skip
      refine w_iconst rJ1_canEncode_9a6ad_11 (x := 1) (by decide) ?_
      refine w_goto rJ1_canEncode_9a6ad_12 ?_
      exact j1 _ ((if_neg h1).trans (if_neg h8)).symm
theorem b01_J1_canEncode_9a6ad {ch : Int32} : (f_J1_canEncode_9a6ad ch) = 0 ∨ (f_J1_canEncode_9a6ad ch) = 1 := by
  unfold f_J1_canEncode_9a6ad
  repeat' first | refine b01_ite ?_ ?_ | exact Or.inl rfl | exact Or.inr rfl
def f_L_key (x : Int32) : Int32 := (if 0 ≤ x then x else (x ^^^ 2147483647) : Int32)
theorem s_L_key {X : Nat × (Nat × (Nat → Int32))} {I : Nat → Nat → Int32} {L : Nat → Nat → Int64} {F : Nat → Nat → UInt32} {Q : AQ} {x : Int32} (q : Q (.inl (some (.int (f_L_key x)))) (G X I L F)) : WP mL_key 0 (am_ent 1 [.int x]) [] (G X I L F) 0 0 Q := by
  unfold f_L_key at q
  refine w_iload_n rL_key_0 rfl ?_
  have j1 : ∀ s1_0 : Int32, s1_0 = (if 0 ≤ x then x else (x ^^^ 2147483647) : Int32) → WP mL_key 12 [some (.int x)] [.int s1_0] (G X I L F) 0 0 Q := by
    intro s1_0 es1_0
    subst es1_0
    skip
    refine w_ireturn rL_key_12 trivial ?_
    exact q
  refine w_ifge rL_key_1 (fun h1 => ?_) (fun h1 => ?_)
  · skip
    refine w_iload_n rL_key_11 rfl ?_
    exact j1 _ (if_pos h1).symm
  · skip
    refine w_iload_n rL_key_4 rfl ?_
    refine w_ldcI rL_key_5 (x := 2147483647) (by decide) ?_
    refine w_ixor rL_key_7 ?_
    refine w_goto rL_key_8 ?_
    exact j1 _ (if_neg h1).symm
def f_L_inputs (which : Int32) : Int32 := (if which = 0 then 2 else (if which = 1 then 2 else (if which = 2 then 3 else 1 : Int32) : Int32) : Int32)
theorem s_L_inputs {X : Nat × (Nat × (Nat → Int32))} {I : Nat → Nat → Int32} {L : Nat → Nat → Int64} {F : Nat → Nat → UInt32} {Q : AQ} {which : Int32} (q : Q (.inl (some (.int (f_L_inputs which)))) (G X I L F)) : WP mL_inputs 0 (am_ent 1 [.int which]) [] (G X I L F) 0 0 Q := by
  unfold f_L_inputs at q
  refine w_iload_n rL_inputs_0 rfl ?_
  have j1 : ∀ s1_0 : Int32, s1_0 = (if which = 0 then 2 else (if which = 1 then 2 else (if which = 2 then 3 else 1 : Int32) : Int32) : Int32) → WP mL_inputs 23 [some (.int which)] [.int s1_0] (G X I L F) 0 0 Q := by
    intro s1_0 es1_0
    subst es1_0
    skip
    refine w_ireturn rL_inputs_23 trivial ?_
    exact q
  refine w_ifeq rL_inputs_1 (fun h1 => ?_) (fun h1 => ?_)
  · skip
    refine w_iconst rL_inputs_9 (x := 2) (by decide) ?_
    refine w_goto rL_inputs_10 ?_
    exact j1 _ (if_pos h1).symm
  · skip
    refine w_iload_n rL_inputs_4 rfl ?_
    refine w_iconst rL_inputs_5 (x := 1) (by decide) ?_
    refine w_icmpne rL_inputs_6 (fun h6 => ?_) (fun h6 => ?_)
    · skip
      refine w_iload_n rL_inputs_13 rfl ?_
      refine w_iconst rL_inputs_14 (x := 2) (by decide) ?_
      refine w_icmpne rL_inputs_15 (fun h15 => ?_) (fun h15 => ?_)
      · skip
        refine w_iconst rL_inputs_22 (x := 1) (by decide) ?_
        exact j1 _ (((if_neg h1).trans (if_neg h6)).trans (if_neg h15)).symm
      · skip
        refine w_iconst rL_inputs_18 (x := 3) (by decide) ?_
        refine w_goto rL_inputs_19 ?_
        exact j1 _ (((if_neg h1).trans (if_neg h6)).trans (if_pos h15)).symm
    · skip
      refine w_iconst rL_inputs_9 (x := 2) (by decide) ?_
      refine w_goto rL_inputs_10 ?_
      exact j1 _ ((if_neg h1).trans (if_pos h6)).symm
def f_L_follows (was : Int32) (now : Int32) (size : Int32) : Int32 := (if was < 0 then (if now = (-1) then 1 else (if now = size then 1 else (if now = (size - 1) then 1 else 0 : Int32) : Int32) : Int32) else (if (size - 1) ≤ was then (if now = (-1) then 1 else (if now = size then 1 else (if now = (size - 1) then 1 else 0 : Int32) : Int32) : Int32) else (if now = was then 1 else 0 : Int32) : Int32) : Int32)
theorem s_L_follows {X : Nat × (Nat × (Nat → Int32))} {I : Nat → Nat → Int32} {L : Nat → Nat → Int64} {F : Nat → Nat → UInt32} {Q : AQ} {was : Int32} {now : Int32} {size : Int32} (q : Q (.inl (some (.int (f_L_follows was now size)))) (G X I L F)) : WP mL_follows 0 (am_ent 3 [.int was, .int now, .int size]) [] (G X I L F) 0 0 Q := by
  unfold f_L_follows at q
  refine w_iload_n rL_follows_0 rfl ?_
  have j1 : ∀ s1_0 : Int32, s1_0 = (if was < 0 then (if now = (-1) then 1 else (if now = size then 1 else (if now = (size - 1) then 1 else 0 : Int32) : Int32) : Int32) else (if (size - 1) ≤ was then (if now = (-1) then 1 else (if now = size then 1 else (if now = (size - 1) then 1 else 0 : Int32) : Int32) : Int32) else (if now = was then 1 else 0 : Int32) : Int32) : Int32) → WP mL_follows 46 [some (.int was), some (.int now), some (.int size)] [.int s1_0] (G X I L F) 0 0 Q := by
    intro s1_0 es1_0
    subst es1_0
    skip
    refine w_ireturn rL_follows_46 (show (if was < 0 then (if now = (-1) then 1 else (if now = size then 1 else (if now = (size - 1) then 1 else 0 : Int32) : Int32) : Int32) else (if (size - 1) ≤ was then (if now = (-1) then 1 else (if now = size then 1 else (if now = (size - 1) then 1 else 0 : Int32) : Int32) : Int32) else (if now = was then 1 else 0 : Int32) : Int32) : Int32) = 0 ∨ (if was < 0 then (if now = (-1) then 1 else (if now = size then 1 else (if now = (size - 1) then 1 else 0 : Int32) : Int32) : Int32) else (if (size - 1) ≤ was then (if now = (-1) then 1 else (if now = size then 1 else (if now = (size - 1) then 1 else 0 : Int32) : Int32) : Int32) else (if now = was then 1 else 0 : Int32) : Int32) : Int32) = 1 from by repeat' first | refine b01_ite ?_ ?_ | exact Or.inl rfl | exact Or.inr rfl) ?_
    exact q
  refine w_iflt rL_follows_1 (fun h1 => ?_) (fun h1 => ?_)
  · skip
    refine w_iload_n rL_follows_24 rfl ?_
    refine w_iconst rL_follows_25 (x := -1) (by decide) ?_
    refine w_icmpeq rL_follows_26 (fun h26 => ?_) (fun h26 => ?_)
    · skip
      refine w_iconst rL_follows_41 (x := 1) (by decide) ?_
      refine w_goto rL_follows_42 ?_
      exact j1 _ ((if_pos h1).trans (if_pos h26)).symm
    · skip
      refine w_iload_n rL_follows_29 rfl ?_
      refine w_iload_n rL_follows_30 rfl ?_
      refine w_icmpeq rL_follows_31 (fun h31 => ?_) (fun h31 => ?_)
      · skip
        refine w_iconst rL_follows_41 (x := 1) (by decide) ?_
        refine w_goto rL_follows_42 ?_
        exact j1 _ (((if_pos h1).trans (if_neg h26)).trans (if_pos h31)).symm
      · skip
        refine w_iload_n rL_follows_34 rfl ?_
        refine w_iload_n rL_follows_35 rfl ?_
        refine w_iconst rL_follows_36 (x := 1) (by decide) ?_
        refine w_isub rL_follows_37 ?_
        refine w_icmpne rL_follows_38 (fun h38 => ?_) (fun h38 => ?_)
        · skip
          refine w_iconst rL_follows_45 (x := 0) (by decide) ?_
          exact j1 _ ((((if_pos h1).trans (if_neg h26)).trans (if_neg h31)).trans (if_neg h38)).symm
        · skip
          refine w_iconst rL_follows_41 (x := 1) (by decide) ?_
          refine w_goto rL_follows_42 ?_
          exact j1 _ ((((if_pos h1).trans (if_neg h26)).trans (if_neg h31)).trans (if_pos h38)).symm
  · skip
    refine w_iload_n rL_follows_4 rfl ?_
    refine w_iload_n rL_follows_5 rfl ?_
    refine w_iconst rL_follows_6 (x := 1) (by decide) ?_
    refine w_isub rL_follows_7 ?_
    refine w_icmpge rL_follows_8 (fun h8 => ?_) (fun h8 => ?_)
    · skip
      refine w_iload_n rL_follows_24 rfl ?_
      refine w_iconst rL_follows_25 (x := -1) (by decide) ?_
      refine w_icmpeq rL_follows_26 (fun h26 => ?_) (fun h26 => ?_)
      · skip
        refine w_iconst rL_follows_41 (x := 1) (by decide) ?_
        refine w_goto rL_follows_42 ?_
        exact j1 _ (((if_neg h1).trans (if_pos h8)).trans (if_pos h26)).symm
      · skip
        refine w_iload_n rL_follows_29 rfl ?_
        refine w_iload_n rL_follows_30 rfl ?_
        refine w_icmpeq rL_follows_31 (fun h31 => ?_) (fun h31 => ?_)
        · skip
          refine w_iconst rL_follows_41 (x := 1) (by decide) ?_
          refine w_goto rL_follows_42 ?_
          exact j1 _ ((((if_neg h1).trans (if_pos h8)).trans (if_neg h26)).trans (if_pos h31)).symm
        · skip
          refine w_iload_n rL_follows_34 rfl ?_
          refine w_iload_n rL_follows_35 rfl ?_
          refine w_iconst rL_follows_36 (x := 1) (by decide) ?_
          refine w_isub rL_follows_37 ?_
          refine w_icmpne rL_follows_38 (fun h38 => ?_) (fun h38 => ?_)
          · skip
            refine w_iconst rL_follows_45 (x := 0) (by decide) ?_
            exact j1 _ (((((if_neg h1).trans (if_pos h8)).trans (if_neg h26)).trans (if_neg h31)).trans (if_neg h38)).symm
          · skip
            refine w_iconst rL_follows_41 (x := 1) (by decide) ?_
            refine w_goto rL_follows_42 ?_
            exact j1 _ (((((if_neg h1).trans (if_pos h8)).trans (if_neg h26)).trans (if_neg h31)).trans (if_pos h38)).symm
    · skip
      refine w_iload_n rL_follows_11 rfl ?_
      refine w_iload_n rL_follows_12 rfl ?_
      refine w_icmpne rL_follows_13 (fun h13 => ?_) (fun h13 => ?_)
      · skip
        refine w_iconst rL_follows_20 (x := 0) (by decide) ?_
        refine w_goto rL_follows_21 ?_
        exact j1 _ (((if_neg h1).trans (if_neg h8)).trans (if_neg h13)).symm
      · skip
        refine w_iconst rL_follows_16 (x := 1) (by decide) ?_
        refine w_goto rL_follows_17 ?_
        exact j1 _ (((if_neg h1).trans (if_neg h8)).trans (if_pos h13)).symm
theorem b01_L_follows {was : Int32} {now : Int32} {size : Int32} : (f_L_follows was now size) = 0 ∨ (f_L_follows was now size) = 1 := by
  unfold f_L_follows
  repeat' first | refine b01_ite ?_ ?_ | exact Or.inl rfl | exact Or.inr rfl
def p_X0_letThrough (o : Nat) (hour : Int32) (inflow : UInt32) (asked : UInt32) (I : Nat → Nat → Int32) (F : Nat → Nat → UInt32) : Prop := vf_n32 (FP.fadd (F o 5) inflow) ∧ (vf_n32 (FP.fsub (FP.fadd (F o 5) inflow) (if 0 ≤ (Op.cmpValue (FP.fcmp asked 0) .g) then (if (Op.cmpValue (FP.fcmp asked (FP.fadd (F o 5) inflow)) .l) ≤ 0 then asked else (FP.fadd (F o 5) inflow) : UInt32) else 0 : UInt32)) ∧ (((¬ (Op.cmpValue (FP.fcmp (FP.fsub (FP.fadd (F o 5) inflow) (if 0 ≤ (Op.cmpValue (FP.fcmp asked 0) .g) then (if (Op.cmpValue (FP.fcmp asked (FP.fadd (F o 5) inflow)) .l) ≤ 0 then asked else (FP.fadd (F o 5) inflow) : UInt32) else 0 : UInt32)) (FP.i2f (I o 4))) .l) ≤ 0 → vf_n32 (FP.fsub (FP.fsub (FP.fadd (F o 5) inflow) (if 0 ≤ (Op.cmpValue (FP.fcmp asked 0) .g) then (if (Op.cmpValue (FP.fcmp asked (FP.fadd (F o 5) inflow)) .l) ≤ 0 then asked else (FP.fadd (F o 5) inflow) : UInt32) else 0 : UInt32)) (FP.i2f (I o 4))) ∧ (True))) ∧ (vf_n32 (FP.fsub (FP.fsub (FP.fadd (F o 5) inflow) (if 0 ≤ (Op.cmpValue (FP.fcmp asked 0) .g) then (if (Op.cmpValue (FP.fcmp asked (FP.fadd (F o 5) inflow)) .l) ≤ 0 then asked else (FP.fadd (F o 5) inflow) : UInt32) else 0 : UInt32)) (if (Op.cmpValue (FP.fcmp (FP.fsub (FP.fadd (F o 5) inflow) (if 0 ≤ (Op.cmpValue (FP.fcmp asked 0) .g) then (if (Op.cmpValue (FP.fcmp asked (FP.fadd (F o 5) inflow)) .l) ≤ 0 then asked else (FP.fadd (F o 5) inflow) : UInt32) else 0 : UInt32)) (FP.i2f (I o 4))) .l) ≤ 0 then 0 else (FP.fsub (FP.fsub (FP.fadd (F o 5) inflow) (if 0 ≤ (Op.cmpValue (FP.fcmp asked 0) .g) then (if (Op.cmpValue (FP.fcmp asked (FP.fadd (F o 5) inflow)) .l) ≤ 0 then asked else (FP.fadd (F o 5) inflow) : UInt32) else 0 : UInt32)) (FP.i2f (I o 4))) : UInt32)) ∧ (((¬ (f_X9_isHour hour) = 0 → vf_n32 (FP.fadd (if 0 ≤ (Op.cmpValue (FP.fcmp asked 0) .g) then (if (Op.cmpValue (FP.fcmp asked (FP.fadd (F o 5) inflow)) .l) ≤ 0 then asked else (FP.fadd (F o 5) inflow) : UInt32) else 0 : UInt32) (if (Op.cmpValue (FP.fcmp (FP.fsub (FP.fadd (F o 5) inflow) (if 0 ≤ (Op.cmpValue (FP.fcmp asked 0) .g) then (if (Op.cmpValue (FP.fcmp asked (FP.fadd (F o 5) inflow)) .l) ≤ 0 then asked else (FP.fadd (F o 5) inflow) : UInt32) else 0 : UInt32)) (FP.i2f (I o 4))) .l) ≤ 0 then 0 else (FP.fsub (FP.fsub (FP.fadd (F o 5) inflow) (if 0 ≤ (Op.cmpValue (FP.fcmp asked 0) .g) then (if (Op.cmpValue (FP.fcmp asked (FP.fadd (F o 5) inflow)) .l) ≤ 0 then asked else (FP.fadd (F o 5) inflow) : UInt32) else 0 : UInt32)) (FP.i2f (I o 4))) : UInt32)) ∧ (True))) ∧ (True)))))
def fF_X0_letThrough (o : Nat) (hour : Int32) (inflow : UInt32) (asked : UInt32) (I : Nat → Nat → Int32) (F : Nat → Nat → UInt32) : Nat → Nat → UInt32 := (if (f_X9_isHour hour) = 0 then (am_u F o 5 (FP.fsub (FP.fsub (FP.fadd (F o 5) inflow) (if 0 ≤ (Op.cmpValue (FP.fcmp asked 0) .g) then (if (Op.cmpValue (FP.fcmp asked (FP.fadd (F o 5) inflow)) .l) ≤ 0 then asked else (FP.fadd (F o 5) inflow) : UInt32) else 0 : UInt32)) (if (Op.cmpValue (FP.fcmp (FP.fsub (FP.fadd (F o 5) inflow) (if 0 ≤ (Op.cmpValue (FP.fcmp asked 0) .g) then (if (Op.cmpValue (FP.fcmp asked (FP.fadd (F o 5) inflow)) .l) ≤ 0 then asked else (FP.fadd (F o 5) inflow) : UInt32) else 0 : UInt32)) (FP.i2f (I o 4))) .l) ≤ 0 then 0 else (FP.fsub (FP.fsub (FP.fadd (F o 5) inflow) (if 0 ≤ (Op.cmpValue (FP.fcmp asked 0) .g) then (if (Op.cmpValue (FP.fcmp asked (FP.fadd (F o 5) inflow)) .l) ≤ 0 then asked else (FP.fadd (F o 5) inflow) : UInt32) else 0 : UInt32)) (FP.i2f (I o 4))) : UInt32))) else (am_u (am_u F o 5 (FP.fsub (FP.fsub (FP.fadd (F o 5) inflow) (if 0 ≤ (Op.cmpValue (FP.fcmp asked 0) .g) then (if (Op.cmpValue (FP.fcmp asked (FP.fadd (F o 5) inflow)) .l) ≤ 0 then asked else (FP.fadd (F o 5) inflow) : UInt32) else 0 : UInt32)) (if (Op.cmpValue (FP.fcmp (FP.fsub (FP.fadd (F o 5) inflow) (if 0 ≤ (Op.cmpValue (FP.fcmp asked 0) .g) then (if (Op.cmpValue (FP.fcmp asked (FP.fadd (F o 5) inflow)) .l) ≤ 0 then asked else (FP.fadd (F o 5) inflow) : UInt32) else 0 : UInt32)) (FP.i2f (I o 4))) .l) ≤ 0 then 0 else (FP.fsub (FP.fsub (FP.fadd (F o 5) inflow) (if 0 ≤ (Op.cmpValue (FP.fcmp asked 0) .g) then (if (Op.cmpValue (FP.fcmp asked (FP.fadd (F o 5) inflow)) .l) ≤ 0 then asked else (FP.fadd (F o 5) inflow) : UInt32) else 0 : UInt32)) (FP.i2f (I o 4))) : UInt32))) (o + 4) (Int32.toNatClampNeg hour) (FP.fadd (if 0 ≤ (Op.cmpValue (FP.fcmp asked 0) .g) then (if (Op.cmpValue (FP.fcmp asked (FP.fadd (F o 5) inflow)) .l) ≤ 0 then asked else (FP.fadd (F o 5) inflow) : UInt32) else 0 : UInt32) (if (Op.cmpValue (FP.fcmp (FP.fsub (FP.fadd (F o 5) inflow) (if 0 ≤ (Op.cmpValue (FP.fcmp asked 0) .g) then (if (Op.cmpValue (FP.fcmp asked (FP.fadd (F o 5) inflow)) .l) ≤ 0 then asked else (FP.fadd (F o 5) inflow) : UInt32) else 0 : UInt32)) (FP.i2f (I o 4))) .l) ≤ 0 then 0 else (FP.fsub (FP.fsub (FP.fadd (F o 5) inflow) (if 0 ≤ (Op.cmpValue (FP.fcmp asked 0) .g) then (if (Op.cmpValue (FP.fcmp asked (FP.fadd (F o 5) inflow)) .l) ≤ 0 then asked else (FP.fadd (F o 5) inflow) : UInt32) else 0 : UInt32)) (FP.i2f (I o 4))) : UInt32))) : Nat → Nat → UInt32)
theorem s_X0_letThrough {X : Nat × (Nat × (Nat → Int32))} {I : Nat → Nat → Int32} {L : Nat → Nat → Int64} {F : Nat → Nat → UInt32} {Q : AQ} {o : Nat} {hour : Int32} {inflow : UInt32} {asked : UInt32} (ho : isDam o) (p : (p_X0_letThrough o hour inflow asked I F)) (q : Q (.inl none) (G X I L (fF_X0_letThrough o hour inflow asked I F))) : WP mX0_letThrough 0 (am_ent 8 [.ref o, .int hour, .float inflow, .float asked]) [] (G X I L F) 0 0 Q := by
  unfold fF_X0_letThrough at q
  unfold p_X0_letThrough at p
  have q0 := q
  clear q
  have q : vf_n32 (FP.fadd (F o 5) inflow) ∧ (vf_n32 (FP.fsub (FP.fadd (F o 5) inflow) (if 0 ≤ (Op.cmpValue (FP.fcmp asked 0) .g) then (if (Op.cmpValue (FP.fcmp asked (FP.fadd (F o 5) inflow)) .l) ≤ 0 then asked else (FP.fadd (F o 5) inflow) : UInt32) else 0 : UInt32)) ∧ (((¬ (Op.cmpValue (FP.fcmp (FP.fsub (FP.fadd (F o 5) inflow) (if 0 ≤ (Op.cmpValue (FP.fcmp asked 0) .g) then (if (Op.cmpValue (FP.fcmp asked (FP.fadd (F o 5) inflow)) .l) ≤ 0 then asked else (FP.fadd (F o 5) inflow) : UInt32) else 0 : UInt32)) (FP.i2f (I o 4))) .l) ≤ 0 → vf_n32 (FP.fsub (FP.fsub (FP.fadd (F o 5) inflow) (if 0 ≤ (Op.cmpValue (FP.fcmp asked 0) .g) then (if (Op.cmpValue (FP.fcmp asked (FP.fadd (F o 5) inflow)) .l) ≤ 0 then asked else (FP.fadd (F o 5) inflow) : UInt32) else 0 : UInt32)) (FP.i2f (I o 4))) ∧ (True))) ∧ (vf_n32 (FP.fsub (FP.fsub (FP.fadd (F o 5) inflow) (if 0 ≤ (Op.cmpValue (FP.fcmp asked 0) .g) then (if (Op.cmpValue (FP.fcmp asked (FP.fadd (F o 5) inflow)) .l) ≤ 0 then asked else (FP.fadd (F o 5) inflow) : UInt32) else 0 : UInt32)) (if (Op.cmpValue (FP.fcmp (FP.fsub (FP.fadd (F o 5) inflow) (if 0 ≤ (Op.cmpValue (FP.fcmp asked 0) .g) then (if (Op.cmpValue (FP.fcmp asked (FP.fadd (F o 5) inflow)) .l) ≤ 0 then asked else (FP.fadd (F o 5) inflow) : UInt32) else 0 : UInt32)) (FP.i2f (I o 4))) .l) ≤ 0 then 0 else (FP.fsub (FP.fsub (FP.fadd (F o 5) inflow) (if 0 ≤ (Op.cmpValue (FP.fcmp asked 0) .g) then (if (Op.cmpValue (FP.fcmp asked (FP.fadd (F o 5) inflow)) .l) ≤ 0 then asked else (FP.fadd (F o 5) inflow) : UInt32) else 0 : UInt32)) (FP.i2f (I o 4))) : UInt32)) ∧ (((¬ (f_X9_isHour hour) = 0 → vf_n32 (FP.fadd (if 0 ≤ (Op.cmpValue (FP.fcmp asked 0) .g) then (if (Op.cmpValue (FP.fcmp asked (FP.fadd (F o 5) inflow)) .l) ≤ 0 then asked else (FP.fadd (F o 5) inflow) : UInt32) else 0 : UInt32) (if (Op.cmpValue (FP.fcmp (FP.fsub (FP.fadd (F o 5) inflow) (if 0 ≤ (Op.cmpValue (FP.fcmp asked 0) .g) then (if (Op.cmpValue (FP.fcmp asked (FP.fadd (F o 5) inflow)) .l) ≤ 0 then asked else (FP.fadd (F o 5) inflow) : UInt32) else 0 : UInt32)) (FP.i2f (I o 4))) .l) ≤ 0 then 0 else (FP.fsub (FP.fsub (FP.fadd (F o 5) inflow) (if 0 ≤ (Op.cmpValue (FP.fcmp asked 0) .g) then (if (Op.cmpValue (FP.fcmp asked (FP.fadd (F o 5) inflow)) .l) ≤ 0 then asked else (FP.fadd (F o 5) inflow) : UInt32) else 0 : UInt32)) (FP.i2f (I o 4))) : UInt32)) ∧ (True))) ∧ (Q (.inl none) (G X I L (if (f_X9_isHour hour) = 0 then (am_u F o 5 (FP.fsub (FP.fsub (FP.fadd (F o 5) inflow) (if 0 ≤ (Op.cmpValue (FP.fcmp asked 0) .g) then (if (Op.cmpValue (FP.fcmp asked (FP.fadd (F o 5) inflow)) .l) ≤ 0 then asked else (FP.fadd (F o 5) inflow) : UInt32) else 0 : UInt32)) (if (Op.cmpValue (FP.fcmp (FP.fsub (FP.fadd (F o 5) inflow) (if 0 ≤ (Op.cmpValue (FP.fcmp asked 0) .g) then (if (Op.cmpValue (FP.fcmp asked (FP.fadd (F o 5) inflow)) .l) ≤ 0 then asked else (FP.fadd (F o 5) inflow) : UInt32) else 0 : UInt32)) (FP.i2f (I o 4))) .l) ≤ 0 then 0 else (FP.fsub (FP.fsub (FP.fadd (F o 5) inflow) (if 0 ≤ (Op.cmpValue (FP.fcmp asked 0) .g) then (if (Op.cmpValue (FP.fcmp asked (FP.fadd (F o 5) inflow)) .l) ≤ 0 then asked else (FP.fadd (F o 5) inflow) : UInt32) else 0 : UInt32)) (FP.i2f (I o 4))) : UInt32))) else (am_u (am_u F o 5 (FP.fsub (FP.fsub (FP.fadd (F o 5) inflow) (if 0 ≤ (Op.cmpValue (FP.fcmp asked 0) .g) then (if (Op.cmpValue (FP.fcmp asked (FP.fadd (F o 5) inflow)) .l) ≤ 0 then asked else (FP.fadd (F o 5) inflow) : UInt32) else 0 : UInt32)) (if (Op.cmpValue (FP.fcmp (FP.fsub (FP.fadd (F o 5) inflow) (if 0 ≤ (Op.cmpValue (FP.fcmp asked 0) .g) then (if (Op.cmpValue (FP.fcmp asked (FP.fadd (F o 5) inflow)) .l) ≤ 0 then asked else (FP.fadd (F o 5) inflow) : UInt32) else 0 : UInt32)) (FP.i2f (I o 4))) .l) ≤ 0 then 0 else (FP.fsub (FP.fsub (FP.fadd (F o 5) inflow) (if 0 ≤ (Op.cmpValue (FP.fcmp asked 0) .g) then (if (Op.cmpValue (FP.fcmp asked (FP.fadd (F o 5) inflow)) .l) ≤ 0 then asked else (FP.fadd (F o 5) inflow) : UInt32) else 0 : UInt32)) (FP.i2f (I o 4))) : UInt32))) (o + 4) (Int32.toNatClampNeg hour) (FP.fadd (if 0 ≤ (Op.cmpValue (FP.fcmp asked 0) .g) then (if (Op.cmpValue (FP.fcmp asked (FP.fadd (F o 5) inflow)) .l) ≤ 0 then asked else (FP.fadd (F o 5) inflow) : UInt32) else 0 : UInt32) (if (Op.cmpValue (FP.fcmp (FP.fsub (FP.fadd (F o 5) inflow) (if 0 ≤ (Op.cmpValue (FP.fcmp asked 0) .g) then (if (Op.cmpValue (FP.fcmp asked (FP.fadd (F o 5) inflow)) .l) ≤ 0 then asked else (FP.fadd (F o 5) inflow) : UInt32) else 0 : UInt32)) (FP.i2f (I o 4))) .l) ≤ 0 then 0 else (FP.fsub (FP.fsub (FP.fadd (F o 5) inflow) (if 0 ≤ (Op.cmpValue (FP.fcmp asked 0) .g) then (if (Op.cmpValue (FP.fcmp asked (FP.fadd (F o 5) inflow)) .l) ≤ 0 then asked else (FP.fadd (F o 5) inflow) : UInt32) else 0 : UInt32)) (FP.i2f (I o 4))) : UInt32))) : Nat → Nat → UInt32))))))) := by
    exact ⟨p.1, p.2.1, p.2.2.1, p.2.2.2.1, p.2.2.2.2.1, q0⟩
  clear p q0
  refine w_aload_n rX0_letThrough_0 rfl ?_
  refine x_getF rX0_letThrough_1 rfl rfl (G_isk ho.1) ?_
  refine w_fload_n rX0_letThrough_4 rfl ?_
  refine w_fadd rX0_letThrough_5 q.1 ?_
  replace q := q.2
  refine w_fstore rX0_letThrough_6 rfl trivial ?_
  refine w_fload_n rX0_letThrough_8 rfl ?_
  refine w_fconst rX0_letThrough_9 (x := 0) rfl ?_
  refine w_fcmp rX0_letThrough_10 ?_
  have j11 : ∀ s11_0 : UInt32, s11_0 = (if 0 ≤ (Op.cmpValue (FP.fcmp asked 0) .g) then (if (Op.cmpValue (FP.fcmp asked (FP.fadd (F o 5) inflow)) .l) ≤ 0 then asked else (FP.fadd (F o 5) inflow) : UInt32) else 0 : UInt32) → WP mX0_letThrough 31 [some (.ref o), some (.int hour), some (.float inflow), some (.float asked), some (.float (FP.fadd (F o 5) inflow)), none, none, none] [.float s11_0] (G X I L F) 0 0 Q := by
    intro s11_0 es11_0
    subst es11_0
    skip
    refine w_fstore rX0_letThrough_31 rfl trivial ?_
    refine w_fload rX0_letThrough_33 rfl ?_
    refine w_fload rX0_letThrough_35 rfl ?_
    refine w_fsub rX0_letThrough_37 q.1 ?_
    replace q := q.2
    refine w_fstore rX0_letThrough_38 rfl trivial ?_
    refine w_fload rX0_letThrough_40 rfl ?_
    refine w_aload_n rX0_letThrough_42 rfl ?_
    refine x_getI rX0_letThrough_43 rfl rfl (G_isk ho.1) ?_
    refine w_i2f rX0_letThrough_46 ?_
    refine w_fcmp rX0_letThrough_47 ?_
    have j48 : ∀ s48_0 : UInt32, s48_0 = (if (Op.cmpValue (FP.fcmp (FP.fsub (FP.fadd (F o 5) inflow) (if 0 ≤ (Op.cmpValue (FP.fcmp asked 0) .g) then (if (Op.cmpValue (FP.fcmp asked (FP.fadd (F o 5) inflow)) .l) ≤ 0 then asked else (FP.fadd (F o 5) inflow) : UInt32) else 0 : UInt32)) (FP.i2f (I o 4))) .l) ≤ 0 then 0 else (FP.fsub (FP.fsub (FP.fadd (F o 5) inflow) (if 0 ≤ (Op.cmpValue (FP.fcmp asked 0) .g) then (if (Op.cmpValue (FP.fcmp asked (FP.fadd (F o 5) inflow)) .l) ≤ 0 then asked else (FP.fadd (F o 5) inflow) : UInt32) else 0 : UInt32)) (FP.i2f (I o 4))) : UInt32) → WP mX0_letThrough 63 [some (.ref o), some (.int hour), some (.float inflow), some (.float asked), some (.float (FP.fadd (F o 5) inflow)), some (.float (if 0 ≤ (Op.cmpValue (FP.fcmp asked 0) .g) then (if (Op.cmpValue (FP.fcmp asked (FP.fadd (F o 5) inflow)) .l) ≤ 0 then asked else (FP.fadd (F o 5) inflow) : UInt32) else 0 : UInt32)), some (.float (FP.fsub (FP.fadd (F o 5) inflow) (if 0 ≤ (Op.cmpValue (FP.fcmp asked 0) .g) then (if (Op.cmpValue (FP.fcmp asked (FP.fadd (F o 5) inflow)) .l) ≤ 0 then asked else (FP.fadd (F o 5) inflow) : UInt32) else 0 : UInt32))), none] [.float s48_0] (G X I L F) 0 0 Q := by
      intro s48_0 es48_0
      subst es48_0
      skip
      replace q := q.2
      refine w_fstore rX0_letThrough_63 rfl trivial ?_
      refine w_aload_n rX0_letThrough_65 rfl ?_
      refine w_fload rX0_letThrough_66 rfl ?_
      refine w_fload rX0_letThrough_68 rfl ?_
      refine w_fsub rX0_letThrough_70 q.1 ?_
      replace q := q.2
      refine x_putF rX0_letThrough_71 rfl (G_isk ho.1) ?_
      refine w_iload_n rX0_letThrough_74 rfl ?_
      refine w_invokestatic rX0_letThrough_75 rfl rfl rfl (Nat.le_of_ble_eq_true rfl) ⟨trivial, trivial⟩ trivial (by decide) (by decide) ?_
      refine s_X9_isHour ?_
      show WP mX0_letThrough 78 _ _ _ 0 0 _
      have j78 : ∀ F78 : Nat → Nat → UInt32, F78 = (if (f_X9_isHour hour) = 0 then (am_u F o 5 (FP.fsub (FP.fsub (FP.fadd (F o 5) inflow) (if 0 ≤ (Op.cmpValue (FP.fcmp asked 0) .g) then (if (Op.cmpValue (FP.fcmp asked (FP.fadd (F o 5) inflow)) .l) ≤ 0 then asked else (FP.fadd (F o 5) inflow) : UInt32) else 0 : UInt32)) (if (Op.cmpValue (FP.fcmp (FP.fsub (FP.fadd (F o 5) inflow) (if 0 ≤ (Op.cmpValue (FP.fcmp asked 0) .g) then (if (Op.cmpValue (FP.fcmp asked (FP.fadd (F o 5) inflow)) .l) ≤ 0 then asked else (FP.fadd (F o 5) inflow) : UInt32) else 0 : UInt32)) (FP.i2f (I o 4))) .l) ≤ 0 then 0 else (FP.fsub (FP.fsub (FP.fadd (F o 5) inflow) (if 0 ≤ (Op.cmpValue (FP.fcmp asked 0) .g) then (if (Op.cmpValue (FP.fcmp asked (FP.fadd (F o 5) inflow)) .l) ≤ 0 then asked else (FP.fadd (F o 5) inflow) : UInt32) else 0 : UInt32)) (FP.i2f (I o 4))) : UInt32))) else (am_u (am_u F o 5 (FP.fsub (FP.fsub (FP.fadd (F o 5) inflow) (if 0 ≤ (Op.cmpValue (FP.fcmp asked 0) .g) then (if (Op.cmpValue (FP.fcmp asked (FP.fadd (F o 5) inflow)) .l) ≤ 0 then asked else (FP.fadd (F o 5) inflow) : UInt32) else 0 : UInt32)) (if (Op.cmpValue (FP.fcmp (FP.fsub (FP.fadd (F o 5) inflow) (if 0 ≤ (Op.cmpValue (FP.fcmp asked 0) .g) then (if (Op.cmpValue (FP.fcmp asked (FP.fadd (F o 5) inflow)) .l) ≤ 0 then asked else (FP.fadd (F o 5) inflow) : UInt32) else 0 : UInt32)) (FP.i2f (I o 4))) .l) ≤ 0 then 0 else (FP.fsub (FP.fsub (FP.fadd (F o 5) inflow) (if 0 ≤ (Op.cmpValue (FP.fcmp asked 0) .g) then (if (Op.cmpValue (FP.fcmp asked (FP.fadd (F o 5) inflow)) .l) ≤ 0 then asked else (FP.fadd (F o 5) inflow) : UInt32) else 0 : UInt32)) (FP.i2f (I o 4))) : UInt32))) (o + 4) (Int32.toNatClampNeg hour) (FP.fadd (if 0 ≤ (Op.cmpValue (FP.fcmp asked 0) .g) then (if (Op.cmpValue (FP.fcmp asked (FP.fadd (F o 5) inflow)) .l) ≤ 0 then asked else (FP.fadd (F o 5) inflow) : UInt32) else 0 : UInt32) (if (Op.cmpValue (FP.fcmp (FP.fsub (FP.fadd (F o 5) inflow) (if 0 ≤ (Op.cmpValue (FP.fcmp asked 0) .g) then (if (Op.cmpValue (FP.fcmp asked (FP.fadd (F o 5) inflow)) .l) ≤ 0 then asked else (FP.fadd (F o 5) inflow) : UInt32) else 0 : UInt32)) (FP.i2f (I o 4))) .l) ≤ 0 then 0 else (FP.fsub (FP.fsub (FP.fadd (F o 5) inflow) (if 0 ≤ (Op.cmpValue (FP.fcmp asked 0) .g) then (if (Op.cmpValue (FP.fcmp asked (FP.fadd (F o 5) inflow)) .l) ≤ 0 then asked else (FP.fadd (F o 5) inflow) : UInt32) else 0 : UInt32)) (FP.i2f (I o 4))) : UInt32))) : Nat → Nat → UInt32) → WP mX0_letThrough 92 [some (.ref o), some (.int hour), some (.float inflow), some (.float asked), some (.float (FP.fadd (F o 5) inflow)), some (.float (if 0 ≤ (Op.cmpValue (FP.fcmp asked 0) .g) then (if (Op.cmpValue (FP.fcmp asked (FP.fadd (F o 5) inflow)) .l) ≤ 0 then asked else (FP.fadd (F o 5) inflow) : UInt32) else 0 : UInt32)), some (.float (FP.fsub (FP.fadd (F o 5) inflow) (if 0 ≤ (Op.cmpValue (FP.fcmp asked 0) .g) then (if (Op.cmpValue (FP.fcmp asked (FP.fadd (F o 5) inflow)) .l) ≤ 0 then asked else (FP.fadd (F o 5) inflow) : UInt32) else 0 : UInt32))), some (.float (if (Op.cmpValue (FP.fcmp (FP.fsub (FP.fadd (F o 5) inflow) (if 0 ≤ (Op.cmpValue (FP.fcmp asked 0) .g) then (if (Op.cmpValue (FP.fcmp asked (FP.fadd (F o 5) inflow)) .l) ≤ 0 then asked else (FP.fadd (F o 5) inflow) : UInt32) else 0 : UInt32)) (FP.i2f (I o 4))) .l) ≤ 0 then 0 else (FP.fsub (FP.fsub (FP.fadd (F o 5) inflow) (if 0 ≤ (Op.cmpValue (FP.fcmp asked 0) .g) then (if (Op.cmpValue (FP.fcmp asked (FP.fadd (F o 5) inflow)) .l) ≤ 0 then asked else (FP.fadd (F o 5) inflow) : UInt32) else 0 : UInt32)) (FP.i2f (I o 4))) : UInt32))] [] (G X I L F78) 0 0 Q := by
        intro F78 eF78
        subst eF78
        skip
        replace q := q.2
        refine w_return rX0_letThrough_92 ?_
        exact q
      replace q := q.1
      refine w_ifeq rX0_letThrough_78 (fun h78 => ?_) (fun h78 => ?_)
      · skip
        exact j78 _ (if_pos h78).symm
      · replace q := q h78
        refine w_aload_n rX0_letThrough_81 rfl ?_
        refine w_getR rX0_letThrough_82 rfl rfl (G_isk ho.1) ho.2.2.1 ?_
        refine w_iload_n rX0_letThrough_85 rfl ?_
        refine w_fload rX0_letThrough_86 rfl ?_
        refine w_fload rX0_letThrough_88 rfl ?_
        refine w_fadd rX0_letThrough_90 q.1 ?_
        replace q := q.2
        refine x_fastore rX0_letThrough_91 (G_atk ho.2.2.2.2 (gd_X9_isHour h78)) ?_
        exact j78 _ (if_neg h78).symm
    replace q := q.1
    refine w_ifle rX0_letThrough_48 (fun h48 => ?_) (fun h48 => ?_)
    · skip
      refine w_fconst rX0_letThrough_62 (x := 0) rfl ?_
      exact j48 _ (if_pos h48).symm
    · replace q := q h48
      refine w_fload rX0_letThrough_51 rfl ?_
      refine w_aload_n rX0_letThrough_53 rfl ?_
      refine x_getI rX0_letThrough_54 rfl rfl (G_isk ho.1) ?_
      refine w_i2f rX0_letThrough_57 ?_
      refine w_fsub rX0_letThrough_58 q.1 ?_
      replace q := q.2
      refine w_goto rX0_letThrough_59 ?_
      exact j48 _ (if_neg h48).symm
  refine w_ifge rX0_letThrough_11 (fun h11 => ?_) (fun h11 => ?_)
  · skip
    refine w_fload_n rX0_letThrough_18 rfl ?_
    refine w_fload rX0_letThrough_19 rfl ?_
    refine w_fcmp rX0_letThrough_21 ?_
    refine w_ifle rX0_letThrough_22 (fun h22 => ?_) (fun h22 => ?_)
    · skip
      refine w_fload_n rX0_letThrough_30 rfl ?_
      exact j11 _ ((if_pos h11).trans (if_pos h22)).symm
    · skip
      refine w_fload rX0_letThrough_25 rfl ?_
      refine w_goto rX0_letThrough_27 ?_
      exact j11 _ ((if_pos h11).trans (if_neg h22)).symm
  · skip
    refine w_fconst rX0_letThrough_14 (x := 0) rfl ?_
    refine w_goto rX0_letThrough_15 ?_
    exact j11 _ (if_neg h11).symm
def f_X3_startsFunction (kind : Int32) (commas : Int32) (I : Nat → Nat → Int32) : Int32 := (f_X3_hold kind commas (am_u I 3 4 5))
def fI_X3_startsFunction (kind : Int32) (commas : Int32) (I : Nat → Nat → Int32) : Nat → Nat → Int32 := (fI_X3_hold kind commas (am_u I 3 4 5))
theorem s_X3_startsFunction {X : Nat × (Nat × (Nat → Int32))} {I : Nat → Nat → Int32} {L : Nat → Nat → Int64} {F : Nat → Nat → UInt32} {Q : AQ} {kind : Int32} {commas : Int32} (q : Q (.inl (some (.int (f_X3_startsFunction kind commas I)))) (G X (fI_X3_startsFunction kind commas I) L F)) : WP mX3_startsFunction 0 (am_ent 3 [.ref 3, .int kind, .int commas]) [] (G X I L F) 0 0 Q := by
  unfold f_X3_startsFunction fI_X3_startsFunction at q
  refine w_aload_n rX3_startsFunction_0 rfl ?_
  refine w_iconst rX3_startsFunction_1 (x := 5) (by decide) ?_
  refine x_putI rX3_startsFunction_2 rfl (G_is (by decide) rfl) trivial ?_
  refine w_aload_n rX3_startsFunction_5 rfl ?_
  refine w_iload_n rX3_startsFunction_6 rfl ?_
  refine w_iload_n rX3_startsFunction_7 rfl ?_
  refine w_invokevirtual rX3_startsFunction_8 rfl rfl rfl (Nat.le_of_ble_eq_true rfl) ⟨trivial, trivial, trivial, trivial⟩ (G_is (by decide) rfl) (by decide) (by decide) ?_
  refine s_X3_hold ?_
  show WP mX3_startsFunction 11 _ _ _ 0 0 _
  refine w_ireturn rX3_startsFunction_11 b01_X3_hold ?_
  exact q
theorem b01_X3_startsFunction {kind : Int32} {commas : Int32} {I : Nat → Nat → Int32} : (f_X3_startsFunction kind commas I) = 0 ∨ (f_X3_startsFunction kind commas I) = 1 := by
  unfold f_X3_startsFunction
  repeat' first | refine b01_ite ?_ ?_ | exact Or.inl rfl | exact Or.inr rfl | exact b01_X3_hold
def p_X4_operate (kind : Int32) (I : Nat → Nat → Int32) (F : Nat → Nat → UInt32) : Prop := (p_X4_take I) ∧ (((kind = 6 → vf_n32 (FP.fsub 0 (f_X4_take I F)) ∧ (True)) ∧ (¬ kind = 6 → (kind = 7 → (p_X4_take (fI_X4_take I)) ∧ ((p_X4_join kind (f_X4_take (fI_X4_take I) F) (f_X4_take I F)) ∧ (True))) ∧ (¬ kind = 7 → (kind = 8 → (p_X4_take (fI_X4_take I)) ∧ ((p_X4_join kind (f_X4_take (fI_X4_take I) F) (f_X4_take I F)) ∧ (True))) ∧ (¬ kind = 8 → (kind = 9 → (p_X4_take (fI_X4_take I)) ∧ ((p_X4_take (fI_X4_take (fI_X4_take I))) ∧ (True))) ∧ (¬ kind = 9 → (¬ kind = 10 → (kind = 11 → ((¬ 0 ≤ (Op.cmpValue (FP.fcmp (f_X4_take I F) 0) .g) → vf_n32 (FP.fsub 0 (f_X4_take I F)) ∧ (True))) ∧ (True)) ∧ (¬ kind = 11 → (p_X4_take (fI_X4_take I)) ∧ ((p_X4_join kind (f_X4_take (fI_X4_take I) F) (f_X4_take I F)) ∧ (True))))))))) ∧ (True))
def fI_X4_operate (kind : Int32) (I : Nat → Nat → Int32) (F : Nat → Nat → UInt32) : Nat → Nat → Int32 := (if kind = 6 then (fI_X4_keep (FP.fsub 0 (f_X4_take I F)) (fI_X4_take I)) else (if kind = 7 then (fI_X4_keep (f_X4_join kind (f_X4_take (fI_X4_take I) F) (f_X4_take I F)) (fI_X4_take (fI_X4_take I))) else (if kind = 8 then (fI_X4_keep (f_X4_join kind (f_X4_take (fI_X4_take I) F) (f_X4_take I F)) (fI_X4_take (fI_X4_take I))) else (if kind = 9 then (fI_X4_keep (if (Op.cmpValue (FP.fcmp (f_X4_take (fI_X4_take (fI_X4_take I)) F) 0) .l) ≤ 0 then (f_X4_take I F) else (f_X4_take (fI_X4_take I) F) : UInt32) (fI_X4_take (fI_X4_take (fI_X4_take I)))) else (if kind = 10 then (fI_X4_keep (FP.i2f (FP.f2i (f_X4_take I F))) (fI_X4_take I)) else (if kind = 11 then (fI_X4_keep (if 0 ≤ (Op.cmpValue (FP.fcmp (f_X4_take I F) 0) .g) then (f_X4_take I F) else (FP.fsub 0 (f_X4_take I F)) : UInt32) (fI_X4_take I)) else (fI_X4_keep (f_X4_join kind (f_X4_take (fI_X4_take I) F) (f_X4_take I F)) (fI_X4_take (fI_X4_take I))) : Nat → Nat → Int32) : Nat → Nat → Int32) : Nat → Nat → Int32) : Nat → Nat → Int32) : Nat → Nat → Int32) : Nat → Nat → Int32)
def fF_X4_operate (kind : Int32) (I : Nat → Nat → Int32) (F : Nat → Nat → UInt32) : Nat → Nat → UInt32 := (if kind = 6 then (fF_X4_keep (FP.fsub 0 (f_X4_take I F)) (fI_X4_take I) F) else (if kind = 7 then (fF_X4_keep (f_X4_join kind (f_X4_take (fI_X4_take I) F) (f_X4_take I F)) (fI_X4_take (fI_X4_take I)) F) else (if kind = 8 then (fF_X4_keep (f_X4_join kind (f_X4_take (fI_X4_take I) F) (f_X4_take I F)) (fI_X4_take (fI_X4_take I)) F) else (if kind = 9 then (fF_X4_keep (if (Op.cmpValue (FP.fcmp (f_X4_take (fI_X4_take (fI_X4_take I)) F) 0) .l) ≤ 0 then (f_X4_take I F) else (f_X4_take (fI_X4_take I) F) : UInt32) (fI_X4_take (fI_X4_take (fI_X4_take I))) F) else (if kind = 10 then (fF_X4_keep (FP.i2f (FP.f2i (f_X4_take I F))) (fI_X4_take I) F) else (if kind = 11 then (fF_X4_keep (if 0 ≤ (Op.cmpValue (FP.fcmp (f_X4_take I F) 0) .g) then (f_X4_take I F) else (FP.fsub 0 (f_X4_take I F)) : UInt32) (fI_X4_take I) F) else (fF_X4_keep (f_X4_join kind (f_X4_take (fI_X4_take I) F) (f_X4_take I F)) (fI_X4_take (fI_X4_take I)) F) : Nat → Nat → UInt32) : Nat → Nat → UInt32) : Nat → Nat → UInt32) : Nat → Nat → UInt32) : Nat → Nat → UInt32) : Nat → Nat → UInt32)
theorem s_X4_operate {X : Nat × (Nat × (Nat → Int32))} {I : Nat → Nat → Int32} {L : Nat → Nat → Int64} {F : Nat → Nat → UInt32} {Q : AQ} {kind : Int32} (p : (p_X4_operate kind I F)) (q : Q (.inl none) (G X (fI_X4_operate kind I F) L (fF_X4_operate kind I F))) : WP mX4_operate 0 (am_ent 4 [.ref 10, .int kind]) [] (G X I L F) 0 0 Q := by
  unfold fI_X4_operate fF_X4_operate at q
  unfold p_X4_operate at p
  have q0 := q
  clear q
  have q : (p_X4_take I) ∧ (((kind = 6 → vf_n32 (FP.fsub 0 (f_X4_take I F)) ∧ (True)) ∧ (¬ kind = 6 → (kind = 7 → (p_X4_take (fI_X4_take I)) ∧ ((p_X4_join kind (f_X4_take (fI_X4_take I) F) (f_X4_take I F)) ∧ (True))) ∧ (¬ kind = 7 → (kind = 8 → (p_X4_take (fI_X4_take I)) ∧ ((p_X4_join kind (f_X4_take (fI_X4_take I) F) (f_X4_take I F)) ∧ (True))) ∧ (¬ kind = 8 → (kind = 9 → (p_X4_take (fI_X4_take I)) ∧ ((p_X4_take (fI_X4_take (fI_X4_take I))) ∧ (True))) ∧ (¬ kind = 9 → (¬ kind = 10 → (kind = 11 → ((¬ 0 ≤ (Op.cmpValue (FP.fcmp (f_X4_take I F) 0) .g) → vf_n32 (FP.fsub 0 (f_X4_take I F)) ∧ (True))) ∧ (True)) ∧ (¬ kind = 11 → (p_X4_take (fI_X4_take I)) ∧ ((p_X4_join kind (f_X4_take (fI_X4_take I) F) (f_X4_take I F)) ∧ (True))))))))) ∧ (Q (.inl none) (G X (if kind = 6 then (fI_X4_keep (FP.fsub 0 (f_X4_take I F)) (fI_X4_take I)) else (if kind = 7 then (fI_X4_keep (f_X4_join kind (f_X4_take (fI_X4_take I) F) (f_X4_take I F)) (fI_X4_take (fI_X4_take I))) else (if kind = 8 then (fI_X4_keep (f_X4_join kind (f_X4_take (fI_X4_take I) F) (f_X4_take I F)) (fI_X4_take (fI_X4_take I))) else (if kind = 9 then (fI_X4_keep (if (Op.cmpValue (FP.fcmp (f_X4_take (fI_X4_take (fI_X4_take I)) F) 0) .l) ≤ 0 then (f_X4_take I F) else (f_X4_take (fI_X4_take I) F) : UInt32) (fI_X4_take (fI_X4_take (fI_X4_take I)))) else (if kind = 10 then (fI_X4_keep (FP.i2f (FP.f2i (f_X4_take I F))) (fI_X4_take I)) else (if kind = 11 then (fI_X4_keep (if 0 ≤ (Op.cmpValue (FP.fcmp (f_X4_take I F) 0) .g) then (f_X4_take I F) else (FP.fsub 0 (f_X4_take I F)) : UInt32) (fI_X4_take I)) else (fI_X4_keep (f_X4_join kind (f_X4_take (fI_X4_take I) F) (f_X4_take I F)) (fI_X4_take (fI_X4_take I))) : Nat → Nat → Int32) : Nat → Nat → Int32) : Nat → Nat → Int32) : Nat → Nat → Int32) : Nat → Nat → Int32) : Nat → Nat → Int32) L (if kind = 6 then (fF_X4_keep (FP.fsub 0 (f_X4_take I F)) (fI_X4_take I) F) else (if kind = 7 then (fF_X4_keep (f_X4_join kind (f_X4_take (fI_X4_take I) F) (f_X4_take I F)) (fI_X4_take (fI_X4_take I)) F) else (if kind = 8 then (fF_X4_keep (f_X4_join kind (f_X4_take (fI_X4_take I) F) (f_X4_take I F)) (fI_X4_take (fI_X4_take I)) F) else (if kind = 9 then (fF_X4_keep (if (Op.cmpValue (FP.fcmp (f_X4_take (fI_X4_take (fI_X4_take I)) F) 0) .l) ≤ 0 then (f_X4_take I F) else (f_X4_take (fI_X4_take I) F) : UInt32) (fI_X4_take (fI_X4_take (fI_X4_take I))) F) else (if kind = 10 then (fF_X4_keep (FP.i2f (FP.f2i (f_X4_take I F))) (fI_X4_take I) F) else (if kind = 11 then (fF_X4_keep (if 0 ≤ (Op.cmpValue (FP.fcmp (f_X4_take I F) 0) .g) then (f_X4_take I F) else (FP.fsub 0 (f_X4_take I F)) : UInt32) (fI_X4_take I) F) else (fF_X4_keep (f_X4_join kind (f_X4_take (fI_X4_take I) F) (f_X4_take I F)) (fI_X4_take (fI_X4_take I)) F) : Nat → Nat → UInt32) : Nat → Nat → UInt32) : Nat → Nat → UInt32) : Nat → Nat → UInt32) : Nat → Nat → UInt32) : Nat → Nat → UInt32)))) := by
    exact ⟨p.1, p.2.1, q0⟩
  clear p q0
  refine w_aload_n rX4_operate_0 rfl ?_
  refine w_invokevirtual rX4_operate_1 rfl rfl rfl (Nat.le_of_ble_eq_true rfl) ⟨trivial, trivial⟩ (G_is (by decide) rfl) (by decide) (by decide) ?_
  refine s_X4_take q.1 ?_
  replace q := q.2
  show WP mX4_operate 4 _ _ _ 0 0 _
  refine w_fstore_n rX4_operate_4 rfl trivial ?_
  refine w_iload_n rX4_operate_5 rfl ?_
  have j6 : ∀ I6 : Nat → Nat → Int32, I6 = (if kind = 6 then (fI_X4_keep (FP.fsub 0 (f_X4_take I F)) (fI_X4_take I)) else (if kind = 7 then (fI_X4_keep (f_X4_join kind (f_X4_take (fI_X4_take I) F) (f_X4_take I F)) (fI_X4_take (fI_X4_take I))) else (if kind = 8 then (fI_X4_keep (f_X4_join kind (f_X4_take (fI_X4_take I) F) (f_X4_take I F)) (fI_X4_take (fI_X4_take I))) else (if kind = 9 then (fI_X4_keep (if (Op.cmpValue (FP.fcmp (f_X4_take (fI_X4_take (fI_X4_take I)) F) 0) .l) ≤ 0 then (f_X4_take I F) else (f_X4_take (fI_X4_take I) F) : UInt32) (fI_X4_take (fI_X4_take (fI_X4_take I)))) else (if kind = 10 then (fI_X4_keep (FP.i2f (FP.f2i (f_X4_take I F))) (fI_X4_take I)) else (if kind = 11 then (fI_X4_keep (if 0 ≤ (Op.cmpValue (FP.fcmp (f_X4_take I F) 0) .g) then (f_X4_take I F) else (FP.fsub 0 (f_X4_take I F)) : UInt32) (fI_X4_take I)) else (fI_X4_keep (f_X4_join kind (f_X4_take (fI_X4_take I) F) (f_X4_take I F)) (fI_X4_take (fI_X4_take I))) : Nat → Nat → Int32) : Nat → Nat → Int32) : Nat → Nat → Int32) : Nat → Nat → Int32) : Nat → Nat → Int32) : Nat → Nat → Int32) → ∀ F6 : Nat → Nat → UInt32, F6 = (if kind = 6 then (fF_X4_keep (FP.fsub 0 (f_X4_take I F)) (fI_X4_take I) F) else (if kind = 7 then (fF_X4_keep (f_X4_join kind (f_X4_take (fI_X4_take I) F) (f_X4_take I F)) (fI_X4_take (fI_X4_take I)) F) else (if kind = 8 then (fF_X4_keep (f_X4_join kind (f_X4_take (fI_X4_take I) F) (f_X4_take I F)) (fI_X4_take (fI_X4_take I)) F) else (if kind = 9 then (fF_X4_keep (if (Op.cmpValue (FP.fcmp (f_X4_take (fI_X4_take (fI_X4_take I)) F) 0) .l) ≤ 0 then (f_X4_take I F) else (f_X4_take (fI_X4_take I) F) : UInt32) (fI_X4_take (fI_X4_take (fI_X4_take I))) F) else (if kind = 10 then (fF_X4_keep (FP.i2f (FP.f2i (f_X4_take I F))) (fI_X4_take I) F) else (if kind = 11 then (fF_X4_keep (if 0 ≤ (Op.cmpValue (FP.fcmp (f_X4_take I F) 0) .g) then (f_X4_take I F) else (FP.fsub 0 (f_X4_take I F)) : UInt32) (fI_X4_take I) F) else (fF_X4_keep (f_X4_join kind (f_X4_take (fI_X4_take I) F) (f_X4_take I F)) (fI_X4_take (fI_X4_take I)) F) : Nat → Nat → UInt32) : Nat → Nat → UInt32) : Nat → Nat → UInt32) : Nat → Nat → UInt32) : Nat → Nat → UInt32) : Nat → Nat → UInt32) → ∀ d6_3 : Option Value, am_nl [d6_3] 1 → WP mX4_operate 123 [some (.ref 10), some (.int kind), some (.float (f_X4_take I F)), d6_3] [] (G X I6 L F6) 0 0 Q := by
    intro I6 eI6 F6 eF6 d6_3 nd6_3
    subst eI6
    subst eF6
    skip
    replace q := q.2
    refine w_return rX4_operate_123 ?_
    exact q
  replace q := q.1
  refine w_tsw rX4_operate_6 ?_
  refine ⟨fun h6_0 => ?_, fun h6_0 => ?_⟩
  · replace q := q.1 h6_0
    refine w_aload_n rX4_operate_44 rfl ?_
    refine w_fconst rX4_operate_45 (x := 0) rfl ?_
    refine w_fload_n rX4_operate_46 rfl ?_
    refine w_fsub rX4_operate_47 q.1 ?_
    replace q := q.2
    refine w_invokevirtual rX4_operate_48 rfl rfl rfl (Nat.le_of_ble_eq_true rfl) ⟨trivial, trivial, trivial⟩ (G_is (by decide) rfl) (by decide) (by decide) ?_
    refine s_X4_keep ?_
    show WP mX4_operate 51 _ _ _ 0 0 _
    refine w_goto rX4_operate_51 ?_
    exact j6 _ (if_pos h6_0).symm _ (if_pos h6_0).symm (none) trivial
  · replace q := q.2 h6_0
    refine ⟨fun h6_1 => ?_, fun h6_1 => ?_⟩
    · replace q := q.1 h6_1
      refine w_aload_n rX4_operate_110 rfl ?_
      refine w_iload_n rX4_operate_111 rfl ?_
      refine w_aload_n rX4_operate_112 rfl ?_
      refine w_invokevirtual rX4_operate_113 rfl rfl rfl (Nat.le_of_ble_eq_true rfl) ⟨trivial, trivial⟩ (G_is (by decide) rfl) (by decide) (by decide) ?_
      refine s_X4_take q.1 ?_
      replace q := q.2
      show WP mX4_operate 116 _ _ _ 0 0 _
      refine w_fload_n rX4_operate_116 rfl ?_
      refine w_invokestatic rX4_operate_117 rfl rfl rfl (Nat.le_of_ble_eq_true rfl) ⟨trivial, trivial, trivial, trivial⟩ trivial (by decide) (by decide) ?_
      refine s_X4_join q.1 ?_
      replace q := q.2
      show WP mX4_operate 120 _ _ _ 0 0 _
      refine w_invokevirtual rX4_operate_120 rfl rfl rfl (Nat.le_of_ble_eq_true rfl) ⟨trivial, trivial, trivial⟩ (G_is (by decide) rfl) (by decide) (by decide) ?_
      refine s_X4_keep ?_
      show WP mX4_operate 123 _ _ _ 0 0 _
      exact j6 _ ((if_neg h6_0).trans (if_pos h6_1)).symm _ ((if_neg h6_0).trans (if_pos h6_1)).symm (none) trivial
    · replace q := q.2 h6_1
      refine ⟨fun h6_2 => ?_, fun h6_2 => ?_⟩
      · replace q := q.1 h6_2
        refine w_aload_n rX4_operate_110 rfl ?_
        refine w_iload_n rX4_operate_111 rfl ?_
        refine w_aload_n rX4_operate_112 rfl ?_
        refine w_invokevirtual rX4_operate_113 rfl rfl rfl (Nat.le_of_ble_eq_true rfl) ⟨trivial, trivial⟩ (G_is (by decide) rfl) (by decide) (by decide) ?_
        refine s_X4_take q.1 ?_
        replace q := q.2
        show WP mX4_operate 116 _ _ _ 0 0 _
        refine w_fload_n rX4_operate_116 rfl ?_
        refine w_invokestatic rX4_operate_117 rfl rfl rfl (Nat.le_of_ble_eq_true rfl) ⟨trivial, trivial, trivial, trivial⟩ trivial (by decide) (by decide) ?_
        refine s_X4_join q.1 ?_
        replace q := q.2
        show WP mX4_operate 120 _ _ _ 0 0 _
        refine w_invokevirtual rX4_operate_120 rfl rfl rfl (Nat.le_of_ble_eq_true rfl) ⟨trivial, trivial, trivial⟩ (G_is (by decide) rfl) (by decide) (by decide) ?_
        refine s_X4_keep ?_
        show WP mX4_operate 123 _ _ _ 0 0 _
        exact j6 _ (((if_neg h6_0).trans (if_neg h6_1)).trans (if_pos h6_2)).symm _ (((if_neg h6_0).trans (if_neg h6_1)).trans (if_pos h6_2)).symm (none) trivial
      · replace q := q.2 h6_2
        refine ⟨fun h6_3 => ?_, fun h6_3 => ?_⟩
        · replace q := q.1 h6_3
          refine w_aload_n rX4_operate_84 rfl ?_
          refine w_invokevirtual rX4_operate_85 rfl rfl rfl (Nat.le_of_ble_eq_true rfl) ⟨trivial, trivial⟩ (G_is (by decide) rfl) (by decide) (by decide) ?_
          refine s_X4_take q.1 ?_
          replace q := q.2
          show WP mX4_operate 88 _ _ _ 0 0 _
          refine w_fstore_n rX4_operate_88 rfl trivial ?_
          refine w_aload_n rX4_operate_89 rfl ?_
          refine w_aload_n rX4_operate_90 rfl ?_
          refine w_invokevirtual rX4_operate_91 rfl rfl rfl (Nat.le_of_ble_eq_true rfl) ⟨trivial, trivial⟩ (G_is (by decide) rfl) (by decide) (by decide) ?_
          refine s_X4_take q.1 ?_
          replace q := q.2
          show WP mX4_operate 94 _ _ _ 0 0 _
          refine w_fconst rX4_operate_94 (x := 0) rfl ?_
          refine w_fcmp rX4_operate_95 ?_
          have j96 : ∀ s96_1 : UInt32, s96_1 = (if (Op.cmpValue (FP.fcmp (f_X4_take (fI_X4_take (fI_X4_take I)) F) 0) .l) ≤ 0 then (f_X4_take I F) else (f_X4_take (fI_X4_take I) F) : UInt32) → WP mX4_operate 104 [some (.ref 10), some (.int kind), some (.float (f_X4_take I F)), some (.float (f_X4_take (fI_X4_take I) F))] [.float s96_1, .ref 10] (G X (fI_X4_take (fI_X4_take (fI_X4_take I))) L F) 0 0 Q := by
            intro s96_1 es96_1
            subst es96_1
            skip
            refine w_invokevirtual rX4_operate_104 rfl rfl rfl (Nat.le_of_ble_eq_true rfl) ⟨trivial, trivial, trivial⟩ (G_is (by decide) rfl) (by decide) (by decide) ?_
            refine s_X4_keep ?_
            show WP mX4_operate 107 _ _ _ 0 0 _
            refine w_goto rX4_operate_107 ?_
            exact j6 _ ((((if_neg h6_0).trans (if_neg h6_1)).trans (if_neg h6_2)).trans (if_pos h6_3)).symm _ ((((if_neg h6_0).trans (if_neg h6_1)).trans (if_neg h6_2)).trans (if_pos h6_3)).symm (some (.float (f_X4_take (fI_X4_take I) F))) trivial
          refine w_ifle rX4_operate_96 (fun h96 => ?_) (fun h96 => ?_)
          · skip
            refine w_fload_n rX4_operate_103 rfl ?_
            exact j96 _ (if_pos h96).symm
          · skip
            refine w_fload_n rX4_operate_99 rfl ?_
            refine w_goto rX4_operate_100 ?_
            exact j96 _ (if_neg h96).symm
        · replace q := q.2 h6_3
          refine ⟨fun h6_4 => ?_, fun h6_4 => ?_⟩
          · skip
            refine w_aload_n rX4_operate_54 rfl ?_
            refine w_fload_n rX4_operate_55 rfl ?_
            refine w_f2i rX4_operate_56 ?_
            refine w_i2f rX4_operate_57 ?_
            refine w_invokevirtual rX4_operate_58 rfl rfl rfl (Nat.le_of_ble_eq_true rfl) ⟨trivial, trivial, trivial⟩ (G_is (by decide) rfl) (by decide) (by decide) ?_
            refine s_X4_keep ?_
            show WP mX4_operate 61 _ _ _ 0 0 _
            refine w_goto rX4_operate_61 ?_
            exact j6 _ (((((if_neg h6_0).trans (if_neg h6_1)).trans (if_neg h6_2)).trans (if_neg h6_3)).trans (if_pos h6_4)).symm _ (((((if_neg h6_0).trans (if_neg h6_1)).trans (if_neg h6_2)).trans (if_neg h6_3)).trans (if_pos h6_4)).symm (none) trivial
          · replace q := q h6_4
            refine ⟨fun h6_5 => ?_, fun h6_5 => ?_⟩
            · replace q := q.1 h6_5
              refine w_aload_n rX4_operate_64 rfl ?_
              refine w_fload_n rX4_operate_65 rfl ?_
              refine w_fconst rX4_operate_66 (x := 0) rfl ?_
              refine w_fcmp rX4_operate_67 ?_
              have j68 : ∀ s68_1 : UInt32, s68_1 = (if 0 ≤ (Op.cmpValue (FP.fcmp (f_X4_take I F) 0) .g) then (f_X4_take I F) else (FP.fsub 0 (f_X4_take I F)) : UInt32) → WP mX4_operate 78 [some (.ref 10), some (.int kind), some (.float (f_X4_take I F)), none] [.float s68_1, .ref 10] (G X (fI_X4_take I) L F) 0 0 Q := by
                intro s68_1 es68_1
                subst es68_1
                skip
                replace q := q.2
                refine w_invokevirtual rX4_operate_78 rfl rfl rfl (Nat.le_of_ble_eq_true rfl) ⟨trivial, trivial, trivial⟩ (G_is (by decide) rfl) (by decide) (by decide) ?_
                refine s_X4_keep ?_
                show WP mX4_operate 81 _ _ _ 0 0 _
                refine w_goto rX4_operate_81 ?_
                exact j6 _ ((((((if_neg h6_0).trans (if_neg h6_1)).trans (if_neg h6_2)).trans (if_neg h6_3)).trans (if_neg h6_4)).trans (if_pos h6_5)).symm _ ((((((if_neg h6_0).trans (if_neg h6_1)).trans (if_neg h6_2)).trans (if_neg h6_3)).trans (if_neg h6_4)).trans (if_pos h6_5)).symm (none) trivial
              replace q := q.1
              refine w_ifge rX4_operate_68 (fun h68 => ?_) (fun h68 => ?_)
              · skip
                refine w_fload_n rX4_operate_77 rfl ?_
                exact j68 _ (if_pos h68).symm
              · replace q := q h68
                refine w_fconst rX4_operate_71 (x := 0) rfl ?_
                refine w_fload_n rX4_operate_72 rfl ?_
                refine w_fsub rX4_operate_73 q.1 ?_
                replace q := q.2
                refine w_goto rX4_operate_74 ?_
                exact j68 _ (if_neg h68).symm
            · replace q := q.2 h6_5
              refine w_aload_n rX4_operate_110 rfl ?_
              refine w_iload_n rX4_operate_111 rfl ?_
              refine w_aload_n rX4_operate_112 rfl ?_
              refine w_invokevirtual rX4_operate_113 rfl rfl rfl (Nat.le_of_ble_eq_true rfl) ⟨trivial, trivial⟩ (G_is (by decide) rfl) (by decide) (by decide) ?_
              refine s_X4_take q.1 ?_
              replace q := q.2
              show WP mX4_operate 116 _ _ _ 0 0 _
              refine w_fload_n rX4_operate_116 rfl ?_
              refine w_invokestatic rX4_operate_117 rfl rfl rfl (Nat.le_of_ble_eq_true rfl) ⟨trivial, trivial, trivial, trivial⟩ trivial (by decide) (by decide) ?_
              refine s_X4_join q.1 ?_
              replace q := q.2
              show WP mX4_operate 120 _ _ _ 0 0 _
              refine w_invokevirtual rX4_operate_120 rfl rfl rfl (Nat.le_of_ble_eq_true rfl) ⟨trivial, trivial, trivial⟩ (G_is (by decide) rfl) (by decide) (by decide) ?_
              refine s_X4_keep ?_
              show WP mX4_operate 123 _ _ _ 0 0 _
              exact j6 _ ((((((if_neg h6_0).trans (if_neg h6_1)).trans (if_neg h6_2)).trans (if_neg h6_3)).trans (if_neg h6_4)).trans (if_neg h6_5)).symm _ ((((((if_neg h6_0).trans (if_neg h6_1)).trans (if_neg h6_2)).trans (if_neg h6_3)).trans (if_neg h6_4)).trans (if_neg h6_5)).symm (none) trivial
def f_X6_pinOf (ver : Int32) (model : Int32) (I : Nat → Nat → Int32) : Int32 := (if (f_X6_has ver I) = 0 then (-1) else (if (f_X9_isModel model) = 0 then (-1) else (I ((19 + 6 * Int32.toNatClampNeg ver) + 4) (Int32.toNatClampNeg model)) : Int32) : Int32)
theorem s_X6_pinOf {X : Nat × (Nat × (Nat → Int32))} {I : Nat → Nat → Int32} {L : Nat → Nat → Int64} {F : Nat → Nat → UInt32} {Q : AQ} {ver : Int32} {model : Int32} (q : Q (.inl (some (.int (f_X6_pinOf ver model I)))) (G X I L F)) : WP mX6_pinOf 0 (am_ent 3 [.ref 9, .int ver, .int model]) [] (G X I L F) 0 0 Q := by
  unfold f_X6_pinOf at q
  refine w_aload_n rX6_pinOf_0 rfl ?_
  refine w_iload_n rX6_pinOf_1 rfl ?_
  refine w_invokevirtual rX6_pinOf_2 rfl rfl rfl (Nat.le_of_ble_eq_true rfl) ⟨trivial, trivial, trivial⟩ (G_is (by decide) rfl) (by decide) (by decide) ?_
  refine s_X6_has ?_
  show WP mX6_pinOf 5 _ _ _ 0 0 _
  have j5 : ∀ s5_0 : Int32, s5_0 = (if (f_X6_has ver I) = 0 then (-1) else (if (f_X9_isModel model) = 0 then (-1) else (I ((19 + 6 * Int32.toNatClampNeg ver) + 4) (Int32.toNatClampNeg model)) : Int32) : Int32) → WP mX6_pinOf 30 [some (.ref 9), some (.int ver), some (.int model)] [.int s5_0] (G X I L F) 0 0 Q := by
    intro s5_0 es5_0
    subst es5_0
    skip
    refine w_ireturn rX6_pinOf_30 trivial ?_
    exact q
  refine w_ifeq rX6_pinOf_5 (fun h5 => ?_) (fun h5 => ?_)
  · skip
    refine w_iconst rX6_pinOf_29 (x := -1) (by decide) ?_
    exact j5 _ (if_pos h5).symm
  · skip
    refine w_iload_n rX6_pinOf_8 rfl ?_
    refine w_invokestatic rX6_pinOf_9 rfl rfl rfl (Nat.le_of_ble_eq_true rfl) ⟨trivial, trivial⟩ trivial (by decide) (by decide) ?_
    refine s_X9_isModel ?_
    show WP mX6_pinOf 12 _ _ _ 0 0 _
    refine w_ifeq rX6_pinOf_12 (fun h12 => ?_) (fun h12 => ?_)
    · skip
      refine w_iconst rX6_pinOf_29 (x := -1) (by decide) ?_
      exact j5 _ ((if_neg h5).trans (if_pos h12)).symm
    · skip
      refine w_aload_n rX6_pinOf_15 rfl ?_
      refine w_getR rX6_pinOf_16 rfl rfl (G_is (by decide) rfl) (x := 13) rfl ?_
      refine w_iload_n rX6_pinOf_19 rfl ?_
      refine w_aaload rX6_pinOf_20 (G_aa (by decide) rfl rfl (gd_X6_has h5)) (ga_ver (gd_X6_has h5)) ?_
      refine w_getR rX6_pinOf_21 rfl rfl (G_isk (gi_ver (gd_X6_has h5)).1) (gi_ver (gd_X6_has h5)).2.2.1 ?_
      refine w_iload_n rX6_pinOf_24 rfl ?_
      refine x_iaload rX6_pinOf_25 (G_atk (gi_ver (gd_X6_has h5)).2.2.2.2.2.1 (gd_X9_isModel h12)) ?_
      refine w_goto rX6_pinOf_26 ?_
      exact j5 _ ((if_neg h5).trans (if_neg h12)).symm
def f_X6_giveUp (model : Int32) (I : Nat → Nat → Int32) : Int32 := (f_X6_latestOf model I)
def fI_X6_giveUp (model : Int32) (I : Nat → Nat → Int32) : Nat → Nat → Int32 := (if (f_X9_isModel model) = 0 then I else (am_u I 14 (Int32.toNatClampNeg model) (-1)) : Nat → Nat → Int32)
theorem s_X6_giveUp {X : Nat × (Nat × (Nat → Int32))} {I : Nat → Nat → Int32} {L : Nat → Nat → Int64} {F : Nat → Nat → UInt32} {Q : AQ} {model : Int32} (q : Q (.inl (some (.int (f_X6_giveUp model I)))) (G X (fI_X6_giveUp model I) L F)) : WP mX6_giveUp 0 (am_ent 3 [.ref 9, .int model]) [] (G X I L F) 0 0 Q := by
  unfold f_X6_giveUp fI_X6_giveUp at q
  refine w_aload_n rX6_giveUp_0 rfl ?_
  refine w_iload_n rX6_giveUp_1 rfl ?_
  refine w_invokevirtual rX6_giveUp_2 rfl rfl rfl (Nat.le_of_ble_eq_true rfl) ⟨trivial, trivial, trivial⟩ (G_is (by decide) rfl) (by decide) (by decide) ?_
  refine s_X6_latestOf ?_
  show WP mX6_giveUp 5 _ _ _ 0 0 _
  refine w_istore_n rX6_giveUp_5 rfl trivial ?_
  refine w_iload_n rX6_giveUp_6 rfl ?_
  refine w_invokestatic rX6_giveUp_7 rfl rfl rfl (Nat.le_of_ble_eq_true rfl) ⟨trivial, trivial⟩ trivial (by decide) (by decide) ?_
  refine s_X9_isModel ?_
  show WP mX6_giveUp 10 _ _ _ 0 0 _
  have j10 : ∀ I10 : Nat → Nat → Int32, I10 = (if (f_X9_isModel model) = 0 then I else (am_u I 14 (Int32.toNatClampNeg model) (-1)) : Nat → Nat → Int32) → WP mX6_giveUp 20 [some (.ref 9), some (.int model), some (.int (f_X6_latestOf model I))] [] (G X I10 L F) 0 0 Q := by
    intro I10 eI10
    subst eI10
    skip
    refine w_iload_n rX6_giveUp_20 rfl ?_
    refine w_ireturn rX6_giveUp_21 trivial ?_
    exact q
  refine w_ifeq rX6_giveUp_10 (fun h10 => ?_) (fun h10 => ?_)
  · skip
    exact j10 _ (if_pos h10).symm
  · skip
    refine w_aload_n rX6_giveUp_13 rfl ?_
    refine w_getR rX6_giveUp_14 rfl rfl (G_is (by decide) rfl) (x := 14) rfl ?_
    refine w_iload_n rX6_giveUp_17 rfl ?_
    refine w_iconst rX6_giveUp_18 (x := -1) (by decide) ?_
    refine x_iastore rX6_giveUp_19 (G_at (by decide) rfl rfl (gd_X9_isModel h10)) ?_
    exact j10 _ (if_neg h10).symm
def f_J0_length_8abf5  : Int32 := ((8 : Int32) >>> (0 &&& 31 : Int32))
theorem s_J0_length_8abf5 {X : Nat × (Nat × (Nat → Int32))} {I : Nat → Nat → Int32} {L : Nat → Nat → Int64} {F : Nat → Nat → UInt32} {Q : AQ}  (q : Q (.inl (some (.int f_J0_length_8abf5))) (G X I L F)) : WP mJ0_length_8abf5 0 (am_ent 1 [.ref 1000001]) [] (G X I L F) 0 0 Q := by
  unfold f_J0_length_8abf5 at q
  refine w_aload_n rJ0_length_8abf5_0 rfl ?_
  refine w_getSv rJ0_length_8abf5_1 ?_
  refine w_lenS rJ0_length_8abf5_4 ?_
  refine w_aload_n rJ0_length_8abf5_5 rfl ?_
  refine w_invokevirtual rJ0_length_8abf5_6 rfl rfl rfl (Nat.le_of_ble_eq_true rfl) ⟨trivial, trivial⟩ rfl (by decide) (by decide) ?_
  refine s_J0_coder_7d493 ?_
  show WP mJ0_length_8abf5 9 _ _ _ 0 0 _
  refine w_ishr rJ0_length_8abf5_9 ?_
  refine w_ireturn rJ0_length_8abf5_10 trivial ?_
  exact q
def f_X3_startsFactor (ch : Int32) (I : Nat → Nat → Int32) : Int32 := (if ch = 40 then (f_X3_hold 12 0 I) else (if ch = 45 then (f_X3_hold 6 0 I) else (if ch = 97 then (f_X3_startsFunction 11 0 I) else (if ch = 102 then (if (I 3 5) = 0 then 0 else 1 : Int32) else (if ch = 103 then (if (I 3 5) = 0 then 1 else 0 : Int32) else (if ch = 104 then 1 else (if ch = 105 then (f_X3_startsFunction 9 2 I) else (if ch = 108 then (if (I 3 5) = 0 then 0 else 1 : Int32) else (if ch = 109 then (if (I 3 5) = 0 then 1 else 0 : Int32) else (if ch = 110 then (f_X3_startsFunction 8 1 I) else (if ch = 112 then (if (I 3 5) = 0 then 1 else 0 : Int32) else (if ch = 113 then (if (I 3 5) = 0 then 1 else 0 : Int32) else (if ch = 114 then (if (I 3 5) = 0 then 0 else 1 : Int32) else (if ch = 116 then (f_X3_startsFunction 10 0 I) else (if ch = 120 then (f_X3_startsFunction 7 1 I) else 0 : Int32) : Int32) : Int32) : Int32) : Int32) : Int32) : Int32) : Int32) : Int32) : Int32) : Int32) : Int32) : Int32) : Int32) : Int32)
def fI_X3_startsFactor (ch : Int32) (I : Nat → Nat → Int32) : Nat → Nat → Int32 := (if ch = 40 then (fI_X3_hold 12 0 I) else (if ch = 45 then (fI_X3_hold 6 0 I) else (if ch = 97 then (fI_X3_startsFunction 11 0 I) else (if ch = 102 then (if (I 3 5) = 0 then I else (fI_X3_endsName 18 I) : Nat → Nat → Int32) else (if ch = 103 then (if (I 3 5) = 0 then (fI_X3_startsName 0 3 I) else I : Nat → Nat → Int32) else (if ch = 104 then (fI_X3_endsName 16 I) else (if ch = 105 then (fI_X3_startsFunction 9 2 I) else (if ch = 108 then (if (I 3 5) = 0 then I else (fI_X3_endsName 17 I) : Nat → Nat → Int32) else (if ch = 109 then (if (I 3 5) = 0 then (fI_X3_startsName 3 6 I) else I : Nat → Nat → Int32) else (if ch = 110 then (fI_X3_startsFunction 8 1 I) else (if ch = 112 then (if (I 3 5) = 0 then (fI_X3_endsName 15 I) else I : Nat → Nat → Int32) else (if ch = 113 then (if (I 3 5) = 0 then (fI_X3_startsName 9 6 I) else I : Nat → Nat → Int32) else (if ch = 114 then (if (I 3 5) = 0 then I else (fI_X3_endsName 19 I) : Nat → Nat → Int32) else (if ch = 116 then (fI_X3_startsFunction 10 0 I) else (if ch = 120 then (fI_X3_startsFunction 7 1 I) else I : Nat → Nat → Int32) : Nat → Nat → Int32) : Nat → Nat → Int32) : Nat → Nat → Int32) : Nat → Nat → Int32) : Nat → Nat → Int32) : Nat → Nat → Int32) : Nat → Nat → Int32) : Nat → Nat → Int32) : Nat → Nat → Int32) : Nat → Nat → Int32) : Nat → Nat → Int32) : Nat → Nat → Int32) : Nat → Nat → Int32) : Nat → Nat → Int32)
theorem s_X3_startsFactor {X : Nat × (Nat × (Nat → Int32))} {I : Nat → Nat → Int32} {L : Nat → Nat → Int64} {F : Nat → Nat → UInt32} {Q : AQ} {ch : Int32} (q : Q (.inl (some (.int (f_X3_startsFactor ch I)))) (G X (fI_X3_startsFactor ch I) L F)) : WP mX3_startsFactor 0 (am_ent 2 [.ref 3, .int ch]) [] (G X I L F) 0 0 Q := by
  unfold f_X3_startsFactor fI_X3_startsFactor at q
  refine w_iload_n rX3_startsFactor_0 rfl ?_
  have j1 : ∀ I1 : Nat → Nat → Int32, I1 = (if ch = 40 then (fI_X3_hold 12 0 I) else (if ch = 45 then (fI_X3_hold 6 0 I) else (if ch = 97 then (fI_X3_startsFunction 11 0 I) else (if ch = 102 then (if (I 3 5) = 0 then I else (fI_X3_endsName 18 I) : Nat → Nat → Int32) else (if ch = 103 then (if (I 3 5) = 0 then (fI_X3_startsName 0 3 I) else I : Nat → Nat → Int32) else (if ch = 104 then (fI_X3_endsName 16 I) else (if ch = 105 then (fI_X3_startsFunction 9 2 I) else (if ch = 108 then (if (I 3 5) = 0 then I else (fI_X3_endsName 17 I) : Nat → Nat → Int32) else (if ch = 109 then (if (I 3 5) = 0 then (fI_X3_startsName 3 6 I) else I : Nat → Nat → Int32) else (if ch = 110 then (fI_X3_startsFunction 8 1 I) else (if ch = 112 then (if (I 3 5) = 0 then (fI_X3_endsName 15 I) else I : Nat → Nat → Int32) else (if ch = 113 then (if (I 3 5) = 0 then (fI_X3_startsName 9 6 I) else I : Nat → Nat → Int32) else (if ch = 114 then (if (I 3 5) = 0 then I else (fI_X3_endsName 19 I) : Nat → Nat → Int32) else (if ch = 116 then (fI_X3_startsFunction 10 0 I) else (if ch = 120 then (fI_X3_startsFunction 7 1 I) else I : Nat → Nat → Int32) : Nat → Nat → Int32) : Nat → Nat → Int32) : Nat → Nat → Int32) : Nat → Nat → Int32) : Nat → Nat → Int32) : Nat → Nat → Int32) : Nat → Nat → Int32) : Nat → Nat → Int32) : Nat → Nat → Int32) : Nat → Nat → Int32) : Nat → Nat → Int32) : Nat → Nat → Int32) : Nat → Nat → Int32) : Nat → Nat → Int32) → ∀ s1_0 : Int32, s1_0 = (if ch = 40 then (f_X3_hold 12 0 I) else (if ch = 45 then (f_X3_hold 6 0 I) else (if ch = 97 then (f_X3_startsFunction 11 0 I) else (if ch = 102 then (if (I 3 5) = 0 then 0 else 1 : Int32) else (if ch = 103 then (if (I 3 5) = 0 then 1 else 0 : Int32) else (if ch = 104 then 1 else (if ch = 105 then (f_X3_startsFunction 9 2 I) else (if ch = 108 then (if (I 3 5) = 0 then 0 else 1 : Int32) else (if ch = 109 then (if (I 3 5) = 0 then 1 else 0 : Int32) else (if ch = 110 then (f_X3_startsFunction 8 1 I) else (if ch = 112 then (if (I 3 5) = 0 then 1 else 0 : Int32) else (if ch = 113 then (if (I 3 5) = 0 then 1 else 0 : Int32) else (if ch = 114 then (if (I 3 5) = 0 then 0 else 1 : Int32) else (if ch = 116 then (f_X3_startsFunction 10 0 I) else (if ch = 120 then (f_X3_startsFunction 7 1 I) else 0 : Int32) : Int32) : Int32) : Int32) : Int32) : Int32) : Int32) : Int32) : Int32) : Int32) : Int32) : Int32) : Int32) : Int32) : Int32) → Q (.inl (some (.int s1_0))) (G X I1 L F) := by
    intro I1 eI1 s1_0 es1_0
    subst eI1
    subst es1_0
    skip
    exact q
  refine w_lsw rX3_startsFactor_1 ?_
  refine ⟨fun h1_0 => ?_, fun h1_0 => ?_⟩
  · skip
    refine w_aload_n rX3_startsFactor_140 rfl ?_
    refine w_bipush rX3_startsFactor_141 (x := 12) (by decide) ?_
    refine w_iconst rX3_startsFactor_143 (x := 0) (by decide) ?_
    refine w_invokevirtual rX3_startsFactor_144 rfl rfl rfl (Nat.le_of_ble_eq_true rfl) ⟨trivial, trivial, trivial, trivial⟩ (G_is (by decide) rfl) (by decide) (by decide) ?_
    refine s_X3_hold ?_
    show WP mX3_startsFactor 147 _ _ _ 0 0 _
    refine w_ireturn rX3_startsFactor_147 b01_X3_hold ?_
    exact j1 _ (if_pos h1_0).symm _ (if_pos h1_0).symm
  · skip
    refine ⟨fun h1_1 => ?_, fun h1_1 => ?_⟩
    · skip
      refine w_aload_n rX3_startsFactor_132 rfl ?_
      refine w_bipush rX3_startsFactor_133 (x := 6) (by decide) ?_
      refine w_iconst rX3_startsFactor_135 (x := 0) (by decide) ?_
      refine w_invokevirtual rX3_startsFactor_136 rfl rfl rfl (Nat.le_of_ble_eq_true rfl) ⟨trivial, trivial, trivial, trivial⟩ (G_is (by decide) rfl) (by decide) (by decide) ?_
      refine s_X3_hold ?_
      show WP mX3_startsFactor 139 _ _ _ 0 0 _
      refine w_ireturn rX3_startsFactor_139 b01_X3_hold ?_
      exact j1 _ ((if_neg h1_0).trans (if_pos h1_1)).symm _ ((if_neg h1_0).trans (if_pos h1_1)).symm
    · skip
      refine ⟨fun h1_2 => ?_, fun h1_2 => ?_⟩
      · skip
        refine w_aload_n rX3_startsFactor_180 rfl ?_
        refine w_bipush rX3_startsFactor_181 (x := 11) (by decide) ?_
        refine w_iconst rX3_startsFactor_183 (x := 0) (by decide) ?_
        refine w_invokevirtual rX3_startsFactor_184 rfl rfl rfl (Nat.le_of_ble_eq_true rfl) ⟨trivial, trivial, trivial, trivial⟩ (G_is (by decide) rfl) (by decide) (by decide) ?_
        refine s_X3_startsFunction ?_
        show WP mX3_startsFactor 187 _ _ _ 0 0 _
        refine w_ireturn rX3_startsFactor_187 b01_X3_startsFunction ?_
        exact j1 _ (((if_neg h1_0).trans (if_neg h1_1)).trans (if_pos h1_2)).symm _ (((if_neg h1_0).trans (if_neg h1_1)).trans (if_pos h1_2)).symm
      · skip
        refine ⟨fun h1_3 => ?_, fun h1_3 => ?_⟩
        · skip
          refine w_aload_n rX3_startsFactor_308 rfl ?_
          refine x_getI rX3_startsFactor_309 rfl rfl (G_is (by decide) rfl) ?_
          have j312 : ∀ I312 : Nat → Nat → Int32, I312 = (if (I 3 5) = 0 then I else (fI_X3_endsName 18 I) : Nat → Nat → Int32) → ∀ s312_0 : Int32, s312_0 = (if (I 3 5) = 0 then 0 else 1 : Int32) → WP mX3_startsFactor 329 [some (.ref 3), some (.int ch)] [.int s312_0] (G X I312 L F) 0 0 Q := by
            intro I312 eI312 s312_0 es312_0
            subst eI312
            subst es312_0
            skip
            refine w_ireturn rX3_startsFactor_329 (show (if (I 3 5) = 0 then 0 else 1 : Int32) = 0 ∨ (if (I 3 5) = 0 then 0 else 1 : Int32) = 1 from by repeat' first | refine b01_ite ?_ ?_ | exact Or.inl rfl | exact Or.inr rfl) ?_
            exact j1 _ ((((if_neg h1_0).trans (if_neg h1_1)).trans (if_neg h1_2)).trans (if_pos h1_3)).symm _ ((((if_neg h1_0).trans (if_neg h1_1)).trans (if_neg h1_2)).trans (if_pos h1_3)).symm
          refine w_ifeq rX3_startsFactor_312 (fun h312 => ?_) (fun h312 => ?_)
          · skip
            refine w_iconst rX3_startsFactor_328 (x := 0) (by decide) ?_
            exact j312 _ (if_pos h312).symm _ (if_pos h312).symm
          · skip
            refine w_aload_n rX3_startsFactor_315 rfl ?_
            refine w_bipush rX3_startsFactor_316 (x := 18) (by decide) ?_
            refine w_invokevirtual rX3_startsFactor_318 rfl rfl rfl (Nat.le_of_ble_eq_true rfl) ⟨trivial, trivial, trivial⟩ (G_is (by decide) rfl) (by decide) (by decide) ?_
            refine s_X3_endsName ?_
            show WP mX3_startsFactor 321 _ _ _ 0 0 _
            refine w_ifeq rX3_startsFactor_321 (fun h => absurd h (show ¬ (1 : Int32) = 0 from by decide)) (fun _ => ?_)
            refine w_iconst rX3_startsFactor_324 (x := 1) (by decide) ?_
            refine w_goto rX3_startsFactor_325 ?_
            exact j312 _ (if_neg h312).symm _ (if_neg h312).symm
        · skip
          refine ⟨fun h1_4 => ?_, fun h1_4 => ?_⟩
          · skip
            refine w_aload_n rX3_startsFactor_217 rfl ?_
            refine x_getI rX3_startsFactor_218 rfl rfl (G_is (by decide) rfl) ?_
            have j221 : ∀ I221 : Nat → Nat → Int32, I221 = (if (I 3 5) = 0 then (fI_X3_startsName 0 3 I) else I : Nat → Nat → Int32) → ∀ s221_0 : Int32, s221_0 = (if (I 3 5) = 0 then 1 else 0 : Int32) → WP mX3_startsFactor 238 [some (.ref 3), some (.int ch)] [.int s221_0] (G X I221 L F) 0 0 Q := by
              intro I221 eI221 s221_0 es221_0
              subst eI221
              subst es221_0
              skip
              refine w_ireturn rX3_startsFactor_238 (show (if (I 3 5) = 0 then 1 else 0 : Int32) = 0 ∨ (if (I 3 5) = 0 then 1 else 0 : Int32) = 1 from by repeat' first | refine b01_ite ?_ ?_ | exact Or.inl rfl | exact Or.inr rfl) ?_
              exact j1 _ (((((if_neg h1_0).trans (if_neg h1_1)).trans (if_neg h1_2)).trans (if_neg h1_3)).trans (if_pos h1_4)).symm _ (((((if_neg h1_0).trans (if_neg h1_1)).trans (if_neg h1_2)).trans (if_neg h1_3)).trans (if_pos h1_4)).symm
            refine w_ifne rX3_startsFactor_221 (fun h221 => ?_) (fun h221 => ?_)
            · skip
              refine w_iconst rX3_startsFactor_237 (x := 0) (by decide) ?_
              exact j221 _ (if_neg h221).symm _ (if_neg h221).symm
            · skip
              refine w_aload_n rX3_startsFactor_224 rfl ?_
              refine w_iconst rX3_startsFactor_225 (x := 0) (by decide) ?_
              refine w_iconst rX3_startsFactor_226 (x := 3) (by decide) ?_
              refine w_invokevirtual rX3_startsFactor_227 rfl rfl rfl (Nat.le_of_ble_eq_true rfl) ⟨trivial, trivial, trivial, trivial⟩ (G_is (by decide) rfl) (by decide) (by decide) ?_
              refine s_X3_startsName ?_
              show WP mX3_startsFactor 230 _ _ _ 0 0 _
              refine w_ifeq rX3_startsFactor_230 (fun h => absurd h (show ¬ (1 : Int32) = 0 from by decide)) (fun _ => ?_)
              refine w_iconst rX3_startsFactor_233 (x := 1) (by decide) ?_
              refine w_goto rX3_startsFactor_234 ?_
              exact j221 _ (if_pos h221).symm _ (if_pos h221).symm
          · skip
            refine ⟨fun h1_5 => ?_, fun h1_5 => ?_⟩
            · skip
              refine w_aload_n rX3_startsFactor_188 rfl ?_
              refine w_bipush rX3_startsFactor_189 (x := 16) (by decide) ?_
              refine w_invokevirtual rX3_startsFactor_191 rfl rfl rfl (Nat.le_of_ble_eq_true rfl) ⟨trivial, trivial, trivial⟩ (G_is (by decide) rfl) (by decide) (by decide) ?_
              refine s_X3_endsName ?_
              show WP mX3_startsFactor 194 _ _ _ 0 0 _
              refine w_ireturn rX3_startsFactor_194 (Or.inr rfl) ?_
              exact j1 _ ((((((if_neg h1_0).trans (if_neg h1_1)).trans (if_neg h1_2)).trans (if_neg h1_3)).trans (if_neg h1_4)).trans (if_pos h1_5)).symm _ ((((((if_neg h1_0).trans (if_neg h1_1)).trans (if_neg h1_2)).trans (if_neg h1_3)).trans (if_neg h1_4)).trans (if_pos h1_5)).symm
            · skip
              refine ⟨fun h1_6 => ?_, fun h1_6 => ?_⟩
              · skip
                refine w_aload_n rX3_startsFactor_164 rfl ?_
                refine w_bipush rX3_startsFactor_165 (x := 9) (by decide) ?_
                refine w_iconst rX3_startsFactor_167 (x := 2) (by decide) ?_
                refine w_invokevirtual rX3_startsFactor_168 rfl rfl rfl (Nat.le_of_ble_eq_true rfl) ⟨trivial, trivial, trivial, trivial⟩ (G_is (by decide) rfl) (by decide) (by decide) ?_
                refine s_X3_startsFunction ?_
                show WP mX3_startsFactor 171 _ _ _ 0 0 _
                refine w_ireturn rX3_startsFactor_171 b01_X3_startsFunction ?_
                exact j1 _ (((((((if_neg h1_0).trans (if_neg h1_1)).trans (if_neg h1_2)).trans (if_neg h1_3)).trans (if_neg h1_4)).trans (if_neg h1_5)).trans (if_pos h1_6)).symm _ (((((((if_neg h1_0).trans (if_neg h1_1)).trans (if_neg h1_2)).trans (if_neg h1_3)).trans (if_neg h1_4)).trans (if_neg h1_5)).trans (if_pos h1_6)).symm
              · skip
                refine ⟨fun h1_7 => ?_, fun h1_7 => ?_⟩
                · skip
                  refine w_aload_n rX3_startsFactor_286 rfl ?_
                  refine x_getI rX3_startsFactor_287 rfl rfl (G_is (by decide) rfl) ?_
                  have j290 : ∀ I290 : Nat → Nat → Int32, I290 = (if (I 3 5) = 0 then I else (fI_X3_endsName 17 I) : Nat → Nat → Int32) → ∀ s290_0 : Int32, s290_0 = (if (I 3 5) = 0 then 0 else 1 : Int32) → WP mX3_startsFactor 307 [some (.ref 3), some (.int ch)] [.int s290_0] (G X I290 L F) 0 0 Q := by
                    intro I290 eI290 s290_0 es290_0
                    subst eI290
                    subst es290_0
                    skip
                    refine w_ireturn rX3_startsFactor_307 (show (if (I 3 5) = 0 then 0 else 1 : Int32) = 0 ∨ (if (I 3 5) = 0 then 0 else 1 : Int32) = 1 from by repeat' first | refine b01_ite ?_ ?_ | exact Or.inl rfl | exact Or.inr rfl) ?_
                    exact j1 _ ((((((((if_neg h1_0).trans (if_neg h1_1)).trans (if_neg h1_2)).trans (if_neg h1_3)).trans (if_neg h1_4)).trans (if_neg h1_5)).trans (if_neg h1_6)).trans (if_pos h1_7)).symm _ ((((((((if_neg h1_0).trans (if_neg h1_1)).trans (if_neg h1_2)).trans (if_neg h1_3)).trans (if_neg h1_4)).trans (if_neg h1_5)).trans (if_neg h1_6)).trans (if_pos h1_7)).symm
                  refine w_ifeq rX3_startsFactor_290 (fun h290 => ?_) (fun h290 => ?_)
                  · skip
                    refine w_iconst rX3_startsFactor_306 (x := 0) (by decide) ?_
                    exact j290 _ (if_pos h290).symm _ (if_pos h290).symm
                  · skip
                    refine w_aload_n rX3_startsFactor_293 rfl ?_
                    refine w_bipush rX3_startsFactor_294 (x := 17) (by decide) ?_
                    refine w_invokevirtual rX3_startsFactor_296 rfl rfl rfl (Nat.le_of_ble_eq_true rfl) ⟨trivial, trivial, trivial⟩ (G_is (by decide) rfl) (by decide) (by decide) ?_
                    refine s_X3_endsName ?_
                    show WP mX3_startsFactor 299 _ _ _ 0 0 _
                    refine w_ifeq rX3_startsFactor_299 (fun h => absurd h (show ¬ (1 : Int32) = 0 from by decide)) (fun _ => ?_)
                    refine w_iconst rX3_startsFactor_302 (x := 1) (by decide) ?_
                    refine w_goto rX3_startsFactor_303 ?_
                    exact j290 _ (if_neg h290).symm _ (if_neg h290).symm
                · skip
                  refine ⟨fun h1_8 => ?_, fun h1_8 => ?_⟩
                  · skip
                    refine w_aload_n rX3_startsFactor_239 rfl ?_
                    refine x_getI rX3_startsFactor_240 rfl rfl (G_is (by decide) rfl) ?_
                    have j243 : ∀ I243 : Nat → Nat → Int32, I243 = (if (I 3 5) = 0 then (fI_X3_startsName 3 6 I) else I : Nat → Nat → Int32) → ∀ s243_0 : Int32, s243_0 = (if (I 3 5) = 0 then 1 else 0 : Int32) → WP mX3_startsFactor 261 [some (.ref 3), some (.int ch)] [.int s243_0] (G X I243 L F) 0 0 Q := by
                      intro I243 eI243 s243_0 es243_0
                      subst eI243
                      subst es243_0
                      skip
                      refine w_ireturn rX3_startsFactor_261 (show (if (I 3 5) = 0 then 1 else 0 : Int32) = 0 ∨ (if (I 3 5) = 0 then 1 else 0 : Int32) = 1 from by repeat' first | refine b01_ite ?_ ?_ | exact Or.inl rfl | exact Or.inr rfl) ?_
                      exact j1 _ (((((((((if_neg h1_0).trans (if_neg h1_1)).trans (if_neg h1_2)).trans (if_neg h1_3)).trans (if_neg h1_4)).trans (if_neg h1_5)).trans (if_neg h1_6)).trans (if_neg h1_7)).trans (if_pos h1_8)).symm _ (((((((((if_neg h1_0).trans (if_neg h1_1)).trans (if_neg h1_2)).trans (if_neg h1_3)).trans (if_neg h1_4)).trans (if_neg h1_5)).trans (if_neg h1_6)).trans (if_neg h1_7)).trans (if_pos h1_8)).symm
                    refine w_ifne rX3_startsFactor_243 (fun h243 => ?_) (fun h243 => ?_)
                    · skip
                      refine w_iconst rX3_startsFactor_260 (x := 0) (by decide) ?_
                      exact j243 _ (if_neg h243).symm _ (if_neg h243).symm
                    · skip
                      refine w_aload_n rX3_startsFactor_246 rfl ?_
                      refine w_iconst rX3_startsFactor_247 (x := 3) (by decide) ?_
                      refine w_bipush rX3_startsFactor_248 (x := 6) (by decide) ?_
                      refine w_invokevirtual rX3_startsFactor_250 rfl rfl rfl (Nat.le_of_ble_eq_true rfl) ⟨trivial, trivial, trivial, trivial⟩ (G_is (by decide) rfl) (by decide) (by decide) ?_
                      refine s_X3_startsName ?_
                      show WP mX3_startsFactor 253 _ _ _ 0 0 _
                      refine w_ifeq rX3_startsFactor_253 (fun h => absurd h (show ¬ (1 : Int32) = 0 from by decide)) (fun _ => ?_)
                      refine w_iconst rX3_startsFactor_256 (x := 1) (by decide) ?_
                      refine w_goto rX3_startsFactor_257 ?_
                      exact j243 _ (if_pos h243).symm _ (if_pos h243).symm
                  · skip
                    refine ⟨fun h1_9 => ?_, fun h1_9 => ?_⟩
                    · skip
                      refine w_aload_n rX3_startsFactor_156 rfl ?_
                      refine w_bipush rX3_startsFactor_157 (x := 8) (by decide) ?_
                      refine w_iconst rX3_startsFactor_159 (x := 1) (by decide) ?_
                      refine w_invokevirtual rX3_startsFactor_160 rfl rfl rfl (Nat.le_of_ble_eq_true rfl) ⟨trivial, trivial, trivial, trivial⟩ (G_is (by decide) rfl) (by decide) (by decide) ?_
                      refine s_X3_startsFunction ?_
                      show WP mX3_startsFactor 163 _ _ _ 0 0 _
                      refine w_ireturn rX3_startsFactor_163 b01_X3_startsFunction ?_
                      exact j1 _ ((((((((((if_neg h1_0).trans (if_neg h1_1)).trans (if_neg h1_2)).trans (if_neg h1_3)).trans (if_neg h1_4)).trans (if_neg h1_5)).trans (if_neg h1_6)).trans (if_neg h1_7)).trans (if_neg h1_8)).trans (if_pos h1_9)).symm _ ((((((((((if_neg h1_0).trans (if_neg h1_1)).trans (if_neg h1_2)).trans (if_neg h1_3)).trans (if_neg h1_4)).trans (if_neg h1_5)).trans (if_neg h1_6)).trans (if_neg h1_7)).trans (if_neg h1_8)).trans (if_pos h1_9)).symm
                    · skip
                      refine ⟨fun h1_10 => ?_, fun h1_10 => ?_⟩
                      · skip
                        refine w_aload_n rX3_startsFactor_195 rfl ?_
                        refine x_getI rX3_startsFactor_196 rfl rfl (G_is (by decide) rfl) ?_
                        have j199 : ∀ I199 : Nat → Nat → Int32, I199 = (if (I 3 5) = 0 then (fI_X3_endsName 15 I) else I : Nat → Nat → Int32) → ∀ s199_0 : Int32, s199_0 = (if (I 3 5) = 0 then 1 else 0 : Int32) → WP mX3_startsFactor 216 [some (.ref 3), some (.int ch)] [.int s199_0] (G X I199 L F) 0 0 Q := by
                          intro I199 eI199 s199_0 es199_0
                          subst eI199
                          subst es199_0
                          skip
                          refine w_ireturn rX3_startsFactor_216 (show (if (I 3 5) = 0 then 1 else 0 : Int32) = 0 ∨ (if (I 3 5) = 0 then 1 else 0 : Int32) = 1 from by repeat' first | refine b01_ite ?_ ?_ | exact Or.inl rfl | exact Or.inr rfl) ?_
                          exact j1 _ (((((((((((if_neg h1_0).trans (if_neg h1_1)).trans (if_neg h1_2)).trans (if_neg h1_3)).trans (if_neg h1_4)).trans (if_neg h1_5)).trans (if_neg h1_6)).trans (if_neg h1_7)).trans (if_neg h1_8)).trans (if_neg h1_9)).trans (if_pos h1_10)).symm _ (((((((((((if_neg h1_0).trans (if_neg h1_1)).trans (if_neg h1_2)).trans (if_neg h1_3)).trans (if_neg h1_4)).trans (if_neg h1_5)).trans (if_neg h1_6)).trans (if_neg h1_7)).trans (if_neg h1_8)).trans (if_neg h1_9)).trans (if_pos h1_10)).symm
                        refine w_ifne rX3_startsFactor_199 (fun h199 => ?_) (fun h199 => ?_)
                        · skip
                          refine w_iconst rX3_startsFactor_215 (x := 0) (by decide) ?_
                          exact j199 _ (if_neg h199).symm _ (if_neg h199).symm
                        · skip
                          refine w_aload_n rX3_startsFactor_202 rfl ?_
                          refine w_bipush rX3_startsFactor_203 (x := 15) (by decide) ?_
                          refine w_invokevirtual rX3_startsFactor_205 rfl rfl rfl (Nat.le_of_ble_eq_true rfl) ⟨trivial, trivial, trivial⟩ (G_is (by decide) rfl) (by decide) (by decide) ?_
                          refine s_X3_endsName ?_
                          show WP mX3_startsFactor 208 _ _ _ 0 0 _
                          refine w_ifeq rX3_startsFactor_208 (fun h => absurd h (show ¬ (1 : Int32) = 0 from by decide)) (fun _ => ?_)
                          refine w_iconst rX3_startsFactor_211 (x := 1) (by decide) ?_
                          refine w_goto rX3_startsFactor_212 ?_
                          exact j199 _ (if_pos h199).symm _ (if_pos h199).symm
                      · skip
                        refine ⟨fun h1_11 => ?_, fun h1_11 => ?_⟩
                        · skip
                          refine w_aload_n rX3_startsFactor_262 rfl ?_
                          refine x_getI rX3_startsFactor_263 rfl rfl (G_is (by decide) rfl) ?_
                          have j266 : ∀ I266 : Nat → Nat → Int32, I266 = (if (I 3 5) = 0 then (fI_X3_startsName 9 6 I) else I : Nat → Nat → Int32) → ∀ s266_0 : Int32, s266_0 = (if (I 3 5) = 0 then 1 else 0 : Int32) → WP mX3_startsFactor 285 [some (.ref 3), some (.int ch)] [.int s266_0] (G X I266 L F) 0 0 Q := by
                            intro I266 eI266 s266_0 es266_0
                            subst eI266
                            subst es266_0
                            skip
                            refine w_ireturn rX3_startsFactor_285 (show (if (I 3 5) = 0 then 1 else 0 : Int32) = 0 ∨ (if (I 3 5) = 0 then 1 else 0 : Int32) = 1 from by repeat' first | refine b01_ite ?_ ?_ | exact Or.inl rfl | exact Or.inr rfl) ?_
                            exact j1 _ ((((((((((((if_neg h1_0).trans (if_neg h1_1)).trans (if_neg h1_2)).trans (if_neg h1_3)).trans (if_neg h1_4)).trans (if_neg h1_5)).trans (if_neg h1_6)).trans (if_neg h1_7)).trans (if_neg h1_8)).trans (if_neg h1_9)).trans (if_neg h1_10)).trans (if_pos h1_11)).symm _ ((((((((((((if_neg h1_0).trans (if_neg h1_1)).trans (if_neg h1_2)).trans (if_neg h1_3)).trans (if_neg h1_4)).trans (if_neg h1_5)).trans (if_neg h1_6)).trans (if_neg h1_7)).trans (if_neg h1_8)).trans (if_neg h1_9)).trans (if_neg h1_10)).trans (if_pos h1_11)).symm
                          refine w_ifne rX3_startsFactor_266 (fun h266 => ?_) (fun h266 => ?_)
                          · skip
                            refine w_iconst rX3_startsFactor_284 (x := 0) (by decide) ?_
                            exact j266 _ (if_neg h266).symm _ (if_neg h266).symm
                          · skip
                            refine w_aload_n rX3_startsFactor_269 rfl ?_
                            refine w_bipush rX3_startsFactor_270 (x := 9) (by decide) ?_
                            refine w_bipush rX3_startsFactor_272 (x := 6) (by decide) ?_
                            refine w_invokevirtual rX3_startsFactor_274 rfl rfl rfl (Nat.le_of_ble_eq_true rfl) ⟨trivial, trivial, trivial, trivial⟩ (G_is (by decide) rfl) (by decide) (by decide) ?_
                            refine s_X3_startsName ?_
                            show WP mX3_startsFactor 277 _ _ _ 0 0 _
                            refine w_ifeq rX3_startsFactor_277 (fun h => absurd h (show ¬ (1 : Int32) = 0 from by decide)) (fun _ => ?_)
                            refine w_iconst rX3_startsFactor_280 (x := 1) (by decide) ?_
                            refine w_goto rX3_startsFactor_281 ?_
                            exact j266 _ (if_pos h266).symm _ (if_pos h266).symm
                        · skip
                          refine ⟨fun h1_12 => ?_, fun h1_12 => ?_⟩
                          · skip
                            refine w_aload_n rX3_startsFactor_330 rfl ?_
                            refine x_getI rX3_startsFactor_331 rfl rfl (G_is (by decide) rfl) ?_
                            have j334 : ∀ I334 : Nat → Nat → Int32, I334 = (if (I 3 5) = 0 then I else (fI_X3_endsName 19 I) : Nat → Nat → Int32) → ∀ s334_0 : Int32, s334_0 = (if (I 3 5) = 0 then 0 else 1 : Int32) → WP mX3_startsFactor 351 [some (.ref 3), some (.int ch)] [.int s334_0] (G X I334 L F) 0 0 Q := by
                              intro I334 eI334 s334_0 es334_0
                              subst eI334
                              subst es334_0
                              skip
                              refine w_ireturn rX3_startsFactor_351 (show (if (I 3 5) = 0 then 0 else 1 : Int32) = 0 ∨ (if (I 3 5) = 0 then 0 else 1 : Int32) = 1 from by repeat' first | refine b01_ite ?_ ?_ | exact Or.inl rfl | exact Or.inr rfl) ?_
                              exact j1 _ (((((((((((((if_neg h1_0).trans (if_neg h1_1)).trans (if_neg h1_2)).trans (if_neg h1_3)).trans (if_neg h1_4)).trans (if_neg h1_5)).trans (if_neg h1_6)).trans (if_neg h1_7)).trans (if_neg h1_8)).trans (if_neg h1_9)).trans (if_neg h1_10)).trans (if_neg h1_11)).trans (if_pos h1_12)).symm _ (((((((((((((if_neg h1_0).trans (if_neg h1_1)).trans (if_neg h1_2)).trans (if_neg h1_3)).trans (if_neg h1_4)).trans (if_neg h1_5)).trans (if_neg h1_6)).trans (if_neg h1_7)).trans (if_neg h1_8)).trans (if_neg h1_9)).trans (if_neg h1_10)).trans (if_neg h1_11)).trans (if_pos h1_12)).symm
                            refine w_ifeq rX3_startsFactor_334 (fun h334 => ?_) (fun h334 => ?_)
                            · skip
                              refine w_iconst rX3_startsFactor_350 (x := 0) (by decide) ?_
                              exact j334 _ (if_pos h334).symm _ (if_pos h334).symm
                            · skip
                              refine w_aload_n rX3_startsFactor_337 rfl ?_
                              refine w_bipush rX3_startsFactor_338 (x := 19) (by decide) ?_
                              refine w_invokevirtual rX3_startsFactor_340 rfl rfl rfl (Nat.le_of_ble_eq_true rfl) ⟨trivial, trivial, trivial⟩ (G_is (by decide) rfl) (by decide) (by decide) ?_
                              refine s_X3_endsName ?_
                              show WP mX3_startsFactor 343 _ _ _ 0 0 _
                              refine w_ifeq rX3_startsFactor_343 (fun h => absurd h (show ¬ (1 : Int32) = 0 from by decide)) (fun _ => ?_)
                              refine w_iconst rX3_startsFactor_346 (x := 1) (by decide) ?_
                              refine w_goto rX3_startsFactor_347 ?_
                              exact j334 _ (if_neg h334).symm _ (if_neg h334).symm
                          · skip
                            refine ⟨fun h1_13 => ?_, fun h1_13 => ?_⟩
                            · skip
                              refine w_aload_n rX3_startsFactor_172 rfl ?_
                              refine w_bipush rX3_startsFactor_173 (x := 10) (by decide) ?_
                              refine w_iconst rX3_startsFactor_175 (x := 0) (by decide) ?_
                              refine w_invokevirtual rX3_startsFactor_176 rfl rfl rfl (Nat.le_of_ble_eq_true rfl) ⟨trivial, trivial, trivial, trivial⟩ (G_is (by decide) rfl) (by decide) (by decide) ?_
                              refine s_X3_startsFunction ?_
                              show WP mX3_startsFactor 179 _ _ _ 0 0 _
                              refine w_ireturn rX3_startsFactor_179 b01_X3_startsFunction ?_
                              exact j1 _ ((((((((((((((if_neg h1_0).trans (if_neg h1_1)).trans (if_neg h1_2)).trans (if_neg h1_3)).trans (if_neg h1_4)).trans (if_neg h1_5)).trans (if_neg h1_6)).trans (if_neg h1_7)).trans (if_neg h1_8)).trans (if_neg h1_9)).trans (if_neg h1_10)).trans (if_neg h1_11)).trans (if_neg h1_12)).trans (if_pos h1_13)).symm _ ((((((((((((((if_neg h1_0).trans (if_neg h1_1)).trans (if_neg h1_2)).trans (if_neg h1_3)).trans (if_neg h1_4)).trans (if_neg h1_5)).trans (if_neg h1_6)).trans (if_neg h1_7)).trans (if_neg h1_8)).trans (if_neg h1_9)).trans (if_neg h1_10)).trans (if_neg h1_11)).trans (if_neg h1_12)).trans (if_pos h1_13)).symm
                            · skip
                              refine ⟨fun h1_14 => ?_, fun h1_14 => ?_⟩
                              · skip
                                refine w_aload_n rX3_startsFactor_148 rfl ?_
                                refine w_bipush rX3_startsFactor_149 (x := 7) (by decide) ?_
                                refine w_iconst rX3_startsFactor_151 (x := 1) (by decide) ?_
                                refine w_invokevirtual rX3_startsFactor_152 rfl rfl rfl (Nat.le_of_ble_eq_true rfl) ⟨trivial, trivial, trivial, trivial⟩ (G_is (by decide) rfl) (by decide) (by decide) ?_
                                refine s_X3_startsFunction ?_
                                show WP mX3_startsFactor 155 _ _ _ 0 0 _
                                refine w_ireturn rX3_startsFactor_155 b01_X3_startsFunction ?_
                                exact j1 _ (((((((((((((((if_neg h1_0).trans (if_neg h1_1)).trans (if_neg h1_2)).trans (if_neg h1_3)).trans (if_neg h1_4)).trans (if_neg h1_5)).trans (if_neg h1_6)).trans (if_neg h1_7)).trans (if_neg h1_8)).trans (if_neg h1_9)).trans (if_neg h1_10)).trans (if_neg h1_11)).trans (if_neg h1_12)).trans (if_neg h1_13)).trans (if_pos h1_14)).symm _ (((((((((((((((if_neg h1_0).trans (if_neg h1_1)).trans (if_neg h1_2)).trans (if_neg h1_3)).trans (if_neg h1_4)).trans (if_neg h1_5)).trans (if_neg h1_6)).trans (if_neg h1_7)).trans (if_neg h1_8)).trans (if_neg h1_9)).trans (if_neg h1_10)).trans (if_neg h1_11)).trans (if_neg h1_12)).trans (if_neg h1_13)).trans (if_pos h1_14)).symm
                              · skip
                                refine w_iconst rX3_startsFactor_352 (x := 0) (by decide) ?_
                                refine w_ireturn rX3_startsFactor_353 (Or.inl rfl) ?_
                                exact j1 _ (((((((((((((((if_neg h1_0).trans (if_neg h1_1)).trans (if_neg h1_2)).trans (if_neg h1_3)).trans (if_neg h1_4)).trans (if_neg h1_5)).trans (if_neg h1_6)).trans (if_neg h1_7)).trans (if_neg h1_8)).trans (if_neg h1_9)).trans (if_neg h1_10)).trans (if_neg h1_11)).trans (if_neg h1_12)).trans (if_neg h1_13)).trans (if_neg h1_14)).symm _ (((((((((((((((if_neg h1_0).trans (if_neg h1_1)).trans (if_neg h1_2)).trans (if_neg h1_3)).trans (if_neg h1_4)).trans (if_neg h1_5)).trans (if_neg h1_6)).trans (if_neg h1_7)).trans (if_neg h1_8)).trans (if_neg h1_9)).trans (if_neg h1_10)).trans (if_neg h1_11)).trans (if_neg h1_12)).trans (if_neg h1_13)).trans (if_neg h1_14)).symm
theorem b01_X3_startsFactor {ch : Int32} {I : Nat → Nat → Int32} : (f_X3_startsFactor ch I) = 0 ∨ (f_X3_startsFactor ch I) = 1 := by
  unfold f_X3_startsFactor
  repeat' first | refine b01_ite ?_ ?_ | exact Or.inl rfl | exact Or.inr rfl | exact b01_X3_endsName | exact b01_X3_startsName | exact b01_X3_hold | exact b01_X3_startsFunction
