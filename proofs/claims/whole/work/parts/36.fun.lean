/-! own: methods as functions, written by a program -/
set_option maxRecDepth 100000
def p_X9_judge (o : Nat) (I : Nat → Nat → Int32) (F : Nat → Nat → UInt32) : Prop := ((¬ (f_X9_isDam (I o 0)) = 0 → (¬ (f_X9_isRun (I o 1) I) = 0 → (¬ (f_X9_isHour (I 0 9)) = 0 → (((f_X9_reasonAgainst (I o 1) I) = 0 → ((Op.cmpValue (FP.fcmp (F ((423 + 5 * Int32.toNatClampNeg (I o 0)) + 4) (Int32.toNatClampNeg (I 0 9))) (FP.i2f (I (423 + 5 * Int32.toNatClampNeg (I o 0)) 10))) .l) < 0 → (¬ (I 0 9) < (I (383 + Int32.toNatClampNeg (I o 1)) 2) → vf_n32 (FP.fmul (F (423 + 5 * Int32.toNatClampNeg (I o 0)) 12) 1061158912) ∧ (True))) ∧ (¬ (Op.cmpValue (FP.fcmp (F ((423 + 5 * Int32.toNatClampNeg (I o 0)) + 4) (Int32.toNatClampNeg (I 0 9))) (FP.i2f (I (423 + 5 * Int32.toNatClampNeg (I o 0)) 10))) .l) < 0 → vf_n32 (FP.fsub 1065353216 (F (423 + 5 * Int32.toNatClampNeg (I o 0)) 12)) ∧ (vf_n32 (FP.fmul (FP.fsub 1065353216 (F (423 + 5 * Int32.toNatClampNeg (I o 0)) 12)) 1056964608) ∧ (vf_n32 (FP.fadd (F (423 + 5 * Int32.toNatClampNeg (I o 0)) 12) (FP.fmul (FP.fsub 1065353216 (F (423 + 5 * Int32.toNatClampNeg (I o 0)) 12)) 1056964608)) ∧ (True))))) ∧ (¬ (f_X9_reasonAgainst (I o 1) I) = 0 → vf_n32 (FP.fmul (F (423 + 5 * Int32.toNatClampNeg (I o 0)) 12) 1063675494) ∧ (True))) ∧ (True))))) ∧ (True)
def fI_X9_judge (o : Nat) (I : Nat → Nat → Int32) (F : Nat → Nat → UInt32) : Nat → Nat → Int32 := (if (f_X9_isDam (I o 0)) = 0 then I else (if (f_X9_isRun (I o 1) I) = 0 then I else (if (f_X9_isHour (I 0 9)) = 0 then I else (if (f_X9_reasonAgainst (I o 1) I) = 0 then (if (Op.cmpValue (FP.fcmp (F ((423 + 5 * Int32.toNatClampNeg (I o 0)) + 4) (Int32.toNatClampNeg (I 0 9))) (FP.i2f (I (423 + 5 * Int32.toNatClampNeg (I o 0)) 10))) .l) < 0 then (if (I 0 9) < (I (383 + Int32.toNatClampNeg (I o 1)) 2) then I else (am_u I o 4 2) : Nat → Nat → Int32) else (if (((am_u I o 4 1) 0 9) - ((am_u I o 4 1) o 2)) < ((am_u I o 4 1) (423 + 5 * Int32.toNatClampNeg (I o 0)) 11) then (am_u I o 4 1) else (am_u (am_u I o 4 1) (423 + 5 * Int32.toNatClampNeg (I o 0)) 13 (((am_u I o 4 1) (423 + 5 * Int32.toNatClampNeg (I o 0)) 13) + ((am_u I o 4 1) o 3))) : Nat → Nat → Int32) : Nat → Nat → Int32) else (am_u I o 4 3) : Nat → Nat → Int32) : Nat → Nat → Int32) : Nat → Nat → Int32) : Nat → Nat → Int32)
def fF_X9_judge (o : Nat) (I : Nat → Nat → Int32) (F : Nat → Nat → UInt32) : Nat → Nat → UInt32 := (if (f_X9_isDam (I o 0)) = 0 then F else (if (f_X9_isRun (I o 1) I) = 0 then F else (if (f_X9_isHour (I 0 9)) = 0 then F else (if (f_X9_reasonAgainst (I o 1) I) = 0 then (if (Op.cmpValue (FP.fcmp (F ((423 + 5 * Int32.toNatClampNeg (I o 0)) + 4) (Int32.toNatClampNeg (I 0 9))) (FP.i2f (I (423 + 5 * Int32.toNatClampNeg (I o 0)) 10))) .l) < 0 then (if (I 0 9) < (I (383 + Int32.toNatClampNeg (I o 1)) 2) then F else (am_u F (423 + 5 * Int32.toNatClampNeg (I o 0)) 12 (FP.fmul (F (423 + 5 * Int32.toNatClampNeg (I o 0)) 12) 1061158912)) : Nat → Nat → UInt32) else (am_u F (423 + 5 * Int32.toNatClampNeg (I o 0)) 12 (FP.fadd (F (423 + 5 * Int32.toNatClampNeg (I o 0)) 12) (FP.fmul (FP.fsub 1065353216 (F (423 + 5 * Int32.toNatClampNeg (I o 0)) 12)) 1056964608))) : Nat → Nat → UInt32) else (am_u F (423 + 5 * Int32.toNatClampNeg (I o 0)) 12 (FP.fmul (F (423 + 5 * Int32.toNatClampNeg (I o 0)) 12) 1063675494)) : Nat → Nat → UInt32) : Nat → Nat → UInt32) : Nat → Nat → UInt32) : Nat → Nat → UInt32)
theorem s_X9_judge {X : Nat × (Nat → Int32)} {I : Nat → Nat → Int32} {L : Nat → Nat → Int64} {F : Nat → Nat → UInt32} {Q : AQ} {o : Nat} (ho : isSir o) (p : (p_X9_judge o I F)) (q : Q (.inl none) (G X (fI_X9_judge o I F) L (fF_X9_judge o I F))) : WP mX9_judge 0 (am_ent 4 [.ref 0, .ref o]) [] (G X I L F) 0 0 Q := by
  unfold fI_X9_judge fF_X9_judge at q
  unfold p_X9_judge at p
  have q0 := q
  clear q
  have q : ((¬ (f_X9_isDam (I o 0)) = 0 → (¬ (f_X9_isRun (I o 1) I) = 0 → (¬ (f_X9_isHour (I 0 9)) = 0 → (((f_X9_reasonAgainst (I o 1) I) = 0 → ((Op.cmpValue (FP.fcmp (F ((423 + 5 * Int32.toNatClampNeg (I o 0)) + 4) (Int32.toNatClampNeg (I 0 9))) (FP.i2f (I (423 + 5 * Int32.toNatClampNeg (I o 0)) 10))) .l) < 0 → (¬ (I 0 9) < (I (383 + Int32.toNatClampNeg (I o 1)) 2) → vf_n32 (FP.fmul (F (423 + 5 * Int32.toNatClampNeg (I o 0)) 12) 1061158912) ∧ (True))) ∧ (¬ (Op.cmpValue (FP.fcmp (F ((423 + 5 * Int32.toNatClampNeg (I o 0)) + 4) (Int32.toNatClampNeg (I 0 9))) (FP.i2f (I (423 + 5 * Int32.toNatClampNeg (I o 0)) 10))) .l) < 0 → vf_n32 (FP.fsub 1065353216 (F (423 + 5 * Int32.toNatClampNeg (I o 0)) 12)) ∧ (vf_n32 (FP.fmul (FP.fsub 1065353216 (F (423 + 5 * Int32.toNatClampNeg (I o 0)) 12)) 1056964608) ∧ (vf_n32 (FP.fadd (F (423 + 5 * Int32.toNatClampNeg (I o 0)) 12) (FP.fmul (FP.fsub 1065353216 (F (423 + 5 * Int32.toNatClampNeg (I o 0)) 12)) 1056964608)) ∧ (True))))) ∧ (¬ (f_X9_reasonAgainst (I o 1) I) = 0 → vf_n32 (FP.fmul (F (423 + 5 * Int32.toNatClampNeg (I o 0)) 12) 1063675494) ∧ (True))) ∧ (True))))) ∧ (Q (.inl none) (G X (if (f_X9_isDam (I o 0)) = 0 then I else (if (f_X9_isRun (I o 1) I) = 0 then I else (if (f_X9_isHour (I 0 9)) = 0 then I else (if (f_X9_reasonAgainst (I o 1) I) = 0 then (if (Op.cmpValue (FP.fcmp (F ((423 + 5 * Int32.toNatClampNeg (I o 0)) + 4) (Int32.toNatClampNeg (I 0 9))) (FP.i2f (I (423 + 5 * Int32.toNatClampNeg (I o 0)) 10))) .l) < 0 then (if (I 0 9) < (I (383 + Int32.toNatClampNeg (I o 1)) 2) then I else (am_u I o 4 2) : Nat → Nat → Int32) else (if (((am_u I o 4 1) 0 9) - ((am_u I o 4 1) o 2)) < ((am_u I o 4 1) (423 + 5 * Int32.toNatClampNeg (I o 0)) 11) then (am_u I o 4 1) else (am_u (am_u I o 4 1) (423 + 5 * Int32.toNatClampNeg (I o 0)) 13 (((am_u I o 4 1) (423 + 5 * Int32.toNatClampNeg (I o 0)) 13) + ((am_u I o 4 1) o 3))) : Nat → Nat → Int32) : Nat → Nat → Int32) else (am_u I o 4 3) : Nat → Nat → Int32) : Nat → Nat → Int32) : Nat → Nat → Int32) : Nat → Nat → Int32) L (if (f_X9_isDam (I o 0)) = 0 then F else (if (f_X9_isRun (I o 1) I) = 0 then F else (if (f_X9_isHour (I 0 9)) = 0 then F else (if (f_X9_reasonAgainst (I o 1) I) = 0 then (if (Op.cmpValue (FP.fcmp (F ((423 + 5 * Int32.toNatClampNeg (I o 0)) + 4) (Int32.toNatClampNeg (I 0 9))) (FP.i2f (I (423 + 5 * Int32.toNatClampNeg (I o 0)) 10))) .l) < 0 then (if (I 0 9) < (I (383 + Int32.toNatClampNeg (I o 1)) 2) then F else (am_u F (423 + 5 * Int32.toNatClampNeg (I o 0)) 12 (FP.fmul (F (423 + 5 * Int32.toNatClampNeg (I o 0)) 12) 1061158912)) : Nat → Nat → UInt32) else (am_u F (423 + 5 * Int32.toNatClampNeg (I o 0)) 12 (FP.fadd (F (423 + 5 * Int32.toNatClampNeg (I o 0)) 12) (FP.fmul (FP.fsub 1065353216 (F (423 + 5 * Int32.toNatClampNeg (I o 0)) 12)) 1056964608))) : Nat → Nat → UInt32) else (am_u F (423 + 5 * Int32.toNatClampNeg (I o 0)) 12 (FP.fmul (F (423 + 5 * Int32.toNatClampNeg (I o 0)) 12) 1063675494)) : Nat → Nat → UInt32) : Nat → Nat → UInt32) : Nat → Nat → UInt32) : Nat → Nat → UInt32))) := by
    exact ⟨p.1, q0⟩
  clear p q0
  refine w_aload_n rX9_judge_0 rfl ?_
  refine w_aload_n rX9_judge_1 rfl ?_
  refine x_getI rX9_judge_2 rfl rfl (G_isk ho) ?_
  refine w_invokevirtual rX9_judge_5 rfl rfl rfl (Nat.le_of_ble_eq_true rfl) ⟨trivial, trivial, trivial⟩ (G_is (by decide) rfl) (by decide) (by decide) ?_
  refine s_X9_isDam ?_
  show WP mX9_judge 8 _ _ _ 0 0 _
  have j8 : ∀ I8 : Nat → Nat → Int32, I8 = (if (f_X9_isDam (I o 0)) = 0 then I else (if (f_X9_isRun (I o 1) I) = 0 then I else (if (f_X9_isHour (I 0 9)) = 0 then I else (if (f_X9_reasonAgainst (I o 1) I) = 0 then (if (Op.cmpValue (FP.fcmp (F ((423 + 5 * Int32.toNatClampNeg (I o 0)) + 4) (Int32.toNatClampNeg (I 0 9))) (FP.i2f (I (423 + 5 * Int32.toNatClampNeg (I o 0)) 10))) .l) < 0 then (if (I 0 9) < (I (383 + Int32.toNatClampNeg (I o 1)) 2) then I else (am_u I o 4 2) : Nat → Nat → Int32) else (if (((am_u I o 4 1) 0 9) - ((am_u I o 4 1) o 2)) < ((am_u I o 4 1) (423 + 5 * Int32.toNatClampNeg (I o 0)) 11) then (am_u I o 4 1) else (am_u (am_u I o 4 1) (423 + 5 * Int32.toNatClampNeg (I o 0)) 13 (((am_u I o 4 1) (423 + 5 * Int32.toNatClampNeg (I o 0)) 13) + ((am_u I o 4 1) o 3))) : Nat → Nat → Int32) : Nat → Nat → Int32) else (am_u I o 4 3) : Nat → Nat → Int32) : Nat → Nat → Int32) : Nat → Nat → Int32) : Nat → Nat → Int32) → ∀ F8 : Nat → Nat → UInt32, F8 = (if (f_X9_isDam (I o 0)) = 0 then F else (if (f_X9_isRun (I o 1) I) = 0 then F else (if (f_X9_isHour (I 0 9)) = 0 then F else (if (f_X9_reasonAgainst (I o 1) I) = 0 then (if (Op.cmpValue (FP.fcmp (F ((423 + 5 * Int32.toNatClampNeg (I o 0)) + 4) (Int32.toNatClampNeg (I 0 9))) (FP.i2f (I (423 + 5 * Int32.toNatClampNeg (I o 0)) 10))) .l) < 0 then (if (I 0 9) < (I (383 + Int32.toNatClampNeg (I o 1)) 2) then F else (am_u F (423 + 5 * Int32.toNatClampNeg (I o 0)) 12 (FP.fmul (F (423 + 5 * Int32.toNatClampNeg (I o 0)) 12) 1061158912)) : Nat → Nat → UInt32) else (am_u F (423 + 5 * Int32.toNatClampNeg (I o 0)) 12 (FP.fadd (F (423 + 5 * Int32.toNatClampNeg (I o 0)) 12) (FP.fmul (FP.fsub 1065353216 (F (423 + 5 * Int32.toNatClampNeg (I o 0)) 12)) 1056964608))) : Nat → Nat → UInt32) else (am_u F (423 + 5 * Int32.toNatClampNeg (I o 0)) 12 (FP.fmul (F (423 + 5 * Int32.toNatClampNeg (I o 0)) 12) 1063675494)) : Nat → Nat → UInt32) : Nat → Nat → UInt32) : Nat → Nat → UInt32) : Nat → Nat → UInt32) → Q (.inl none) (G X I8 L F8) := by
    intro I8 eI8 F8 eF8
    subst eI8
    subst eF8
    skip
    replace q := q.2
    exact q
  replace q := q.1
  refine w_ifeq rX9_judge_8 (fun h8 => ?_) (fun h8 => ?_)
  · skip
    refine w_return rX9_judge_32 ?_
    exact j8 _ (if_pos h8).symm _ (if_pos h8).symm
  · replace q := q h8
    refine w_aload_n rX9_judge_11 rfl ?_
    refine w_aload_n rX9_judge_12 rfl ?_
    refine x_getI rX9_judge_13 rfl rfl (G_isk ho) ?_
    refine w_invokevirtual rX9_judge_16 rfl rfl rfl (Nat.le_of_ble_eq_true rfl) ⟨trivial, trivial, trivial⟩ (G_is (by decide) rfl) (by decide) (by decide) ?_
    refine s_X9_isRun ?_
    show WP mX9_judge 19 _ _ _ 0 0 _
    refine w_ifeq rX9_judge_19 (fun h19 => ?_) (fun h19 => ?_)
    · skip
      refine w_return rX9_judge_32 ?_
      exact j8 _ ((if_neg h8).trans (if_pos h19)).symm _ ((if_neg h8).trans (if_pos h19)).symm
    · replace q := q h19
      refine w_aload_n rX9_judge_22 rfl ?_
      refine x_getI rX9_judge_23 rfl rfl (G_is (by decide) rfl) ?_
      refine w_invokestatic rX9_judge_26 rfl rfl rfl (Nat.le_of_ble_eq_true rfl) ⟨trivial, trivial⟩ trivial (by decide) (by decide) ?_
      refine s_X9_isHour ?_
      show WP mX9_judge 29 _ _ _ 0 0 _
      refine w_ifne rX9_judge_29 (fun h29 => ?_) (fun h29 => ?_)
      · replace q := q h29
        refine w_aload_n rX9_judge_33 rfl ?_
        refine w_getR rX9_judge_34 rfl rfl (G_is (by decide) rfl) (x := 381) rfl ?_
        refine w_aload_n rX9_judge_37 rfl ?_
        refine x_getI rX9_judge_38 rfl rfl (G_isk ho) ?_
        refine w_aaload rX9_judge_41 (G_aa (by decide) rfl rfl (gd_X9_isDam h8)) (ga_dam (gd_X9_isDam h8)) ?_
        refine w_astore_n rX9_judge_42 rfl trivial ?_
        refine w_aload_n rX9_judge_43 rfl ?_
        refine w_aload_n rX9_judge_44 rfl ?_
        refine x_getI rX9_judge_45 rfl rfl (G_isk ho) ?_
        refine w_invokevirtual rX9_judge_48 rfl rfl rfl (Nat.le_of_ble_eq_true rfl) ⟨trivial, trivial, trivial⟩ (G_is (by decide) rfl) (by decide) (by decide) ?_
        refine s_X9_reasonAgainst ?_
        show WP mX9_judge 51 _ _ _ 0 0 _
        have j51 : ∀ I51 : Nat → Nat → Int32, I51 = (if (f_X9_reasonAgainst (I o 1) I) = 0 then (if (Op.cmpValue (FP.fcmp (F ((423 + 5 * Int32.toNatClampNeg (I o 0)) + 4) (Int32.toNatClampNeg (I 0 9))) (FP.i2f (I (423 + 5 * Int32.toNatClampNeg (I o 0)) 10))) .l) < 0 then (if (I 0 9) < (I (383 + Int32.toNatClampNeg (I o 1)) 2) then I else (am_u I o 4 2) : Nat → Nat → Int32) else (if (((am_u I o 4 1) 0 9) - ((am_u I o 4 1) o 2)) < ((am_u I o 4 1) (423 + 5 * Int32.toNatClampNeg (I o 0)) 11) then (am_u I o 4 1) else (am_u (am_u I o 4 1) (423 + 5 * Int32.toNatClampNeg (I o 0)) 13 (((am_u I o 4 1) (423 + 5 * Int32.toNatClampNeg (I o 0)) 13) + ((am_u I o 4 1) o 3))) : Nat → Nat → Int32) : Nat → Nat → Int32) else (am_u I o 4 3) : Nat → Nat → Int32) → ∀ F51 : Nat → Nat → UInt32, F51 = (if (f_X9_reasonAgainst (I o 1) I) = 0 then (if (Op.cmpValue (FP.fcmp (F ((423 + 5 * Int32.toNatClampNeg (I o 0)) + 4) (Int32.toNatClampNeg (I 0 9))) (FP.i2f (I (423 + 5 * Int32.toNatClampNeg (I o 0)) 10))) .l) < 0 then (if (I 0 9) < (I (383 + Int32.toNatClampNeg (I o 1)) 2) then F else (am_u F (423 + 5 * Int32.toNatClampNeg (I o 0)) 12 (FP.fmul (F (423 + 5 * Int32.toNatClampNeg (I o 0)) 12) 1061158912)) : Nat → Nat → UInt32) else (am_u F (423 + 5 * Int32.toNatClampNeg (I o 0)) 12 (FP.fadd (F (423 + 5 * Int32.toNatClampNeg (I o 0)) 12) (FP.fmul (FP.fsub 1065353216 (F (423 + 5 * Int32.toNatClampNeg (I o 0)) 12)) 1056964608))) : Nat → Nat → UInt32) else (am_u F (423 + 5 * Int32.toNatClampNeg (I o 0)) 12 (FP.fmul (F (423 + 5 * Int32.toNatClampNeg (I o 0)) 12) 1063675494)) : Nat → Nat → UInt32) → ∀ d51_3 : Option Value, am_nl [d51_3] 1 → WP mX9_judge 186 [some (.ref 0), some (.ref o), some (.ref (423 + 5 * Int32.toNatClampNeg (I o 0))), d51_3] [] (G X I51 L F51) 0 0 Q := by
          intro I51 eI51 F51 eF51 d51_3 nd51_3
          subst eI51
          subst eF51
          skip
          replace q := q.2
          refine w_return rX9_judge_186 ?_
          exact j8 _ (((if_neg h8).trans (if_neg h19)).trans (if_neg h29)).symm _ (((if_neg h8).trans (if_neg h19)).trans (if_neg h29)).symm
        replace q := q.1
        refine w_ifeq rX9_judge_51 (fun h51 => ?_) (fun h51 => ?_)
        · replace q := q.1 h51
          refine w_aload_n rX9_judge_74 rfl ?_
          refine w_getR rX9_judge_75 rfl rfl (G_isk (gi_dam (gd_X9_isDam h8)).1) (gi_dam (gd_X9_isDam h8)).2.2.1 ?_
          refine w_aload_n rX9_judge_78 rfl ?_
          refine x_getI rX9_judge_79 rfl rfl (G_is (by decide) rfl) ?_
          refine x_faload rX9_judge_82 (G_atk (gi_dam (gd_X9_isDam h8)).2.2.2.2 (gd_X9_isHour h29)) ?_
          refine w_aload_n rX9_judge_83 rfl ?_
          refine x_getI rX9_judge_84 rfl rfl (G_isk (gi_dam (gd_X9_isDam h8)).1) ?_
          refine w_i2f rX9_judge_87 ?_
          refine w_fcmp rX9_judge_88 ?_
          refine w_iflt rX9_judge_89 (fun h89 => ?_) (fun h89 => ?_)
          · replace q := q.1 h89
            refine w_aload_n rX9_judge_150 rfl ?_
            refine x_getI rX9_judge_151 rfl rfl (G_is (by decide) rfl) ?_
            refine w_aload_n rX9_judge_154 rfl ?_
            refine w_getR rX9_judge_155 rfl rfl (G_is (by decide) rfl) (x := 379) rfl ?_
            refine w_aload_n rX9_judge_158 rfl ?_
            refine x_getI rX9_judge_159 rfl rfl (G_isk ho) ?_
            refine w_aaload rX9_judge_162 (G_aa (by decide) rfl rfl (gd_X9_isRun h19)) (ga_run (gd_X9_isRun h19)) ?_
            refine x_getI rX9_judge_163 rfl rfl (G_isk (gi_run (gd_X9_isRun h19))) ?_
            refine w_icmplt rX9_judge_166 (fun h166 => ?_) (fun h166 => ?_)
            · skip
              exact j51 _ (((if_pos h51).trans (if_pos h89)).trans (if_pos h166)).symm _ (((if_pos h51).trans (if_pos h89)).trans (if_pos h166)).symm (none) trivial
            · replace q := q h166
              refine w_aload_n rX9_judge_169 rfl ?_
              refine w_iconst rX9_judge_170 (x := 2) (by decide) ?_
              refine x_putI rX9_judge_171 rfl (G_isk ho) trivial ?_
              refine w_aload_n rX9_judge_174 rfl ?_
              refine w_aload_n rX9_judge_175 rfl ?_
              refine x_getF rX9_judge_176 rfl rfl (G_isk (gi_dam (gd_X9_isDam h8)).1) ?_
              refine w_ldc_wF rX9_judge_179 (x := 1061158912) (by decide) ?_
              refine w_fmul rX9_judge_182 q.1 ?_
              replace q := q.2
              refine x_putF rX9_judge_183 rfl (G_isk (gi_dam (gd_X9_isDam h8)).1) ?_
              exact j51 _ (((if_pos h51).trans (if_pos h89)).trans (if_neg h166)).symm _ (((if_pos h51).trans (if_pos h89)).trans (if_neg h166)).symm (none) trivial
          · replace q := q.2 h89
            refine w_aload_n rX9_judge_92 rfl ?_
            refine w_iconst rX9_judge_93 (x := 1) (by decide) ?_
            refine x_putI rX9_judge_94 rfl (G_isk ho) trivial ?_
            refine w_fconst rX9_judge_97 (x := 1065353216) rfl ?_
            refine w_aload_n rX9_judge_98 rfl ?_
            refine x_getF rX9_judge_99 rfl rfl (G_isk (gi_dam (gd_X9_isDam h8)).1) ?_
            refine w_fsub rX9_judge_102 q.1 ?_
            replace q := q.2
            refine w_fstore_n rX9_judge_103 rfl trivial ?_
            refine w_aload_n rX9_judge_104 rfl ?_
            refine w_aload_n rX9_judge_105 rfl ?_
            refine x_getF rX9_judge_106 rfl rfl (G_isk (gi_dam (gd_X9_isDam h8)).1) ?_
            refine w_fload_n rX9_judge_109 rfl ?_
            refine w_ldc_wF rX9_judge_110 (x := 1056964608) (by decide) ?_
            refine w_fmul rX9_judge_113 q.1 ?_
            replace q := q.2
            refine w_fadd rX9_judge_114 q.1 ?_
            replace q := q.2
            refine x_putF rX9_judge_115 rfl (G_isk (gi_dam (gd_X9_isDam h8)).1) ?_
            refine w_aload_n rX9_judge_118 rfl ?_
            refine x_getI rX9_judge_119 rfl rfl (G_is (by decide) rfl) ?_
            refine w_aload_n rX9_judge_122 rfl ?_
            refine x_getI rX9_judge_123 rfl rfl (G_isk ho) ?_
            refine w_isub rX9_judge_126 ?_
            refine w_aload_n rX9_judge_127 rfl ?_
            refine x_getI rX9_judge_128 rfl rfl (G_isk (gi_dam (gd_X9_isDam h8)).1) ?_
            have j131 : ∀ I131 : Nat → Nat → Int32, I131 = (if (((am_u I o 4 1) 0 9) - ((am_u I o 4 1) o 2)) < ((am_u I o 4 1) (423 + 5 * Int32.toNatClampNeg (I o 0)) 11) then (am_u I o 4 1) else (am_u (am_u I o 4 1) (423 + 5 * Int32.toNatClampNeg (I o 0)) 13 (((am_u I o 4 1) (423 + 5 * Int32.toNatClampNeg (I o 0)) 13) + ((am_u I o 4 1) o 3))) : Nat → Nat → Int32) → WP mX9_judge 147 [some (.ref 0), some (.ref o), some (.ref (423 + 5 * Int32.toNatClampNeg (I o 0))), some (.float (FP.fsub 1065353216 (F (423 + 5 * Int32.toNatClampNeg (I o 0)) 12)))] [] (G X I131 L (am_u F (423 + 5 * Int32.toNatClampNeg (I o 0)) 12 (FP.fadd (F (423 + 5 * Int32.toNatClampNeg (I o 0)) 12) (FP.fmul (FP.fsub 1065353216 (F (423 + 5 * Int32.toNatClampNeg (I o 0)) 12)) 1056964608)))) 0 0 Q := by
              intro I131 eI131
              subst eI131
              skip
              refine w_goto rX9_judge_147 ?_
              exact j51 _ ((if_pos h51).trans (if_neg h89)).symm _ ((if_pos h51).trans (if_neg h89)).symm (some (.float (FP.fsub 1065353216 (F (423 + 5 * Int32.toNatClampNeg (I o 0)) 12)))) trivial
            refine w_icmplt rX9_judge_131 (fun h131 => ?_) (fun h131 => ?_)
            · skip
              exact j131 _ (if_pos h131).symm
            · skip
              refine w_aload_n rX9_judge_134 rfl ?_
              refine w_dup rX9_judge_135 trivial ?_
              refine x_getI rX9_judge_136 rfl rfl (G_isk (gi_dam (gd_X9_isDam h8)).1) ?_
              refine w_aload_n rX9_judge_139 rfl ?_
              refine x_getI rX9_judge_140 rfl rfl (G_isk ho) ?_
              refine w_iadd rX9_judge_143 ?_
              refine x_putI rX9_judge_144 rfl (G_isk (gi_dam (gd_X9_isDam h8)).1) trivial ?_
              exact j131 _ (if_neg h131).symm
        · replace q := q.2 h51
          refine w_aload_n rX9_judge_54 rfl ?_
          refine w_iconst rX9_judge_55 (x := 3) (by decide) ?_
          refine x_putI rX9_judge_56 rfl (G_isk ho) trivial ?_
          refine w_aload_n rX9_judge_59 rfl ?_
          refine w_aload_n rX9_judge_60 rfl ?_
          refine x_getF rX9_judge_61 rfl rfl (G_isk (gi_dam (gd_X9_isDam h8)).1) ?_
          refine w_ldc_wF rX9_judge_64 (x := 1063675494) (by decide) ?_
          refine w_fmul rX9_judge_67 q.1 ?_
          replace q := q.2
          refine x_putF rX9_judge_68 rfl (G_isk (gi_dam (gd_X9_isDam h8)).1) ?_
          refine w_goto rX9_judge_71 ?_
          exact j51 _ (if_neg h51).symm _ (if_neg h51).symm (none) trivial
      · skip
        refine w_return rX9_judge_32 ?_
        exact j8 _ (((if_neg h8).trans (if_neg h19)).trans (if_pos h29)).symm _ (((if_neg h8).trans (if_neg h19)).trans (if_pos h29)).symm
def f_X10_thrown (I : Nat → Nat → Int32) : Int32 := (I 498 0)
theorem s_X10_thrown {X : Nat × (Nat → Int32)} {I : Nat → Nat → Int32} {L : Nat → Nat → Int64} {F : Nat → Nat → UInt32} {Q : AQ}  (q : Q (.inl (some (.int (f_X10_thrown I)))) (G X I L F)) : WP mX10_thrown 0 (am_ent 1 [.ref 498]) [] (G X I L F) 0 0 Q := by
  unfold f_X10_thrown at q
  refine w_aload_n rX10_thrown_0 rfl ?_
  refine x_getI rX10_thrown_1 rfl rfl (G_is (by decide) rfl) ?_
  refine w_ireturn rX10_thrown_4 trivial ?_
  exact q
def f_X10_holds (place : Int32) : Int32 := (if place = 0 then 1 else 0 : Int32)
def fI_X10_holds (place : Int32) (I : Nat → Nat → Int32) : Nat → Nat → Int32 := (am_u I 498 0 place)
theorem s_X10_holds {X : Nat × (Nat → Int32)} {I : Nat → Nat → Int32} {L : Nat → Nat → Int64} {F : Nat → Nat → UInt32} {Q : AQ} {place : Int32} (q : Q (.inl (some (.int (f_X10_holds place)))) (G X (fI_X10_holds place I) L F)) : WP mX10_holds 0 (am_ent 2 [.ref 498, .int place]) [] (G X I L F) 0 0 Q := by
  unfold f_X10_holds fI_X10_holds at q
  refine w_aload_n rX10_holds_0 rfl ?_
  refine w_iload_n rX10_holds_1 rfl ?_
  refine x_putI rX10_holds_2 rfl (G_is (by decide) rfl) trivial ?_
  refine w_iload_n rX10_holds_5 rfl ?_
  have j6 : ∀ s6_0 : Int32, s6_0 = (if place = 0 then 1 else 0 : Int32) → WP mX10_holds 14 [some (.ref 498), some (.int place)] [.int s6_0] (G X (am_u I 498 0 place) L F) 0 0 Q := by
    intro s6_0 es6_0
    subst es6_0
    skip
    refine w_ireturn rX10_holds_14 (show (if place = 0 then 1 else 0 : Int32) = 0 ∨ (if place = 0 then 1 else 0 : Int32) = 1 from by repeat' first | refine b01_ite ?_ ?_ | exact Or.inl rfl | exact Or.inr rfl) ?_
    exact q
  refine w_ifne rX10_holds_6 (fun h6 => ?_) (fun h6 => ?_)
  · skip
    refine w_iconst rX10_holds_13 (x := 0) (by decide) ?_
    exact j6 _ (if_neg h6).symm
  · skip
    refine w_iconst rX10_holds_9 (x := 1) (by decide) ?_
    refine w_goto rX10_holds_10 ?_
    exact j6 _ (if_pos h6).symm
theorem b01_X10_holds {place : Int32} : (f_X10_holds place) = 0 ∨ (f_X10_holds place) = 1 := by
  unfold f_X10_holds
  repeat' first | refine b01_ite ?_ ?_ | exact Or.inl rfl | exact Or.inr rfl
def f_X10_isIn (v : Int32) (least : Int32) (most : Int32) : Int32 := (if v < least then 0 else (if most < v then 0 else 1 : Int32) : Int32)
theorem s_X10_isIn {X : Nat × (Nat → Int32)} {I : Nat → Nat → Int32} {L : Nat → Nat → Int64} {F : Nat → Nat → UInt32} {Q : AQ} {v : Int32} {least : Int32} {most : Int32} (q : Q (.inl (some (.int (f_X10_isIn v least most)))) (G X I L F)) : WP mX10_isIn 0 (am_ent 3 [.int v, .int least, .int most]) [] (G X I L F) 0 0 Q := by
  unfold f_X10_isIn at q
  refine w_iload_n rX10_isIn_0 rfl ?_
  refine w_iload_n rX10_isIn_1 rfl ?_
  have j2 : ∀ s2_0 : Int32, s2_0 = (if v < least then 0 else (if most < v then 0 else 1 : Int32) : Int32) → WP mX10_isIn 15 [some (.int v), some (.int least), some (.int most)] [.int s2_0] (G X I L F) 0 0 Q := by
    intro s2_0 es2_0
    subst es2_0
    skip
    refine w_ireturn rX10_isIn_15 (show (if v < least then 0 else (if most < v then 0 else 1 : Int32) : Int32) = 0 ∨ (if v < least then 0 else (if most < v then 0 else 1 : Int32) : Int32) = 1 from by repeat' first | refine b01_ite ?_ ?_ | exact Or.inl rfl | exact Or.inr rfl) ?_
    exact q
  refine w_icmplt rX10_isIn_2 (fun h2 => ?_) (fun h2 => ?_)
  · skip
    refine w_iconst rX10_isIn_14 (x := 0) (by decide) ?_
    exact j2 _ (if_pos h2).symm
  · skip
    refine w_iload_n rX10_isIn_5 rfl ?_
    refine w_iload_n rX10_isIn_6 rfl ?_
    refine w_icmpgt rX10_isIn_7 (fun h7 => ?_) (fun h7 => ?_)
    · skip
      refine w_iconst rX10_isIn_14 (x := 0) (by decide) ?_
      exact j2 _ ((if_neg h2).trans (if_pos h7)).symm
    · skip
      refine w_iconst rX10_isIn_10 (x := 1) (by decide) ?_
      refine w_goto rX10_isIn_11 ?_
      exact j2 _ ((if_neg h2).trans (if_neg h7)).symm
theorem b01_X10_isIn {v : Int32} {least : Int32} {most : Int32} : (f_X10_isIn v least most) = 0 ∨ (f_X10_isIn v least most) = 1 := by
  unfold f_X10_isIn
  repeat' first | refine b01_ite ?_ ?_ | exact Or.inl rfl | exact Or.inr rfl
def f_X10_isModel (model : Int32) : Int32 := (f_X10_isIn model 0 5)
theorem s_X10_isModel {X : Nat × (Nat → Int32)} {I : Nat → Nat → Int32} {L : Nat → Nat → Int64} {F : Nat → Nat → UInt32} {Q : AQ} {model : Int32} (q : Q (.inl (some (.int (f_X10_isModel model)))) (G X I L F)) : WP mX10_isModel 0 (am_ent 1 [.int model]) [] (G X I L F) 0 0 Q := by
  unfold f_X10_isModel at q
  refine w_iload_n rX10_isModel_0 rfl ?_
  refine w_iconst rX10_isModel_1 (x := 0) (by decide) ?_
  refine w_iconst rX10_isModel_2 (x := 5) (by decide) ?_
  refine w_invokestatic rX10_isModel_3 rfl rfl rfl (Nat.le_of_ble_eq_true rfl) ⟨trivial, trivial, trivial, trivial⟩ trivial (by decide) (by decide) ?_
  refine s_X10_isIn ?_
  show WP mX10_isModel 6 _ _ _ 0 0 _
  refine w_ireturn rX10_isModel_6 b01_X10_isIn ?_
  exact q
theorem b01_X10_isModel {model : Int32} : (f_X10_isModel model) = 0 ∨ (f_X10_isModel model) = 1 := by
  unfold f_X10_isModel
  repeat' first | refine b01_ite ?_ ?_ | exact Or.inl rfl | exact Or.inr rfl | exact b01_X10_isIn
theorem gd_X10_isModel {v : Int32} (h : ¬ f_X10_isModel v = 0) : vp_in v 6 := by
  unfold f_X10_isModel f_X10_isIn at h
  repeat' split at h
  all_goals first | exact absurd rfl h | exact vi_c (m := 5) (by decide) (by decide) ‹¬ v < 0› ‹¬ 5 < v›
def f_X10_isDam (dam : Int32) : Int32 := (f_X10_isIn dam 0 2)
theorem s_X10_isDam {X : Nat × (Nat → Int32)} {I : Nat → Nat → Int32} {L : Nat → Nat → Int64} {F : Nat → Nat → UInt32} {Q : AQ} {dam : Int32} (q : Q (.inl (some (.int (f_X10_isDam dam)))) (G X I L F)) : WP mX10_isDam 0 (am_ent 1 [.int dam]) [] (G X I L F) 0 0 Q := by
  unfold f_X10_isDam at q
  refine w_iload_n rX10_isDam_0 rfl ?_
  refine w_iconst rX10_isDam_1 (x := 0) (by decide) ?_
  refine w_iconst rX10_isDam_2 (x := 2) (by decide) ?_
  refine w_invokestatic rX10_isDam_3 rfl rfl rfl (Nat.le_of_ble_eq_true rfl) ⟨trivial, trivial, trivial, trivial⟩ trivial (by decide) (by decide) ?_
  refine s_X10_isIn ?_
  show WP mX10_isDam 6 _ _ _ 0 0 _
  refine w_ireturn rX10_isDam_6 b01_X10_isIn ?_
  exact q
theorem b01_X10_isDam {dam : Int32} : (f_X10_isDam dam) = 0 ∨ (f_X10_isDam dam) = 1 := by
  unfold f_X10_isDam
  repeat' first | refine b01_ite ?_ ?_ | exact Or.inl rfl | exact Or.inr rfl | exact b01_X10_isIn
theorem gd_X10_isDam {v : Int32} (h : ¬ f_X10_isDam v = 0) : vp_in v 3 := by
  unfold f_X10_isDam f_X10_isIn at h
  repeat' split at h
  all_goals first | exact absurd rfl h | exact vi_c (m := 2) (by decide) (by decide) ‹¬ v < 0› ‹¬ 2 < v›
def f_X10_isVersion (ver : Int32) (I : Nat → Nat → Int32) : Int32 := (f_X10_isIn ver 0 ((I 498 5) - 1))
theorem s_X10_isVersion {X : Nat × (Nat → Int32)} {I : Nat → Nat → Int32} {L : Nat → Nat → Int64} {F : Nat → Nat → UInt32} {Q : AQ} {ver : Int32} (q : Q (.inl (some (.int (f_X10_isVersion ver I)))) (G X I L F)) : WP mX10_isVersion 0 (am_ent 2 [.ref 498, .int ver]) [] (G X I L F) 0 0 Q := by
  unfold f_X10_isVersion at q
  refine w_iload_n rX10_isVersion_0 rfl ?_
  refine w_iconst rX10_isVersion_1 (x := 0) (by decide) ?_
  refine w_aload_n rX10_isVersion_2 rfl ?_
  refine x_getI rX10_isVersion_3 rfl rfl (G_is (by decide) rfl) ?_
  refine w_iconst rX10_isVersion_6 (x := 1) (by decide) ?_
  refine w_isub rX10_isVersion_7 ?_
  refine w_invokestatic rX10_isVersion_8 rfl rfl rfl (Nat.le_of_ble_eq_true rfl) ⟨trivial, trivial, trivial, trivial⟩ trivial (by decide) (by decide) ?_
  refine s_X10_isIn ?_
  show WP mX10_isVersion 11 _ _ _ 0 0 _
  refine w_ireturn rX10_isVersion_11 b01_X10_isIn ?_
  exact q
theorem b01_X10_isVersion {ver : Int32} {I : Nat → Nat → Int32} : (f_X10_isVersion ver I) = 0 ∨ (f_X10_isVersion ver I) = 1 := by
  unfold f_X10_isVersion
  repeat' first | refine b01_ite ?_ ?_ | exact Or.inl rfl | exact Or.inr rfl | exact b01_X10_isIn
def f_X10_isRun (run : Int32) (I : Nat → Nat → Int32) : Int32 := (f_X10_isIn run 0 ((I 498 17) - 1))
theorem s_X10_isRun {X : Nat × (Nat → Int32)} {I : Nat → Nat → Int32} {L : Nat → Nat → Int64} {F : Nat → Nat → UInt32} {Q : AQ} {run : Int32} (q : Q (.inl (some (.int (f_X10_isRun run I)))) (G X I L F)) : WP mX10_isRun 0 (am_ent 2 [.ref 498, .int run]) [] (G X I L F) 0 0 Q := by
  unfold f_X10_isRun at q
  refine w_iload_n rX10_isRun_0 rfl ?_
  refine w_iconst rX10_isRun_1 (x := 0) (by decide) ?_
  refine w_aload_n rX10_isRun_2 rfl ?_
  refine x_getI rX10_isRun_3 rfl rfl (G_is (by decide) rfl) ?_
  refine w_iconst rX10_isRun_6 (x := 1) (by decide) ?_
  refine w_isub rX10_isRun_7 ?_
  refine w_invokestatic rX10_isRun_8 rfl rfl rfl (Nat.le_of_ble_eq_true rfl) ⟨trivial, trivial, trivial, trivial⟩ trivial (by decide) (by decide) ?_
  refine s_X10_isIn ?_
  show WP mX10_isRun 11 _ _ _ 0 0 _
  refine w_ireturn rX10_isRun_11 b01_X10_isIn ?_
  exact q
theorem b01_X10_isRun {run : Int32} {I : Nat → Nat → Int32} : (f_X10_isRun run I) = 0 ∨ (f_X10_isRun run I) = 1 := by
  unfold f_X10_isRun
  repeat' first | refine b01_ite ?_ ?_ | exact Or.inl rfl | exact Or.inr rfl | exact b01_X10_isIn
def f_X10_isFigure (ch : Int32) : Int32 := (f_X10_isIn ch 48 57)
theorem s_X10_isFigure {X : Nat × (Nat → Int32)} {I : Nat → Nat → Int32} {L : Nat → Nat → Int64} {F : Nat → Nat → UInt32} {Q : AQ} {ch : Int32} (q : Q (.inl (some (.int (f_X10_isFigure ch)))) (G X I L F)) : WP mX10_isFigure 0 (am_ent 1 [.int ch]) [] (G X I L F) 0 0 Q := by
  unfold f_X10_isFigure at q
  refine w_iload_n rX10_isFigure_0 rfl ?_
  refine w_bipush rX10_isFigure_1 (x := 48) (by decide) ?_
  refine w_bipush rX10_isFigure_3 (x := 57) (by decide) ?_
  refine w_invokestatic rX10_isFigure_5 rfl rfl rfl (Nat.le_of_ble_eq_true rfl) ⟨trivial, trivial, trivial, trivial⟩ trivial (by decide) (by decide) ?_
  refine s_X10_isIn ?_
  show WP mX10_isFigure 8 _ _ _ 0 0 _
  refine w_ireturn rX10_isFigure_8 b01_X10_isIn ?_
  exact q
theorem b01_X10_isFigure {ch : Int32} : (f_X10_isFigure ch) = 0 ∨ (f_X10_isFigure ch) = 1 := by
  unfold f_X10_isFigure
  repeat' first | refine b01_ite ?_ ?_ | exact Or.inl rfl | exact Or.inr rfl | exact b01_X10_isIn
def f_X10_isSign (ch : Int32) : Int32 := (if ch = 43 then 1 else (if ch = 45 then 1 else (if ch = 42 then 1 else (if ch = 47 then 1 else 0 : Int32) : Int32) : Int32) : Int32)
theorem s_X10_isSign {X : Nat × (Nat → Int32)} {I : Nat → Nat → Int32} {L : Nat → Nat → Int64} {F : Nat → Nat → UInt32} {Q : AQ} {ch : Int32} (q : Q (.inl (some (.int (f_X10_isSign ch)))) (G X I L F)) : WP mX10_isSign 0 (am_ent 1 [.int ch]) [] (G X I L F) 0 0 Q := by
  unfold f_X10_isSign at q
  refine w_iload_n rX10_isSign_0 rfl ?_
  refine w_bipush rX10_isSign_1 (x := 43) (by decide) ?_
  have j3 : ∀ s3_0 : Int32, s3_0 = (if ch = 43 then 1 else (if ch = 45 then 1 else (if ch = 42 then 1 else (if ch = 47 then 1 else 0 : Int32) : Int32) : Int32) : Int32) → WP mX10_isSign 29 [some (.int ch)] [.int s3_0] (G X I L F) 0 0 Q := by
    intro s3_0 es3_0
    subst es3_0
    skip
    refine w_ireturn rX10_isSign_29 (show (if ch = 43 then 1 else (if ch = 45 then 1 else (if ch = 42 then 1 else (if ch = 47 then 1 else 0 : Int32) : Int32) : Int32) : Int32) = 0 ∨ (if ch = 43 then 1 else (if ch = 45 then 1 else (if ch = 42 then 1 else (if ch = 47 then 1 else 0 : Int32) : Int32) : Int32) : Int32) = 1 from by repeat' first | refine b01_ite ?_ ?_ | exact Or.inl rfl | exact Or.inr rfl) ?_
    exact q
  refine w_icmpeq rX10_isSign_3 (fun h3 => ?_) (fun h3 => ?_)
  · skip
    refine w_iconst rX10_isSign_24 (x := 1) (by decide) ?_
    refine w_goto rX10_isSign_25 ?_
    exact j3 _ (if_pos h3).symm
  · skip
    refine w_iload_n rX10_isSign_6 rfl ?_
    refine w_bipush rX10_isSign_7 (x := 45) (by decide) ?_
    refine w_icmpeq rX10_isSign_9 (fun h9 => ?_) (fun h9 => ?_)
    · skip
      refine w_iconst rX10_isSign_24 (x := 1) (by decide) ?_
      refine w_goto rX10_isSign_25 ?_
      exact j3 _ ((if_neg h3).trans (if_pos h9)).symm
    · skip
      refine w_iload_n rX10_isSign_12 rfl ?_
      refine w_bipush rX10_isSign_13 (x := 42) (by decide) ?_
      refine w_icmpeq rX10_isSign_15 (fun h15 => ?_) (fun h15 => ?_)
      · skip
        refine w_iconst rX10_isSign_24 (x := 1) (by decide) ?_
        refine w_goto rX10_isSign_25 ?_
        exact j3 _ (((if_neg h3).trans (if_neg h9)).trans (if_pos h15)).symm
      · skip
        refine w_iload_n rX10_isSign_18 rfl ?_
        refine w_bipush rX10_isSign_19 (x := 47) (by decide) ?_
        refine w_icmpne rX10_isSign_21 (fun h21 => ?_) (fun h21 => ?_)
        · skip
          refine w_iconst rX10_isSign_28 (x := 0) (by decide) ?_
          exact j3 _ ((((if_neg h3).trans (if_neg h9)).trans (if_neg h15)).trans (if_neg h21)).symm
        · skip
          refine w_iconst rX10_isSign_24 (x := 1) (by decide) ?_
          refine w_goto rX10_isSign_25 ?_
          exact j3 _ ((((if_neg h3).trans (if_neg h9)).trans (if_neg h15)).trans (if_pos h21)).symm
theorem b01_X10_isSign {ch : Int32} : (f_X10_isSign ch) = 0 ∨ (f_X10_isSign ch) = 1 := by
  unfold f_X10_isSign
  repeat' first | refine b01_ite ?_ ?_ | exact Or.inl rfl | exact Or.inr rfl
def f_X10_inputs (ch : Int32) : Int32 := (if ch = 120 then 2 else (if ch = 110 then 2 else (if ch = 105 then 3 else (if ch = 116 then 1 else (if ch = 97 then 1 else 0 : Int32) : Int32) : Int32) : Int32) : Int32)
theorem s_X10_inputs {X : Nat × (Nat → Int32)} {I : Nat → Nat → Int32} {L : Nat → Nat → Int64} {F : Nat → Nat → UInt32} {Q : AQ} {ch : Int32} (q : Q (.inl (some (.int (f_X10_inputs ch)))) (G X I L F)) : WP mX10_inputs 0 (am_ent 1 [.int ch]) [] (G X I L F) 0 0 Q := by
  unfold f_X10_inputs at q
  refine w_iload_n rX10_inputs_0 rfl ?_
  refine w_bipush rX10_inputs_1 (x := 120) (by decide) ?_
  have j3 : ∀ s3_0 : Int32, s3_0 = (if ch = 120 then 2 else (if ch = 110 then 2 else (if ch = 105 then 3 else (if ch = 116 then 1 else (if ch = 97 then 1 else 0 : Int32) : Int32) : Int32) : Int32) : Int32) → WP mX10_inputs 43 [some (.int ch)] [.int s3_0] (G X I L F) 0 0 Q := by
    intro s3_0 es3_0
    subst es3_0
    skip
    refine w_ireturn rX10_inputs_43 trivial ?_
    exact q
  refine w_icmpeq rX10_inputs_3 (fun h3 => ?_) (fun h3 => ?_)
  · skip
    refine w_iconst rX10_inputs_12 (x := 2) (by decide) ?_
    refine w_goto rX10_inputs_13 ?_
    exact j3 _ (if_pos h3).symm
  · skip
    refine w_iload_n rX10_inputs_6 rfl ?_
    refine w_bipush rX10_inputs_7 (x := 110) (by decide) ?_
    refine w_icmpne rX10_inputs_9 (fun h9 => ?_) (fun h9 => ?_)
    · skip
      refine w_iload_n rX10_inputs_16 rfl ?_
      refine w_bipush rX10_inputs_17 (x := 105) (by decide) ?_
      refine w_icmpne rX10_inputs_19 (fun h19 => ?_) (fun h19 => ?_)
      · skip
        refine w_iload_n rX10_inputs_26 rfl ?_
        refine w_bipush rX10_inputs_27 (x := 116) (by decide) ?_
        refine w_icmpeq rX10_inputs_29 (fun h29 => ?_) (fun h29 => ?_)
        · skip
          refine w_iconst rX10_inputs_38 (x := 1) (by decide) ?_
          refine w_goto rX10_inputs_39 ?_
          exact j3 _ ((((if_neg h3).trans (if_neg h9)).trans (if_neg h19)).trans (if_pos h29)).symm
        · skip
          refine w_iload_n rX10_inputs_32 rfl ?_
          refine w_bipush rX10_inputs_33 (x := 97) (by decide) ?_
          refine w_icmpne rX10_inputs_35 (fun h35 => ?_) (fun h35 => ?_)
          · skip
            refine w_iconst rX10_inputs_42 (x := 0) (by decide) ?_
            exact j3 _ (((((if_neg h3).trans (if_neg h9)).trans (if_neg h19)).trans (if_neg h29)).trans (if_neg h35)).symm
          · skip
            refine w_iconst rX10_inputs_38 (x := 1) (by decide) ?_
            refine w_goto rX10_inputs_39 ?_
            exact j3 _ (((((if_neg h3).trans (if_neg h9)).trans (if_neg h19)).trans (if_neg h29)).trans (if_pos h35)).symm
      · skip
        refine w_iconst rX10_inputs_22 (x := 3) (by decide) ?_
        refine w_goto rX10_inputs_23 ?_
        exact j3 _ (((if_neg h3).trans (if_neg h9)).trans (if_pos h19)).symm
    · skip
      refine w_iconst rX10_inputs_12 (x := 2) (by decide) ?_
      refine w_goto rX10_inputs_13 ?_
      exact j3 _ ((if_neg h3).trans (if_pos h9)).symm
def f_X10_figures (ch : Int32) (isRule : Int32) : Int32 := (if isRule = 0 then (if ch = 103 then 3 else (if ch = 109 then 6 else (if ch = 113 then 6 else 0 : Int32) : Int32) : Int32) else 0 : Int32)
theorem s_X10_figures {X : Nat × (Nat → Int32)} {I : Nat → Nat → Int32} {L : Nat → Nat → Int64} {F : Nat → Nat → UInt32} {Q : AQ} {ch : Int32} {isRule : Int32} (q : Q (.inl (some (.int (f_X10_figures ch isRule)))) (G X I L F)) : WP mX10_figures 0 (am_ent 2 [.int ch, .int isRule]) [] (G X I L F) 0 0 Q := by
  unfold f_X10_figures at q
  refine w_iload_n rX10_figures_0 rfl ?_
  have j1 : ∀ s1_0 : Int32, s1_0 = (if isRule = 0 then (if ch = 103 then 3 else (if ch = 109 then 6 else (if ch = 113 then 6 else 0 : Int32) : Int32) : Int32) else 0 : Int32) → WP mX10_figures 36 [some (.int ch), some (.int isRule)] [.int s1_0] (G X I L F) 0 0 Q := by
    intro s1_0 es1_0
    subst es1_0
    skip
    refine w_ireturn rX10_figures_36 trivial ?_
    exact q
  refine w_ifeq rX10_figures_1 (fun h1 => ?_) (fun h1 => ?_)
  · skip
    refine w_iload_n rX10_figures_8 rfl ?_
    refine w_bipush rX10_figures_9 (x := 103) (by decide) ?_
    refine w_icmpne rX10_figures_11 (fun h11 => ?_) (fun h11 => ?_)
    · skip
      refine w_iload_n rX10_figures_18 rfl ?_
      refine w_bipush rX10_figures_19 (x := 109) (by decide) ?_
      refine w_icmpeq rX10_figures_21 (fun h21 => ?_) (fun h21 => ?_)
      · skip
        refine w_bipush rX10_figures_30 (x := 6) (by decide) ?_
        refine w_goto rX10_figures_32 ?_
        exact j1 _ (((if_pos h1).trans (if_neg h11)).trans (if_pos h21)).symm
      · skip
        refine w_iload_n rX10_figures_24 rfl ?_
        refine w_bipush rX10_figures_25 (x := 113) (by decide) ?_
        refine w_icmpne rX10_figures_27 (fun h27 => ?_) (fun h27 => ?_)
        · skip
          refine w_iconst rX10_figures_35 (x := 0) (by decide) ?_
          exact j1 _ ((((if_pos h1).trans (if_neg h11)).trans (if_neg h21)).trans (if_neg h27)).symm
        · skip
          refine w_bipush rX10_figures_30 (x := 6) (by decide) ?_
          refine w_goto rX10_figures_32 ?_
          exact j1 _ ((((if_pos h1).trans (if_neg h11)).trans (if_neg h21)).trans (if_pos h27)).symm
    · skip
      refine w_iconst rX10_figures_14 (x := 3) (by decide) ?_
      refine w_goto rX10_figures_15 ?_
      exact j1 _ ((if_pos h1).trans (if_pos h11)).symm
  · skip
    refine w_iconst rX10_figures_4 (x := 0) (by decide) ?_
    refine w_goto rX10_figures_5 ?_
    exact j1 _ (if_neg h1).symm
def f_X10_isPlain (ch : Int32) (isRule : Int32) : Int32 := (if ch = 104 then 1 else (if isRule = 0 then (if ch = 112 then 1 else 0 : Int32) else (if ch = 108 then 1 else (if ch = 102 then 1 else (if ch = 114 then 1 else 0 : Int32) : Int32) : Int32) : Int32) : Int32)
theorem s_X10_isPlain {X : Nat × (Nat → Int32)} {I : Nat → Nat → Int32} {L : Nat → Nat → Int64} {F : Nat → Nat → UInt32} {Q : AQ} {ch : Int32} {isRule : Int32} (q : Q (.inl (some (.int (f_X10_isPlain ch isRule)))) (G X I L F)) : WP mX10_isPlain 0 (am_ent 2 [.int ch, .int isRule]) [] (G X I L F) 0 0 Q := by
  unfold f_X10_isPlain at q
  refine w_iload_n rX10_isPlain_0 rfl ?_
  refine w_bipush rX10_isPlain_1 (x := 104) (by decide) ?_
  have j3 : ∀ s3_0 : Int32, s3_0 = (if ch = 104 then 1 else (if isRule = 0 then (if ch = 112 then 1 else 0 : Int32) else (if ch = 108 then 1 else (if ch = 102 then 1 else (if ch = 114 then 1 else 0 : Int32) : Int32) : Int32) : Int32) : Int32) → WP mX10_isPlain 42 [some (.int ch), some (.int isRule)] [.int s3_0] (G X I L F) 0 0 Q := by
    intro s3_0 es3_0
    subst es3_0
    skip
    refine w_ireturn rX10_isPlain_42 (show (if ch = 104 then 1 else (if isRule = 0 then (if ch = 112 then 1 else 0 : Int32) else (if ch = 108 then 1 else (if ch = 102 then 1 else (if ch = 114 then 1 else 0 : Int32) : Int32) : Int32) : Int32) : Int32) = 0 ∨ (if ch = 104 then 1 else (if isRule = 0 then (if ch = 112 then 1 else 0 : Int32) else (if ch = 108 then 1 else (if ch = 102 then 1 else (if ch = 114 then 1 else 0 : Int32) : Int32) : Int32) : Int32) : Int32) = 1 from by repeat' first | refine b01_ite ?_ ?_ | exact Or.inl rfl | exact Or.inr rfl) ?_
    exact q
  refine w_icmpeq rX10_isPlain_3 (fun h3 => ?_) (fun h3 => ?_)
  · skip
    refine w_iconst rX10_isPlain_37 (x := 1) (by decide) ?_
    refine w_goto rX10_isPlain_38 ?_
    exact j3 _ (if_pos h3).symm
  · skip
    refine w_iload_n rX10_isPlain_6 rfl ?_
    refine w_ifeq rX10_isPlain_7 (fun h7 => ?_) (fun h7 => ?_)
    · skip
      refine w_iload_n rX10_isPlain_31 rfl ?_
      refine w_bipush rX10_isPlain_32 (x := 112) (by decide) ?_
      refine w_icmpne rX10_isPlain_34 (fun h34 => ?_) (fun h34 => ?_)
      · skip
        refine w_iconst rX10_isPlain_41 (x := 0) (by decide) ?_
        exact j3 _ (((if_neg h3).trans (if_pos h7)).trans (if_neg h34)).symm
      · skip
        refine w_iconst rX10_isPlain_37 (x := 1) (by decide) ?_
        refine w_goto rX10_isPlain_38 ?_
        exact j3 _ (((if_neg h3).trans (if_pos h7)).trans (if_pos h34)).symm
    · skip
      refine w_iload_n rX10_isPlain_10 rfl ?_
      refine w_bipush rX10_isPlain_11 (x := 108) (by decide) ?_
      refine w_icmpeq rX10_isPlain_13 (fun h13 => ?_) (fun h13 => ?_)
      · skip
        refine w_iconst rX10_isPlain_37 (x := 1) (by decide) ?_
        refine w_goto rX10_isPlain_38 ?_
        exact j3 _ (((if_neg h3).trans (if_neg h7)).trans (if_pos h13)).symm
      · skip
        refine w_iload_n rX10_isPlain_16 rfl ?_
        refine w_bipush rX10_isPlain_17 (x := 102) (by decide) ?_
        refine w_icmpeq rX10_isPlain_19 (fun h19 => ?_) (fun h19 => ?_)
        · skip
          refine w_iconst rX10_isPlain_37 (x := 1) (by decide) ?_
          refine w_goto rX10_isPlain_38 ?_
          exact j3 _ ((((if_neg h3).trans (if_neg h7)).trans (if_neg h13)).trans (if_pos h19)).symm
        · skip
          refine w_iload_n rX10_isPlain_22 rfl ?_
          refine w_bipush rX10_isPlain_23 (x := 114) (by decide) ?_
          refine w_icmpne rX10_isPlain_25 (fun h25 => ?_) (fun h25 => ?_)
          · skip
            refine w_iconst rX10_isPlain_41 (x := 0) (by decide) ?_
            exact j3 _ (((((if_neg h3).trans (if_neg h7)).trans (if_neg h13)).trans (if_neg h19)).trans (if_neg h25)).symm
          · skip
            refine w_goto rX10_isPlain_28 ?_
            refine w_iconst rX10_isPlain_37 (x := 1) (by decide) ?_
            refine w_goto rX10_isPlain_38 ?_
            exact j3 _ (((((if_neg h3).trans (if_neg h7)).trans (if_neg h13)).trans (if_neg h19)).trans (if_pos h25)).symm
theorem b01_X10_isPlain {ch : Int32} {isRule : Int32} : (f_X10_isPlain ch isRule) = 0 ∨ (f_X10_isPlain ch isRule) = 1 := by
  unfold f_X10_isPlain
  repeat' first | refine b01_ite ?_ ?_ | exact Or.inl rfl | exact Or.inr rfl
def p_X10_type (ch : Int32) (I : Nat → Nat → Int32) : Prop := ((¬ (f_X10_holds (if (if (f_X10_isIn ch 97 122) = 0 then (if (f_X10_isFigure ch) = 0 then (if (f_X10_isSign ch) = 0 then (if ch = 40 then 1 else (if ch = 41 then 1 else (if ch = 44 then 1 else (if ch = 46 then 1 else 0 : Int32) : Int32) : Int32) : Int32) else 1 : Int32) else 1 : Int32) else 1 : Int32) = 0 then 1 else (if (I 498 2) = 40 then 2 else 0 : Int32) : Int32)) = 0 → vp_in ((fI_X10_holds (if (if (f_X10_isIn ch 97 122) = 0 then (if (f_X10_isFigure ch) = 0 then (if (f_X10_isSign ch) = 0 then (if ch = 40 then 1 else (if ch = 41 then 1 else (if ch = 44 then 1 else (if ch = 46 then 1 else 0 : Int32) : Int32) : Int32) : Int32) else 1 : Int32) else 1 : Int32) else 1 : Int32) = 0 then 1 else (if (I 498 2) = 40 then 2 else 0 : Int32) : Int32) I) 498 2) 40 ∧ (True))) ∧ (True)
def f_X10_type (ch : Int32) (I : Nat → Nat → Int32) : Int32 := (if (f_X10_holds (if (if (f_X10_isIn ch 97 122) = 0 then (if (f_X10_isFigure ch) = 0 then (if (f_X10_isSign ch) = 0 then (if ch = 40 then 1 else (if ch = 41 then 1 else (if ch = 44 then 1 else (if ch = 46 then 1 else 0 : Int32) : Int32) : Int32) : Int32) else 1 : Int32) else 1 : Int32) else 1 : Int32) = 0 then 1 else (if (I 498 2) = 40 then 2 else 0 : Int32) : Int32)) = 0 then 0 else (((fI_X10_holds (if (if (f_X10_isIn ch 97 122) = 0 then (if (f_X10_isFigure ch) = 0 then (if (f_X10_isSign ch) = 0 then (if ch = 40 then 1 else (if ch = 41 then 1 else (if ch = 44 then 1 else (if ch = 46 then 1 else 0 : Int32) : Int32) : Int32) : Int32) else 1 : Int32) else 1 : Int32) else 1 : Int32) = 0 then 1 else (if (I 498 2) = 40 then 2 else 0 : Int32) : Int32) I) 498 2) + 1) : Int32)
def fI_X10_type (ch : Int32) (I : Nat → Nat → Int32) : Nat → Nat → Int32 := (if (f_X10_holds (if (if (f_X10_isIn ch 97 122) = 0 then (if (f_X10_isFigure ch) = 0 then (if (f_X10_isSign ch) = 0 then (if ch = 40 then 1 else (if ch = 41 then 1 else (if ch = 44 then 1 else (if ch = 46 then 1 else 0 : Int32) : Int32) : Int32) : Int32) else 1 : Int32) else 1 : Int32) else 1 : Int32) = 0 then 1 else (if (I 498 2) = 40 then 2 else 0 : Int32) : Int32)) = 0 then (fI_X10_holds (if (if (f_X10_isIn ch 97 122) = 0 then (if (f_X10_isFigure ch) = 0 then (if (f_X10_isSign ch) = 0 then (if ch = 40 then 1 else (if ch = 41 then 1 else (if ch = 44 then 1 else (if ch = 46 then 1 else 0 : Int32) : Int32) : Int32) : Int32) else 1 : Int32) else 1 : Int32) else 1 : Int32) = 0 then 1 else (if (I 498 2) = 40 then 2 else 0 : Int32) : Int32) I) else (am_u (am_u (fI_X10_holds (if (if (f_X10_isIn ch 97 122) = 0 then (if (f_X10_isFigure ch) = 0 then (if (f_X10_isSign ch) = 0 then (if ch = 40 then 1 else (if ch = 41 then 1 else (if ch = 44 then 1 else (if ch = 46 then 1 else 0 : Int32) : Int32) : Int32) : Int32) else 1 : Int32) else 1 : Int32) else 1 : Int32) = 0 then 1 else (if (I 498 2) = 40 then 2 else 0 : Int32) : Int32) I) 499 (Int32.toNatClampNeg ((fI_X10_holds (if (if (f_X10_isIn ch 97 122) = 0 then (if (f_X10_isFigure ch) = 0 then (if (f_X10_isSign ch) = 0 then (if ch = 40 then 1 else (if ch = 41 then 1 else (if ch = 44 then 1 else (if ch = 46 then 1 else 0 : Int32) : Int32) : Int32) : Int32) else 1 : Int32) else 1 : Int32) else 1 : Int32) = 0 then 1 else (if (I 498 2) = 40 then 2 else 0 : Int32) : Int32) I) 498 2)) ch) 498 2 (((fI_X10_holds (if (if (f_X10_isIn ch 97 122) = 0 then (if (f_X10_isFigure ch) = 0 then (if (f_X10_isSign ch) = 0 then (if ch = 40 then 1 else (if ch = 41 then 1 else (if ch = 44 then 1 else (if ch = 46 then 1 else 0 : Int32) : Int32) : Int32) : Int32) else 1 : Int32) else 1 : Int32) else 1 : Int32) = 0 then 1 else (if (I 498 2) = 40 then 2 else 0 : Int32) : Int32) I) 498 2) + 1)) : Nat → Nat → Int32)
theorem s_X10_type {X : Nat × (Nat → Int32)} {I : Nat → Nat → Int32} {L : Nat → Nat → Int64} {F : Nat → Nat → UInt32} {Q : AQ} {ch : Int32} (p : (p_X10_type ch I)) (q : Q (.inl (some (.int (f_X10_type ch I)))) (G X (fI_X10_type ch I) L F)) : WP mX10_type 0 (am_ent 3 [.ref 498, .int ch]) [] (G X I L F) 0 0 Q := by
  unfold f_X10_type fI_X10_type at q
  unfold p_X10_type at p
  have q0 := q
  clear q
  have q : ((¬ (f_X10_holds (if (if (f_X10_isIn ch 97 122) = 0 then (if (f_X10_isFigure ch) = 0 then (if (f_X10_isSign ch) = 0 then (if ch = 40 then 1 else (if ch = 41 then 1 else (if ch = 44 then 1 else (if ch = 46 then 1 else 0 : Int32) : Int32) : Int32) : Int32) else 1 : Int32) else 1 : Int32) else 1 : Int32) = 0 then 1 else (if (I 498 2) = 40 then 2 else 0 : Int32) : Int32)) = 0 → vp_in ((fI_X10_holds (if (if (f_X10_isIn ch 97 122) = 0 then (if (f_X10_isFigure ch) = 0 then (if (f_X10_isSign ch) = 0 then (if ch = 40 then 1 else (if ch = 41 then 1 else (if ch = 44 then 1 else (if ch = 46 then 1 else 0 : Int32) : Int32) : Int32) : Int32) else 1 : Int32) else 1 : Int32) else 1 : Int32) = 0 then 1 else (if (I 498 2) = 40 then 2 else 0 : Int32) : Int32) I) 498 2) 40 ∧ (True))) ∧ (Q (.inl (some (.int (if (f_X10_holds (if (if (f_X10_isIn ch 97 122) = 0 then (if (f_X10_isFigure ch) = 0 then (if (f_X10_isSign ch) = 0 then (if ch = 40 then 1 else (if ch = 41 then 1 else (if ch = 44 then 1 else (if ch = 46 then 1 else 0 : Int32) : Int32) : Int32) : Int32) else 1 : Int32) else 1 : Int32) else 1 : Int32) = 0 then 1 else (if (I 498 2) = 40 then 2 else 0 : Int32) : Int32)) = 0 then 0 else (((fI_X10_holds (if (if (f_X10_isIn ch 97 122) = 0 then (if (f_X10_isFigure ch) = 0 then (if (f_X10_isSign ch) = 0 then (if ch = 40 then 1 else (if ch = 41 then 1 else (if ch = 44 then 1 else (if ch = 46 then 1 else 0 : Int32) : Int32) : Int32) : Int32) else 1 : Int32) else 1 : Int32) else 1 : Int32) = 0 then 1 else (if (I 498 2) = 40 then 2 else 0 : Int32) : Int32) I) 498 2) + 1) : Int32)))) (G X (if (f_X10_holds (if (if (f_X10_isIn ch 97 122) = 0 then (if (f_X10_isFigure ch) = 0 then (if (f_X10_isSign ch) = 0 then (if ch = 40 then 1 else (if ch = 41 then 1 else (if ch = 44 then 1 else (if ch = 46 then 1 else 0 : Int32) : Int32) : Int32) : Int32) else 1 : Int32) else 1 : Int32) else 1 : Int32) = 0 then 1 else (if (I 498 2) = 40 then 2 else 0 : Int32) : Int32)) = 0 then (fI_X10_holds (if (if (f_X10_isIn ch 97 122) = 0 then (if (f_X10_isFigure ch) = 0 then (if (f_X10_isSign ch) = 0 then (if ch = 40 then 1 else (if ch = 41 then 1 else (if ch = 44 then 1 else (if ch = 46 then 1 else 0 : Int32) : Int32) : Int32) : Int32) else 1 : Int32) else 1 : Int32) else 1 : Int32) = 0 then 1 else (if (I 498 2) = 40 then 2 else 0 : Int32) : Int32) I) else (am_u (am_u (fI_X10_holds (if (if (f_X10_isIn ch 97 122) = 0 then (if (f_X10_isFigure ch) = 0 then (if (f_X10_isSign ch) = 0 then (if ch = 40 then 1 else (if ch = 41 then 1 else (if ch = 44 then 1 else (if ch = 46 then 1 else 0 : Int32) : Int32) : Int32) : Int32) else 1 : Int32) else 1 : Int32) else 1 : Int32) = 0 then 1 else (if (I 498 2) = 40 then 2 else 0 : Int32) : Int32) I) 499 (Int32.toNatClampNeg ((fI_X10_holds (if (if (f_X10_isIn ch 97 122) = 0 then (if (f_X10_isFigure ch) = 0 then (if (f_X10_isSign ch) = 0 then (if ch = 40 then 1 else (if ch = 41 then 1 else (if ch = 44 then 1 else (if ch = 46 then 1 else 0 : Int32) : Int32) : Int32) : Int32) else 1 : Int32) else 1 : Int32) else 1 : Int32) = 0 then 1 else (if (I 498 2) = 40 then 2 else 0 : Int32) : Int32) I) 498 2)) ch) 498 2 (((fI_X10_holds (if (if (f_X10_isIn ch 97 122) = 0 then (if (f_X10_isFigure ch) = 0 then (if (f_X10_isSign ch) = 0 then (if ch = 40 then 1 else (if ch = 41 then 1 else (if ch = 44 then 1 else (if ch = 46 then 1 else 0 : Int32) : Int32) : Int32) : Int32) else 1 : Int32) else 1 : Int32) else 1 : Int32) = 0 then 1 else (if (I 498 2) = 40 then 2 else 0 : Int32) : Int32) I) 498 2) + 1)) : Nat → Nat → Int32) L F)) := by
    exact ⟨p.1, q0⟩
  clear p q0
  refine w_iload_n rX10_type_0 rfl ?_
  refine w_bipush rX10_type_1 (x := 97) (by decide) ?_
  refine w_bipush rX10_type_3 (x := 122) (by decide) ?_
  refine w_invokestatic rX10_type_5 rfl rfl rfl (Nat.le_of_ble_eq_true rfl) ⟨trivial, trivial, trivial, trivial⟩ trivial (by decide) (by decide) ?_
  refine s_X10_isIn ?_
  show WP mX10_type 8 _ _ _ 0 0 _
  have j8 : ∀ s8_0 : Int32, s8_0 = (if (f_X10_isIn ch 97 122) = 0 then (if (f_X10_isFigure ch) = 0 then (if (f_X10_isSign ch) = 0 then (if ch = 40 then 1 else (if ch = 41 then 1 else (if ch = 44 then 1 else (if ch = 46 then 1 else 0 : Int32) : Int32) : Int32) : Int32) else 1 : Int32) else 1 : Int32) else 1 : Int32) → WP mX10_type 54 [some (.ref 498), some (.int ch), none] [.int s8_0] (G X I L F) 0 0 Q := by
    intro s8_0 es8_0
    subst es8_0
    skip
    refine w_istore_n rX10_type_54 rfl trivial ?_
    refine w_aload_n rX10_type_55 rfl ?_
    refine w_iload_n rX10_type_56 rfl ?_
    have j57 : ∀ s57_1 : Int32, s57_1 = (if (if (f_X10_isIn ch 97 122) = 0 then (if (f_X10_isFigure ch) = 0 then (if (f_X10_isSign ch) = 0 then (if ch = 40 then 1 else (if ch = 41 then 1 else (if ch = 44 then 1 else (if ch = 46 then 1 else 0 : Int32) : Int32) : Int32) : Int32) else 1 : Int32) else 1 : Int32) else 1 : Int32) = 0 then 1 else (if (I 498 2) = 40 then 2 else 0 : Int32) : Int32) → WP mX10_type 78 [some (.ref 498), some (.int ch), some (.int (if (f_X10_isIn ch 97 122) = 0 then (if (f_X10_isFigure ch) = 0 then (if (f_X10_isSign ch) = 0 then (if ch = 40 then 1 else (if ch = 41 then 1 else (if ch = 44 then 1 else (if ch = 46 then 1 else 0 : Int32) : Int32) : Int32) : Int32) else 1 : Int32) else 1 : Int32) else 1 : Int32))] [.int s57_1, .ref 498] (G X I L F) 0 0 Q := by
      intro s57_1 es57_1
      subst es57_1
      skip
      refine w_invokevirtual rX10_type_78 rfl rfl rfl (Nat.le_of_ble_eq_true rfl) ⟨trivial, trivial, trivial⟩ (G_is (by decide) rfl) (by decide) (by decide) ?_
      refine s_X10_holds ?_
      show WP mX10_type 81 _ _ _ 0 0 _
      have j81 : ∀ I81 : Nat → Nat → Int32, I81 = (if (f_X10_holds (if (if (f_X10_isIn ch 97 122) = 0 then (if (f_X10_isFigure ch) = 0 then (if (f_X10_isSign ch) = 0 then (if ch = 40 then 1 else (if ch = 41 then 1 else (if ch = 44 then 1 else (if ch = 46 then 1 else 0 : Int32) : Int32) : Int32) : Int32) else 1 : Int32) else 1 : Int32) else 1 : Int32) = 0 then 1 else (if (I 498 2) = 40 then 2 else 0 : Int32) : Int32)) = 0 then (fI_X10_holds (if (if (f_X10_isIn ch 97 122) = 0 then (if (f_X10_isFigure ch) = 0 then (if (f_X10_isSign ch) = 0 then (if ch = 40 then 1 else (if ch = 41 then 1 else (if ch = 44 then 1 else (if ch = 46 then 1 else 0 : Int32) : Int32) : Int32) : Int32) else 1 : Int32) else 1 : Int32) else 1 : Int32) = 0 then 1 else (if (I 498 2) = 40 then 2 else 0 : Int32) : Int32) I) else (am_u (am_u (fI_X10_holds (if (if (f_X10_isIn ch 97 122) = 0 then (if (f_X10_isFigure ch) = 0 then (if (f_X10_isSign ch) = 0 then (if ch = 40 then 1 else (if ch = 41 then 1 else (if ch = 44 then 1 else (if ch = 46 then 1 else 0 : Int32) : Int32) : Int32) : Int32) else 1 : Int32) else 1 : Int32) else 1 : Int32) = 0 then 1 else (if (I 498 2) = 40 then 2 else 0 : Int32) : Int32) I) 499 (Int32.toNatClampNeg ((fI_X10_holds (if (if (f_X10_isIn ch 97 122) = 0 then (if (f_X10_isFigure ch) = 0 then (if (f_X10_isSign ch) = 0 then (if ch = 40 then 1 else (if ch = 41 then 1 else (if ch = 44 then 1 else (if ch = 46 then 1 else 0 : Int32) : Int32) : Int32) : Int32) else 1 : Int32) else 1 : Int32) else 1 : Int32) = 0 then 1 else (if (I 498 2) = 40 then 2 else 0 : Int32) : Int32) I) 498 2)) ch) 498 2 (((fI_X10_holds (if (if (f_X10_isIn ch 97 122) = 0 then (if (f_X10_isFigure ch) = 0 then (if (f_X10_isSign ch) = 0 then (if ch = 40 then 1 else (if ch = 41 then 1 else (if ch = 44 then 1 else (if ch = 46 then 1 else 0 : Int32) : Int32) : Int32) : Int32) else 1 : Int32) else 1 : Int32) else 1 : Int32) = 0 then 1 else (if (I 498 2) = 40 then 2 else 0 : Int32) : Int32) I) 498 2) + 1)) : Nat → Nat → Int32) → ∀ s81_0 : Int32, s81_0 = (if (f_X10_holds (if (if (f_X10_isIn ch 97 122) = 0 then (if (f_X10_isFigure ch) = 0 then (if (f_X10_isSign ch) = 0 then (if ch = 40 then 1 else (if ch = 41 then 1 else (if ch = 44 then 1 else (if ch = 46 then 1 else 0 : Int32) : Int32) : Int32) : Int32) else 1 : Int32) else 1 : Int32) else 1 : Int32) = 0 then 1 else (if (I 498 2) = 40 then 2 else 0 : Int32) : Int32)) = 0 then 0 else (((fI_X10_holds (if (if (f_X10_isIn ch 97 122) = 0 then (if (f_X10_isFigure ch) = 0 then (if (f_X10_isSign ch) = 0 then (if ch = 40 then 1 else (if ch = 41 then 1 else (if ch = 44 then 1 else (if ch = 46 then 1 else 0 : Int32) : Int32) : Int32) : Int32) else 1 : Int32) else 1 : Int32) else 1 : Int32) = 0 then 1 else (if (I 498 2) = 40 then 2 else 0 : Int32) : Int32) I) 498 2) + 1) : Int32) → Q (.inl (some (.int s81_0))) (G X I81 L F) := by
        intro I81 eI81 s81_0 es81_0
        subst eI81
        subst es81_0
        skip
        replace q := q.2
        exact q
      replace q := q.1
      refine w_ifne rX10_type_81 (fun h81 => ?_) (fun h81 => ?_)
      · replace q := q h81
        refine w_aload_n rX10_type_86 rfl ?_
        refine w_getR rX10_type_87 rfl rfl (G_is (by decide) rfl) (x := 499) rfl ?_
        refine w_aload_n rX10_type_90 rfl ?_
        refine x_getI rX10_type_91 rfl rfl (G_is (by decide) rfl) ?_
        refine w_iload_n rX10_type_94 rfl ?_
        have h95 := q.1
        replace q := q.2
        refine x_iastore rX10_type_95 (G_at (by decide) rfl rfl h95) ?_
        refine w_aload_n rX10_type_96 rfl ?_
        refine w_dup rX10_type_97 trivial ?_
        refine x_getI rX10_type_98 rfl rfl (G_is (by decide) rfl) ?_
        rw [au_ne (f := (fI_X10_holds (if (if (f_X10_isIn ch 97 122) = 0 then (if (f_X10_isFigure ch) = 0 then (if (f_X10_isSign ch) = 0 then (if ch = 40 then 1 else (if ch = 41 then 1 else (if ch = 44 then 1 else (if ch = 46 then 1 else 0 : Int32) : Int32) : Int32) : Int32) else 1 : Int32) else 1 : Int32) else 1 : Int32) = 0 then 1 else (if (I 498 2) = 40 then 2 else 0 : Int32) : Int32) I)) (o := 499) (k := (Int32.toNatClampNeg ((fI_X10_holds (if (if (f_X10_isIn ch 97 122) = 0 then (if (f_X10_isFigure ch) = 0 then (if (f_X10_isSign ch) = 0 then (if ch = 40 then 1 else (if ch = 41 then 1 else (if ch = 44 then 1 else (if ch = 46 then 1 else 0 : Int32) : Int32) : Int32) : Int32) else 1 : Int32) else 1 : Int32) else 1 : Int32) = 0 then 1 else (if (I 498 2) = 40 then 2 else 0 : Int32) : Int32) I) 498 2))) (a := 498) (b := 2) (fun z => absurd z.1 (by decide))]
        refine w_iconst rX10_type_101 (x := 1) (by decide) ?_
        refine w_iadd rX10_type_102 ?_
        refine x_putI rX10_type_103 rfl (G_is (by decide) rfl) trivial ?_
        refine w_aload_n rX10_type_106 rfl ?_
        refine x_getI rX10_type_107 rfl rfl (G_is (by decide) rfl) ?_
        rw [am_u_eq (f := (am_u (fI_X10_holds (if (if (f_X10_isIn ch 97 122) = 0 then (if (f_X10_isFigure ch) = 0 then (if (f_X10_isSign ch) = 0 then (if ch = 40 then 1 else (if ch = 41 then 1 else (if ch = 44 then 1 else (if ch = 46 then 1 else 0 : Int32) : Int32) : Int32) : Int32) else 1 : Int32) else 1 : Int32) else 1 : Int32) = 0 then 1 else (if (I 498 2) = 40 then 2 else 0 : Int32) : Int32) I) 499 (Int32.toNatClampNeg ((fI_X10_holds (if (if (f_X10_isIn ch 97 122) = 0 then (if (f_X10_isFigure ch) = 0 then (if (f_X10_isSign ch) = 0 then (if ch = 40 then 1 else (if ch = 41 then 1 else (if ch = 44 then 1 else (if ch = 46 then 1 else 0 : Int32) : Int32) : Int32) : Int32) else 1 : Int32) else 1 : Int32) else 1 : Int32) = 0 then 1 else (if (I 498 2) = 40 then 2 else 0 : Int32) : Int32) I) 498 2)) ch)) (o := 498) (k := 2)]
        refine w_ireturn rX10_type_110 trivial ?_
        exact j81 _ (if_neg h81).symm _ (if_neg h81).symm
      · skip
        refine w_iconst rX10_type_84 (x := 0) (by decide) ?_
        refine w_ireturn rX10_type_85 trivial ?_
        exact j81 _ (if_pos h81).symm _ (if_pos h81).symm
    refine w_ifne rX10_type_57 (fun h57 => ?_) (fun h57 => ?_)
    · skip
      refine w_aload_n rX10_type_64 rfl ?_
      refine x_getI rX10_type_65 rfl rfl (G_is (by decide) rfl) ?_
      refine w_bipush rX10_type_68 (x := 40) (by decide) ?_
      refine w_icmpne rX10_type_70 (fun h70 => ?_) (fun h70 => ?_)
      · skip
        refine w_iconst rX10_type_77 (x := 0) (by decide) ?_
        exact j57 _ ((if_neg h57).trans (if_neg h70)).symm
      · skip
        refine w_iconst rX10_type_73 (x := 2) (by decide) ?_
        refine w_goto rX10_type_74 ?_
        exact j57 _ ((if_neg h57).trans (if_pos h70)).symm
    · skip
      refine w_iconst rX10_type_60 (x := 1) (by decide) ?_
      refine w_goto rX10_type_61 ?_
      exact j57 _ (if_pos h57).symm
  refine w_ifne rX10_type_8 (fun h8 => ?_) (fun h8 => ?_)
  · skip
    refine w_iconst rX10_type_49 (x := 1) (by decide) ?_
    refine w_goto rX10_type_50 ?_
    exact j8 _ (if_neg h8).symm
  · skip
    refine w_iload_n rX10_type_11 rfl ?_
    refine w_invokestatic rX10_type_12 rfl rfl rfl (Nat.le_of_ble_eq_true rfl) ⟨trivial, trivial⟩ trivial (by decide) (by decide) ?_
    refine s_X10_isFigure ?_
    show WP mX10_type 15 _ _ _ 0 0 _
    refine w_ifne rX10_type_15 (fun h15 => ?_) (fun h15 => ?_)
    · skip
      refine w_iconst rX10_type_49 (x := 1) (by decide) ?_
      refine w_goto rX10_type_50 ?_
      exact j8 _ ((if_pos h8).trans (if_neg h15)).symm
    · skip
      refine w_iload_n rX10_type_18 rfl ?_
      refine w_invokestatic rX10_type_19 rfl rfl rfl (Nat.le_of_ble_eq_true rfl) ⟨trivial, trivial⟩ trivial (by decide) (by decide) ?_
      refine s_X10_isSign ?_
      show WP mX10_type 22 _ _ _ 0 0 _
      refine w_ifne rX10_type_22 (fun h22 => ?_) (fun h22 => ?_)
      · skip
        refine w_iconst rX10_type_49 (x := 1) (by decide) ?_
        refine w_goto rX10_type_50 ?_
        exact j8 _ (((if_pos h8).trans (if_pos h15)).trans (if_neg h22)).symm
      · skip
        refine w_iload_n rX10_type_25 rfl ?_
        refine w_bipush rX10_type_26 (x := 40) (by decide) ?_
        refine w_icmpeq rX10_type_28 (fun h28 => ?_) (fun h28 => ?_)
        · skip
          refine w_iconst rX10_type_49 (x := 1) (by decide) ?_
          refine w_goto rX10_type_50 ?_
          exact j8 _ ((((if_pos h8).trans (if_pos h15)).trans (if_pos h22)).trans (if_pos h28)).symm
        · skip
          refine w_iload_n rX10_type_31 rfl ?_
          refine w_bipush rX10_type_32 (x := 41) (by decide) ?_
          refine w_icmpeq rX10_type_34 (fun h34 => ?_) (fun h34 => ?_)
          · skip
            refine w_iconst rX10_type_49 (x := 1) (by decide) ?_
            refine w_goto rX10_type_50 ?_
            exact j8 _ (((((if_pos h8).trans (if_pos h15)).trans (if_pos h22)).trans (if_neg h28)).trans (if_pos h34)).symm
          · skip
            refine w_iload_n rX10_type_37 rfl ?_
            refine w_bipush rX10_type_38 (x := 44) (by decide) ?_
            refine w_icmpeq rX10_type_40 (fun h40 => ?_) (fun h40 => ?_)
            · skip
              refine w_iconst rX10_type_49 (x := 1) (by decide) ?_
              refine w_goto rX10_type_50 ?_
              exact j8 _ ((((((if_pos h8).trans (if_pos h15)).trans (if_pos h22)).trans (if_neg h28)).trans (if_neg h34)).trans (if_pos h40)).symm
            · skip
              refine w_iload_n rX10_type_43 rfl ?_
              refine w_bipush rX10_type_44 (x := 46) (by decide) ?_
              refine w_icmpne rX10_type_46 (fun h46 => ?_) (fun h46 => ?_)
              · skip
                refine w_iconst rX10_type_53 (x := 0) (by decide) ?_
                exact j8 _ (((((((if_pos h8).trans (if_pos h15)).trans (if_pos h22)).trans (if_neg h28)).trans (if_neg h34)).trans (if_neg h40)).trans (if_neg h46)).symm
              · skip
                refine w_iconst rX10_type_49 (x := 1) (by decide) ?_
                refine w_goto rX10_type_50 ?_
                exact j8 _ (((((((if_pos h8).trans (if_pos h15)).trans (if_pos h22)).trans (if_neg h28)).trans (if_neg h34)).trans (if_neg h40)).trans (if_pos h46)).symm
def f_X10_wipe (I : Nat → Nat → Int32) : Int32 := (I 498 2)
def fI_X10_wipe (I : Nat → Nat → Int32) : Nat → Nat → Int32 := (am_u (am_u I 498 0 0) 498 2 0)
theorem s_X10_wipe {X : Nat × (Nat → Int32)} {I : Nat → Nat → Int32} {L : Nat → Nat → Int64} {F : Nat → Nat → UInt32} {Q : AQ}  (q : Q (.inl (some (.int (f_X10_wipe I)))) (G X (fI_X10_wipe I) L F)) : WP mX10_wipe 0 (am_ent 2 [.ref 498]) [] (G X I L F) 0 0 Q := by
  unfold f_X10_wipe fI_X10_wipe at q
  refine w_aload_n rX10_wipe_0 rfl ?_
  refine w_iconst rX10_wipe_1 (x := 0) (by decide) ?_
  refine x_putI rX10_wipe_2 rfl (G_is (by decide) rfl) trivial ?_
  refine w_aload_n rX10_wipe_5 rfl ?_
  refine x_getI rX10_wipe_6 rfl rfl (G_is (by decide) rfl) ?_
  rw [au_ne (f := I) (o := 498) (k := 0) (a := 498) (b := 2) (fun z => absurd z.2 (by decide))]
  refine w_istore_n rX10_wipe_9 rfl trivial ?_
  refine w_aload_n rX10_wipe_10 rfl ?_
  refine w_iconst rX10_wipe_11 (x := 0) (by decide) ?_
  refine x_putI rX10_wipe_12 rfl (G_is (by decide) rfl) trivial ?_
  refine w_iload_n rX10_wipe_15 rfl ?_
  refine w_ireturn rX10_wipe_16 trivial ?_
  exact q
def f_X10_begun (ch : Int32) (isRule : Int32) : Int32 := (if (f_X10_isFigure ch) = 0 then (if ch = 45 then 0 else (if ch = 40 then 0 else (if (f_X10_inputs ch) ≤ 0 then (if (f_X10_figures ch isRule) ≤ 0 then (if (f_X10_isPlain ch isRule) = 0 then (-1) else 1 : Int32) else 6 : Int32) else 7 : Int32) : Int32) : Int32) else 2 : Int32)
theorem s_X10_begun {X : Nat × (Nat → Int32)} {I : Nat → Nat → Int32} {L : Nat → Nat → Int64} {F : Nat → Nat → UInt32} {Q : AQ} {ch : Int32} {isRule : Int32} (q : Q (.inl (some (.int (f_X10_begun ch isRule)))) (G X I L F)) : WP mX10_begun 0 (am_ent 2 [.int ch, .int isRule]) [] (G X I L F) 0 0 Q := by
  unfold f_X10_begun at q
  refine w_iload_n rX10_begun_0 rfl ?_
  refine w_invokestatic rX10_begun_1 rfl rfl rfl (Nat.le_of_ble_eq_true rfl) ⟨trivial, trivial⟩ trivial (by decide) (by decide) ?_
  refine s_X10_isFigure ?_
  show WP mX10_begun 4 _ _ _ 0 0 _
  have j4 : ∀ s4_0 : Int32, s4_0 = (if (f_X10_isFigure ch) = 0 then (if ch = 45 then 0 else (if ch = 40 then 0 else (if (f_X10_inputs ch) ≤ 0 then (if (f_X10_figures ch isRule) ≤ 0 then (if (f_X10_isPlain ch isRule) = 0 then (-1) else 1 : Int32) else 6 : Int32) else 7 : Int32) : Int32) : Int32) else 2 : Int32) → Q (.inl (some (.int s4_0))) (G X I L F) := by
    intro s4_0 es4_0
    subst es4_0
    skip
    exact q
  refine w_ifeq rX10_begun_4 (fun h4 => ?_) (fun h4 => ?_)
  · skip
    refine w_iload_n rX10_begun_9 rfl ?_
    refine w_bipush rX10_begun_10 (x := 45) (by decide) ?_
    have j12 : ∀ s12_0 : Int32, s12_0 = (if ch = 45 then 0 else (if ch = 40 then 0 else (if (f_X10_inputs ch) ≤ 0 then (if (f_X10_figures ch isRule) ≤ 0 then (if (f_X10_isPlain ch isRule) = 0 then (-1) else 1 : Int32) else 6 : Int32) else 7 : Int32) : Int32) : Int32) → WP mX10_begun 63 [some (.int ch), some (.int isRule)] [.int s12_0] (G X I L F) 0 0 Q := by
      intro s12_0 es12_0
      subst es12_0
      skip
      refine w_ireturn rX10_begun_63 trivial ?_
      exact j4 _ (if_pos h4).symm
    refine w_icmpeq rX10_begun_12 (fun h12 => ?_) (fun h12 => ?_)
    · skip
      refine w_iconst rX10_begun_21 (x := 0) (by decide) ?_
      refine w_goto rX10_begun_22 ?_
      exact j12 _ (if_pos h12).symm
    · skip
      refine w_iload_n rX10_begun_15 rfl ?_
      refine w_bipush rX10_begun_16 (x := 40) (by decide) ?_
      refine w_icmpne rX10_begun_18 (fun h18 => ?_) (fun h18 => ?_)
      · skip
        refine w_iload_n rX10_begun_25 rfl ?_
        refine w_invokestatic rX10_begun_26 rfl rfl rfl (Nat.le_of_ble_eq_true rfl) ⟨trivial, trivial⟩ trivial (by decide) (by decide) ?_
        refine s_X10_inputs ?_
        show WP mX10_begun 29 _ _ _ 0 0 _
        refine w_ifle rX10_begun_29 (fun h29 => ?_) (fun h29 => ?_)
        · skip
          refine w_iload_n rX10_begun_37 rfl ?_
          refine w_iload_n rX10_begun_38 rfl ?_
          refine w_invokestatic rX10_begun_39 rfl rfl rfl (Nat.le_of_ble_eq_true rfl) ⟨trivial, trivial, trivial⟩ trivial (by decide) (by decide) ?_
          refine s_X10_figures ?_
          show WP mX10_begun 42 _ _ _ 0 0 _
          refine w_ifle rX10_begun_42 (fun h42 => ?_) (fun h42 => ?_)
          · skip
            refine w_iload_n rX10_begun_50 rfl ?_
            refine w_iload_n rX10_begun_51 rfl ?_
            refine w_invokestatic rX10_begun_52 rfl rfl rfl (Nat.le_of_ble_eq_true rfl) ⟨trivial, trivial, trivial⟩ trivial (by decide) (by decide) ?_
            refine s_X10_isPlain ?_
            show WP mX10_begun 55 _ _ _ 0 0 _
            refine w_ifeq rX10_begun_55 (fun h55 => ?_) (fun h55 => ?_)
            · skip
              refine w_iconst rX10_begun_62 (x := -1) (by decide) ?_
              exact j12 _ (((((if_neg h12).trans (if_neg h18)).trans (if_pos h29)).trans (if_pos h42)).trans (if_pos h55)).symm
            · skip
              refine w_iconst rX10_begun_58 (x := 1) (by decide) ?_
              refine w_goto rX10_begun_59 ?_
              exact j12 _ (((((if_neg h12).trans (if_neg h18)).trans (if_pos h29)).trans (if_pos h42)).trans (if_neg h55)).symm
          · skip
            refine w_bipush rX10_begun_45 (x := 6) (by decide) ?_
            refine w_goto rX10_begun_47 ?_
            exact j12 _ ((((if_neg h12).trans (if_neg h18)).trans (if_pos h29)).trans (if_neg h42)).symm
        · skip
          refine w_bipush rX10_begun_32 (x := 7) (by decide) ?_
          refine w_goto rX10_begun_34 ?_
          exact j12 _ (((if_neg h12).trans (if_neg h18)).trans (if_neg h29)).symm
      · skip
        refine w_iconst rX10_begun_21 (x := 0) (by decide) ?_
        refine w_goto rX10_begun_22 ?_
        exact j12 _ ((if_neg h12).trans (if_pos h18)).symm
  · skip
    refine w_iconst rX10_begun_7 (x := 2) (by decide) ?_
    refine w_ireturn rX10_begun_8 trivial ?_
    exact j4 _ (if_neg h4).symm
def f_X10_kept (x : UInt32) : UInt32 := (if (Op.cmpValue (FP.fcmp x 1315859240) .l) ≤ 0 then (if 0 ≤ (Op.cmpValue (FP.fcmp x 3463342888) .g) then (if (Op.cmpValue (FP.fcmp x 0) .l) = 0 then 0 else x : UInt32) else 3463342888 : UInt32) else 1315859240 : UInt32)
theorem s_X10_kept {X : Nat × (Nat → Int32)} {I : Nat → Nat → Int32} {L : Nat → Nat → Int64} {F : Nat → Nat → UInt32} {Q : AQ} {x : UInt32} (q : Q (.inl (some (.float (f_X10_kept x)))) (G X I L F)) : WP mX10_kept 0 (am_ent 1 [.float x]) [] (G X I L F) 0 0 Q := by
  unfold f_X10_kept at q
  refine w_fload_n rX10_kept_0 rfl ?_
  refine w_ldcF rX10_kept_1 (x := 1315859240) (by decide) ?_
  refine w_fcmp rX10_kept_3 ?_
  have j4 : ∀ s4_0 : UInt32, s4_0 = (if (Op.cmpValue (FP.fcmp x 1315859240) .l) ≤ 0 then (if 0 ≤ (Op.cmpValue (FP.fcmp x 3463342888) .g) then (if (Op.cmpValue (FP.fcmp x 0) .l) = 0 then 0 else x : UInt32) else 3463342888 : UInt32) else 1315859240 : UInt32) → WP mX10_kept 35 [some (.float x)] [.float s4_0] (G X I L F) 0 0 Q := by
    intro s4_0 es4_0
    subst es4_0
    skip
    refine w_freturn rX10_kept_35 ?_
    exact q
  refine w_ifle rX10_kept_4 (fun h4 => ?_) (fun h4 => ?_)
  · skip
    refine w_fload_n rX10_kept_12 rfl ?_
    refine w_ldcF rX10_kept_13 (x := 3463342888) (by decide) ?_
    refine w_fcmp rX10_kept_15 ?_
    refine w_ifge rX10_kept_16 (fun h16 => ?_) (fun h16 => ?_)
    · skip
      refine w_fload_n rX10_kept_24 rfl ?_
      refine w_fconst rX10_kept_25 (x := 0) rfl ?_
      refine w_fcmp rX10_kept_26 ?_
      refine w_ifne rX10_kept_27 (fun h27 => ?_) (fun h27 => ?_)
      · skip
        refine w_fload_n rX10_kept_34 rfl ?_
        exact j4 _ (((if_pos h4).trans (if_pos h16)).trans (if_neg h27)).symm
      · skip
        refine w_fconst rX10_kept_30 (x := 0) rfl ?_
        refine w_goto rX10_kept_31 ?_
        exact j4 _ (((if_pos h4).trans (if_pos h16)).trans (if_pos h27)).symm
    · skip
      refine w_ldcF rX10_kept_19 (x := 3463342888) (by decide) ?_
      refine w_goto rX10_kept_21 ?_
      exact j4 _ ((if_pos h4).trans (if_neg h16)).symm
  · skip
    refine w_ldcF rX10_kept_7 (x := 1315859240) (by decide) ?_
    refine w_goto rX10_kept_9 ?_
    exact j4 _ (if_neg h4).symm
def p_X10_puts (x : UInt32) (I : Nat → Nat → Int32) : Prop := vp_in (I 498 48) 48 ∧ (True)
def fI_X10_puts (x : UInt32) (I : Nat → Nat → Int32) : Nat → Nat → Int32 := (am_u I 498 48 ((I 498 48) + 1))
def fF_X10_puts (x : UInt32) (I : Nat → Nat → Int32) (F : Nat → Nat → UInt32) : Nat → Nat → UInt32 := (am_u F 538 (Int32.toNatClampNeg (I 498 48)) (f_X10_kept x))
theorem s_X10_puts {X : Nat × (Nat → Int32)} {I : Nat → Nat → Int32} {L : Nat → Nat → Int64} {F : Nat → Nat → UInt32} {Q : AQ} {x : UInt32} (p : (p_X10_puts x I)) (q : Q (.inl none) (G X (fI_X10_puts x I) L (fF_X10_puts x I F))) : WP mX10_puts 0 (am_ent 2 [.ref 498, .float x]) [] (G X I L F) 0 0 Q := by
  unfold fI_X10_puts fF_X10_puts at q
  unfold p_X10_puts at p
  have q0 := q
  clear q
  have q : vp_in (I 498 48) 48 ∧ (Q (.inl none) (G X (am_u I 498 48 ((I 498 48) + 1)) L (am_u F 538 (Int32.toNatClampNeg (I 498 48)) (f_X10_kept x)))) := by
    exact ⟨p.1, q0⟩
  clear p q0
  refine w_aload_n rX10_puts_0 rfl ?_
  refine w_getR rX10_puts_1 rfl rfl (G_is (by decide) rfl) (x := 538) rfl ?_
  refine w_aload_n rX10_puts_4 rfl ?_
  refine x_getI rX10_puts_5 rfl rfl (G_is (by decide) rfl) ?_
  refine w_fload_n rX10_puts_8 rfl ?_
  refine w_invokestatic rX10_puts_9 rfl rfl rfl (Nat.le_of_ble_eq_true rfl) ⟨trivial, trivial⟩ trivial (by decide) (by decide) ?_
  refine s_X10_kept ?_
  show WP mX10_puts 12 _ _ _ 0 0 _
  have h12 := q.1
  replace q := q.2
  refine x_fastore rX10_puts_12 (G_at (by decide) rfl rfl h12) ?_
  refine w_aload_n rX10_puts_13 rfl ?_
  refine w_dup rX10_puts_14 trivial ?_
  refine x_getI rX10_puts_15 rfl rfl (G_is (by decide) rfl) ?_
  refine w_iconst rX10_puts_18 (x := 1) (by decide) ?_
  refine w_iadd rX10_puts_19 ?_
  refine x_putI rX10_puts_20 rfl (G_is (by decide) rfl) trivial ?_
  refine w_return rX10_puts_23 ?_
  exact q
def p_X10_pops (I : Nat → Nat → Int32) : Prop := vp_in ((I 498 48) - 1) 48 ∧ (True)
def f_X10_pops (I : Nat → Nat → Int32) (F : Nat → Nat → UInt32) : UInt32 := (F 538 (Int32.toNatClampNeg ((I 498 48) - 1)))
def fI_X10_pops (I : Nat → Nat → Int32) : Nat → Nat → Int32 := (am_u I 498 48 ((I 498 48) - 1))
theorem s_X10_pops {X : Nat × (Nat → Int32)} {I : Nat → Nat → Int32} {L : Nat → Nat → Int64} {F : Nat → Nat → UInt32} {Q : AQ}  (p : (p_X10_pops I)) (q : Q (.inl (some (.float (f_X10_pops I F)))) (G X (fI_X10_pops I) L F)) : WP mX10_pops 0 (am_ent 1 [.ref 498]) [] (G X I L F) 0 0 Q := by
  unfold f_X10_pops fI_X10_pops at q
  unfold p_X10_pops at p
  have q0 := q
  clear q
  have q : vp_in ((I 498 48) - 1) 48 ∧ (Q (.inl (some (.float (F 538 (Int32.toNatClampNeg ((I 498 48) - 1)))))) (G X (am_u I 498 48 ((I 498 48) - 1)) L F)) := by
    exact ⟨p.1, q0⟩
  clear p q0
  refine w_aload_n rX10_pops_0 rfl ?_
  refine w_dup rX10_pops_1 trivial ?_
  refine x_getI rX10_pops_2 rfl rfl (G_is (by decide) rfl) ?_
  refine w_iconst rX10_pops_5 (x := 1) (by decide) ?_
  refine w_isub rX10_pops_6 ?_
  refine x_putI rX10_pops_7 rfl (G_is (by decide) rfl) trivial ?_
  refine w_aload_n rX10_pops_10 rfl ?_
  refine w_getR rX10_pops_11 rfl rfl (G_is (by decide) rfl) (x := 538) rfl ?_
  refine w_aload_n rX10_pops_14 rfl ?_
  refine x_getI rX10_pops_15 rfl rfl (G_is (by decide) rfl) ?_
  rw [am_u_eq (f := I) (o := 498) (k := 48)]
  have h18 := q.1
  replace q := q.2
  refine x_faload rX10_pops_18 (G_at (by decide) rfl rfl h18) ?_
  refine w_freturn rX10_pops_19 ?_
  exact q
def p_X10_applies (I : Nat → Nat → Int32) (F : Nat → Nat → UInt32) : Prop := vp_in ((I 498 50) - 1) 48 ∧ ((p_X10_pops (am_u I 498 50 ((I 498 50) - 1))) ∧ ((((I 539 (Int32.toNatClampNeg ((I 498 50) - 1))) = 126 → (p_X10_puts (FP.fneg (f_X10_pops (am_u I 498 50 ((I 498 50) - 1)) F)) (fI_X10_pops (am_u I 498 50 ((I 498 50) - 1)))) ∧ (True)) ∧ (¬ (I 539 (Int32.toNatClampNeg ((I 498 50) - 1))) = 126 → ((I 539 (Int32.toNatClampNeg ((I 498 50) - 1))) = 116 → (p_X10_puts (FP.i2f (FP.f2i (f_X10_pops (am_u I 498 50 ((I 498 50) - 1)) F))) (fI_X10_pops (am_u I 498 50 ((I 498 50) - 1)))) ∧ (True)) ∧ (¬ (I 539 (Int32.toNatClampNeg ((I 498 50) - 1))) = 116 → ((I 539 (Int32.toNatClampNeg ((I 498 50) - 1))) = 97 → (p_X10_puts (if 0 ≤ (Op.cmpValue (FP.fcmp (f_X10_pops (am_u I 498 50 ((I 498 50) - 1)) F) 0) .g) then (f_X10_pops (am_u I 498 50 ((I 498 50) - 1)) F) else (FP.fneg (f_X10_pops (am_u I 498 50 ((I 498 50) - 1)) F)) : UInt32) (fI_X10_pops (am_u I 498 50 ((I 498 50) - 1)))) ∧ (True)) ∧ (¬ (I 539 (Int32.toNatClampNeg ((I 498 50) - 1))) = 97 → ((I 539 (Int32.toNatClampNeg ((I 498 50) - 1))) = 105 → (p_X10_pops (fI_X10_pops (am_u I 498 50 ((I 498 50) - 1)))) ∧ ((p_X10_pops (fI_X10_pops (fI_X10_pops (am_u I 498 50 ((I 498 50) - 1))))) ∧ ((p_X10_puts (if (Op.cmpValue (FP.fcmp (f_X10_pops (fI_X10_pops (fI_X10_pops (am_u I 498 50 ((I 498 50) - 1)))) F) 0) .l) ≤ 0 then (f_X10_pops (am_u I 498 50 ((I 498 50) - 1)) F) else (f_X10_pops (fI_X10_pops (am_u I 498 50 ((I 498 50) - 1))) F) : UInt32) (fI_X10_pops (fI_X10_pops (fI_X10_pops (am_u I 498 50 ((I 498 50) - 1)))))) ∧ (True)))) ∧ (¬ (I 539 (Int32.toNatClampNeg ((I 498 50) - 1))) = 105 → (p_X10_pops (fI_X10_pops (am_u I 498 50 ((I 498 50) - 1)))) ∧ ((((I 539 (Int32.toNatClampNeg ((I 498 50) - 1))) = 43 → vf_n32 (FP.fadd (f_X10_pops (fI_X10_pops (am_u I 498 50 ((I 498 50) - 1))) F) (f_X10_pops (am_u I 498 50 ((I 498 50) - 1)) F)) ∧ (True)) ∧ (¬ (I 539 (Int32.toNatClampNeg ((I 498 50) - 1))) = 43 → ((I 539 (Int32.toNatClampNeg ((I 498 50) - 1))) = 45 → vf_n32 (FP.fsub (f_X10_pops (fI_X10_pops (am_u I 498 50 ((I 498 50) - 1))) F) (f_X10_pops (am_u I 498 50 ((I 498 50) - 1)) F)) ∧ (True)) ∧ (¬ (I 539 (Int32.toNatClampNeg ((I 498 50) - 1))) = 45 → ((I 539 (Int32.toNatClampNeg ((I 498 50) - 1))) = 42 → vf_n32 (FP.fmul (f_X10_pops (fI_X10_pops (am_u I 498 50 ((I 498 50) - 1))) F) (f_X10_pops (am_u I 498 50 ((I 498 50) - 1)) F)) ∧ (True)) ∧ (¬ (I 539 (Int32.toNatClampNeg ((I 498 50) - 1))) = 42 → (¬ (I 539 (Int32.toNatClampNeg ((I 498 50) - 1))) = 120 → (¬ (I 539 (Int32.toNatClampNeg ((I 498 50) - 1))) = 110 → (¬ (Op.cmpValue (FP.fcmp (f_X10_pops (am_u I 498 50 ((I 498 50) - 1)) F) 0) .l) = 0 → vf_n32 (FP.fdiv (f_X10_pops (fI_X10_pops (am_u I 498 50 ((I 498 50) - 1))) F) (f_X10_pops (am_u I 498 50 ((I 498 50) - 1)) F)) ∧ (True)))))))) ∧ ((p_X10_puts (if (I 539 (Int32.toNatClampNeg ((I 498 50) - 1))) = 43 then (FP.fadd (f_X10_pops (fI_X10_pops (am_u I 498 50 ((I 498 50) - 1))) F) (f_X10_pops (am_u I 498 50 ((I 498 50) - 1)) F)) else (if (I 539 (Int32.toNatClampNeg ((I 498 50) - 1))) = 45 then (FP.fsub (f_X10_pops (fI_X10_pops (am_u I 498 50 ((I 498 50) - 1))) F) (f_X10_pops (am_u I 498 50 ((I 498 50) - 1)) F)) else (if (I 539 (Int32.toNatClampNeg ((I 498 50) - 1))) = 42 then (FP.fmul (f_X10_pops (fI_X10_pops (am_u I 498 50 ((I 498 50) - 1))) F) (f_X10_pops (am_u I 498 50 ((I 498 50) - 1)) F)) else (if (I 539 (Int32.toNatClampNeg ((I 498 50) - 1))) = 120 then (if (Op.cmpValue (FP.fcmp (f_X10_pops (fI_X10_pops (am_u I 498 50 ((I 498 50) - 1))) F) (f_X10_pops (am_u I 498 50 ((I 498 50) - 1)) F)) .l) ≤ 0 then (f_X10_pops (am_u I 498 50 ((I 498 50) - 1)) F) else (f_X10_pops (fI_X10_pops (am_u I 498 50 ((I 498 50) - 1))) F) : UInt32) else (if (I 539 (Int32.toNatClampNeg ((I 498 50) - 1))) = 110 then (if 0 ≤ (Op.cmpValue (FP.fcmp (f_X10_pops (fI_X10_pops (am_u I 498 50 ((I 498 50) - 1))) F) (f_X10_pops (am_u I 498 50 ((I 498 50) - 1)) F)) .g) then (f_X10_pops (am_u I 498 50 ((I 498 50) - 1)) F) else (f_X10_pops (fI_X10_pops (am_u I 498 50 ((I 498 50) - 1))) F) : UInt32) else (if (Op.cmpValue (FP.fcmp (f_X10_pops (am_u I 498 50 ((I 498 50) - 1)) F) 0) .l) = 0 then 0 else (FP.fdiv (f_X10_pops (fI_X10_pops (am_u I 498 50 ((I 498 50) - 1))) F) (f_X10_pops (am_u I 498 50 ((I 498 50) - 1)) F)) : UInt32) : UInt32) : UInt32) : UInt32) : UInt32) : UInt32) (fI_X10_pops (fI_X10_pops (am_u I 498 50 ((I 498 50) - 1))))) ∧ (True)))))))) ∧ (True)))
def fI_X10_applies (I : Nat → Nat → Int32) (F : Nat → Nat → UInt32) : Nat → Nat → Int32 := (if (I 539 (Int32.toNatClampNeg ((I 498 50) - 1))) = 126 then (fI_X10_puts (FP.fneg (f_X10_pops (am_u I 498 50 ((I 498 50) - 1)) F)) (fI_X10_pops (am_u I 498 50 ((I 498 50) - 1)))) else (if (I 539 (Int32.toNatClampNeg ((I 498 50) - 1))) = 116 then (fI_X10_puts (FP.i2f (FP.f2i (f_X10_pops (am_u I 498 50 ((I 498 50) - 1)) F))) (fI_X10_pops (am_u I 498 50 ((I 498 50) - 1)))) else (if (I 539 (Int32.toNatClampNeg ((I 498 50) - 1))) = 97 then (fI_X10_puts (if 0 ≤ (Op.cmpValue (FP.fcmp (f_X10_pops (am_u I 498 50 ((I 498 50) - 1)) F) 0) .g) then (f_X10_pops (am_u I 498 50 ((I 498 50) - 1)) F) else (FP.fneg (f_X10_pops (am_u I 498 50 ((I 498 50) - 1)) F)) : UInt32) (fI_X10_pops (am_u I 498 50 ((I 498 50) - 1)))) else (if (I 539 (Int32.toNatClampNeg ((I 498 50) - 1))) = 105 then (fI_X10_puts (if (Op.cmpValue (FP.fcmp (f_X10_pops (fI_X10_pops (fI_X10_pops (am_u I 498 50 ((I 498 50) - 1)))) F) 0) .l) ≤ 0 then (f_X10_pops (am_u I 498 50 ((I 498 50) - 1)) F) else (f_X10_pops (fI_X10_pops (am_u I 498 50 ((I 498 50) - 1))) F) : UInt32) (fI_X10_pops (fI_X10_pops (fI_X10_pops (am_u I 498 50 ((I 498 50) - 1)))))) else (fI_X10_puts (if (I 539 (Int32.toNatClampNeg ((I 498 50) - 1))) = 43 then (FP.fadd (f_X10_pops (fI_X10_pops (am_u I 498 50 ((I 498 50) - 1))) F) (f_X10_pops (am_u I 498 50 ((I 498 50) - 1)) F)) else (if (I 539 (Int32.toNatClampNeg ((I 498 50) - 1))) = 45 then (FP.fsub (f_X10_pops (fI_X10_pops (am_u I 498 50 ((I 498 50) - 1))) F) (f_X10_pops (am_u I 498 50 ((I 498 50) - 1)) F)) else (if (I 539 (Int32.toNatClampNeg ((I 498 50) - 1))) = 42 then (FP.fmul (f_X10_pops (fI_X10_pops (am_u I 498 50 ((I 498 50) - 1))) F) (f_X10_pops (am_u I 498 50 ((I 498 50) - 1)) F)) else (if (I 539 (Int32.toNatClampNeg ((I 498 50) - 1))) = 120 then (if (Op.cmpValue (FP.fcmp (f_X10_pops (fI_X10_pops (am_u I 498 50 ((I 498 50) - 1))) F) (f_X10_pops (am_u I 498 50 ((I 498 50) - 1)) F)) .l) ≤ 0 then (f_X10_pops (am_u I 498 50 ((I 498 50) - 1)) F) else (f_X10_pops (fI_X10_pops (am_u I 498 50 ((I 498 50) - 1))) F) : UInt32) else (if (I 539 (Int32.toNatClampNeg ((I 498 50) - 1))) = 110 then (if 0 ≤ (Op.cmpValue (FP.fcmp (f_X10_pops (fI_X10_pops (am_u I 498 50 ((I 498 50) - 1))) F) (f_X10_pops (am_u I 498 50 ((I 498 50) - 1)) F)) .g) then (f_X10_pops (am_u I 498 50 ((I 498 50) - 1)) F) else (f_X10_pops (fI_X10_pops (am_u I 498 50 ((I 498 50) - 1))) F) : UInt32) else (if (Op.cmpValue (FP.fcmp (f_X10_pops (am_u I 498 50 ((I 498 50) - 1)) F) 0) .l) = 0 then 0 else (FP.fdiv (f_X10_pops (fI_X10_pops (am_u I 498 50 ((I 498 50) - 1))) F) (f_X10_pops (am_u I 498 50 ((I 498 50) - 1)) F)) : UInt32) : UInt32) : UInt32) : UInt32) : UInt32) : UInt32) (fI_X10_pops (fI_X10_pops (am_u I 498 50 ((I 498 50) - 1))))) : Nat → Nat → Int32) : Nat → Nat → Int32) : Nat → Nat → Int32) : Nat → Nat → Int32)
def fF_X10_applies (I : Nat → Nat → Int32) (F : Nat → Nat → UInt32) : Nat → Nat → UInt32 := (if (I 539 (Int32.toNatClampNeg ((I 498 50) - 1))) = 126 then (fF_X10_puts (FP.fneg (f_X10_pops (am_u I 498 50 ((I 498 50) - 1)) F)) (fI_X10_pops (am_u I 498 50 ((I 498 50) - 1))) F) else (if (I 539 (Int32.toNatClampNeg ((I 498 50) - 1))) = 116 then (fF_X10_puts (FP.i2f (FP.f2i (f_X10_pops (am_u I 498 50 ((I 498 50) - 1)) F))) (fI_X10_pops (am_u I 498 50 ((I 498 50) - 1))) F) else (if (I 539 (Int32.toNatClampNeg ((I 498 50) - 1))) = 97 then (fF_X10_puts (if 0 ≤ (Op.cmpValue (FP.fcmp (f_X10_pops (am_u I 498 50 ((I 498 50) - 1)) F) 0) .g) then (f_X10_pops (am_u I 498 50 ((I 498 50) - 1)) F) else (FP.fneg (f_X10_pops (am_u I 498 50 ((I 498 50) - 1)) F)) : UInt32) (fI_X10_pops (am_u I 498 50 ((I 498 50) - 1))) F) else (if (I 539 (Int32.toNatClampNeg ((I 498 50) - 1))) = 105 then (fF_X10_puts (if (Op.cmpValue (FP.fcmp (f_X10_pops (fI_X10_pops (fI_X10_pops (am_u I 498 50 ((I 498 50) - 1)))) F) 0) .l) ≤ 0 then (f_X10_pops (am_u I 498 50 ((I 498 50) - 1)) F) else (f_X10_pops (fI_X10_pops (am_u I 498 50 ((I 498 50) - 1))) F) : UInt32) (fI_X10_pops (fI_X10_pops (fI_X10_pops (am_u I 498 50 ((I 498 50) - 1))))) F) else (fF_X10_puts (if (I 539 (Int32.toNatClampNeg ((I 498 50) - 1))) = 43 then (FP.fadd (f_X10_pops (fI_X10_pops (am_u I 498 50 ((I 498 50) - 1))) F) (f_X10_pops (am_u I 498 50 ((I 498 50) - 1)) F)) else (if (I 539 (Int32.toNatClampNeg ((I 498 50) - 1))) = 45 then (FP.fsub (f_X10_pops (fI_X10_pops (am_u I 498 50 ((I 498 50) - 1))) F) (f_X10_pops (am_u I 498 50 ((I 498 50) - 1)) F)) else (if (I 539 (Int32.toNatClampNeg ((I 498 50) - 1))) = 42 then (FP.fmul (f_X10_pops (fI_X10_pops (am_u I 498 50 ((I 498 50) - 1))) F) (f_X10_pops (am_u I 498 50 ((I 498 50) - 1)) F)) else (if (I 539 (Int32.toNatClampNeg ((I 498 50) - 1))) = 120 then (if (Op.cmpValue (FP.fcmp (f_X10_pops (fI_X10_pops (am_u I 498 50 ((I 498 50) - 1))) F) (f_X10_pops (am_u I 498 50 ((I 498 50) - 1)) F)) .l) ≤ 0 then (f_X10_pops (am_u I 498 50 ((I 498 50) - 1)) F) else (f_X10_pops (fI_X10_pops (am_u I 498 50 ((I 498 50) - 1))) F) : UInt32) else (if (I 539 (Int32.toNatClampNeg ((I 498 50) - 1))) = 110 then (if 0 ≤ (Op.cmpValue (FP.fcmp (f_X10_pops (fI_X10_pops (am_u I 498 50 ((I 498 50) - 1))) F) (f_X10_pops (am_u I 498 50 ((I 498 50) - 1)) F)) .g) then (f_X10_pops (am_u I 498 50 ((I 498 50) - 1)) F) else (f_X10_pops (fI_X10_pops (am_u I 498 50 ((I 498 50) - 1))) F) : UInt32) else (if (Op.cmpValue (FP.fcmp (f_X10_pops (am_u I 498 50 ((I 498 50) - 1)) F) 0) .l) = 0 then 0 else (FP.fdiv (f_X10_pops (fI_X10_pops (am_u I 498 50 ((I 498 50) - 1))) F) (f_X10_pops (am_u I 498 50 ((I 498 50) - 1)) F)) : UInt32) : UInt32) : UInt32) : UInt32) : UInt32) : UInt32) (fI_X10_pops (fI_X10_pops (am_u I 498 50 ((I 498 50) - 1)))) F) : Nat → Nat → UInt32) : Nat → Nat → UInt32) : Nat → Nat → UInt32) : Nat → Nat → UInt32)
theorem s_X10_applies {X : Nat × (Nat → Int32)} {I : Nat → Nat → Int32} {L : Nat → Nat → Int64} {F : Nat → Nat → UInt32} {Q : AQ}  (p : (p_X10_applies I F)) (q : Q (.inl none) (G X (fI_X10_applies I F) L (fF_X10_applies I F))) : WP mX10_applies 0 (am_ent 5 [.ref 498]) [] (G X I L F) 0 0 Q := by
  unfold fI_X10_applies fF_X10_applies at q
  unfold p_X10_applies at p
  have q0 := q
  clear q
  have q : vp_in ((I 498 50) - 1) 48 ∧ ((p_X10_pops (am_u I 498 50 ((I 498 50) - 1))) ∧ ((((I 539 (Int32.toNatClampNeg ((I 498 50) - 1))) = 126 → (p_X10_puts (FP.fneg (f_X10_pops (am_u I 498 50 ((I 498 50) - 1)) F)) (fI_X10_pops (am_u I 498 50 ((I 498 50) - 1)))) ∧ (True)) ∧ (¬ (I 539 (Int32.toNatClampNeg ((I 498 50) - 1))) = 126 → ((I 539 (Int32.toNatClampNeg ((I 498 50) - 1))) = 116 → (p_X10_puts (FP.i2f (FP.f2i (f_X10_pops (am_u I 498 50 ((I 498 50) - 1)) F))) (fI_X10_pops (am_u I 498 50 ((I 498 50) - 1)))) ∧ (True)) ∧ (¬ (I 539 (Int32.toNatClampNeg ((I 498 50) - 1))) = 116 → ((I 539 (Int32.toNatClampNeg ((I 498 50) - 1))) = 97 → (p_X10_puts (if 0 ≤ (Op.cmpValue (FP.fcmp (f_X10_pops (am_u I 498 50 ((I 498 50) - 1)) F) 0) .g) then (f_X10_pops (am_u I 498 50 ((I 498 50) - 1)) F) else (FP.fneg (f_X10_pops (am_u I 498 50 ((I 498 50) - 1)) F)) : UInt32) (fI_X10_pops (am_u I 498 50 ((I 498 50) - 1)))) ∧ (True)) ∧ (¬ (I 539 (Int32.toNatClampNeg ((I 498 50) - 1))) = 97 → ((I 539 (Int32.toNatClampNeg ((I 498 50) - 1))) = 105 → (p_X10_pops (fI_X10_pops (am_u I 498 50 ((I 498 50) - 1)))) ∧ ((p_X10_pops (fI_X10_pops (fI_X10_pops (am_u I 498 50 ((I 498 50) - 1))))) ∧ ((p_X10_puts (if (Op.cmpValue (FP.fcmp (f_X10_pops (fI_X10_pops (fI_X10_pops (am_u I 498 50 ((I 498 50) - 1)))) F) 0) .l) ≤ 0 then (f_X10_pops (am_u I 498 50 ((I 498 50) - 1)) F) else (f_X10_pops (fI_X10_pops (am_u I 498 50 ((I 498 50) - 1))) F) : UInt32) (fI_X10_pops (fI_X10_pops (fI_X10_pops (am_u I 498 50 ((I 498 50) - 1)))))) ∧ (True)))) ∧ (¬ (I 539 (Int32.toNatClampNeg ((I 498 50) - 1))) = 105 → (p_X10_pops (fI_X10_pops (am_u I 498 50 ((I 498 50) - 1)))) ∧ ((((I 539 (Int32.toNatClampNeg ((I 498 50) - 1))) = 43 → vf_n32 (FP.fadd (f_X10_pops (fI_X10_pops (am_u I 498 50 ((I 498 50) - 1))) F) (f_X10_pops (am_u I 498 50 ((I 498 50) - 1)) F)) ∧ (True)) ∧ (¬ (I 539 (Int32.toNatClampNeg ((I 498 50) - 1))) = 43 → ((I 539 (Int32.toNatClampNeg ((I 498 50) - 1))) = 45 → vf_n32 (FP.fsub (f_X10_pops (fI_X10_pops (am_u I 498 50 ((I 498 50) - 1))) F) (f_X10_pops (am_u I 498 50 ((I 498 50) - 1)) F)) ∧ (True)) ∧ (¬ (I 539 (Int32.toNatClampNeg ((I 498 50) - 1))) = 45 → ((I 539 (Int32.toNatClampNeg ((I 498 50) - 1))) = 42 → vf_n32 (FP.fmul (f_X10_pops (fI_X10_pops (am_u I 498 50 ((I 498 50) - 1))) F) (f_X10_pops (am_u I 498 50 ((I 498 50) - 1)) F)) ∧ (True)) ∧ (¬ (I 539 (Int32.toNatClampNeg ((I 498 50) - 1))) = 42 → (¬ (I 539 (Int32.toNatClampNeg ((I 498 50) - 1))) = 120 → (¬ (I 539 (Int32.toNatClampNeg ((I 498 50) - 1))) = 110 → (¬ (Op.cmpValue (FP.fcmp (f_X10_pops (am_u I 498 50 ((I 498 50) - 1)) F) 0) .l) = 0 → vf_n32 (FP.fdiv (f_X10_pops (fI_X10_pops (am_u I 498 50 ((I 498 50) - 1))) F) (f_X10_pops (am_u I 498 50 ((I 498 50) - 1)) F)) ∧ (True)))))))) ∧ ((p_X10_puts (if (I 539 (Int32.toNatClampNeg ((I 498 50) - 1))) = 43 then (FP.fadd (f_X10_pops (fI_X10_pops (am_u I 498 50 ((I 498 50) - 1))) F) (f_X10_pops (am_u I 498 50 ((I 498 50) - 1)) F)) else (if (I 539 (Int32.toNatClampNeg ((I 498 50) - 1))) = 45 then (FP.fsub (f_X10_pops (fI_X10_pops (am_u I 498 50 ((I 498 50) - 1))) F) (f_X10_pops (am_u I 498 50 ((I 498 50) - 1)) F)) else (if (I 539 (Int32.toNatClampNeg ((I 498 50) - 1))) = 42 then (FP.fmul (f_X10_pops (fI_X10_pops (am_u I 498 50 ((I 498 50) - 1))) F) (f_X10_pops (am_u I 498 50 ((I 498 50) - 1)) F)) else (if (I 539 (Int32.toNatClampNeg ((I 498 50) - 1))) = 120 then (if (Op.cmpValue (FP.fcmp (f_X10_pops (fI_X10_pops (am_u I 498 50 ((I 498 50) - 1))) F) (f_X10_pops (am_u I 498 50 ((I 498 50) - 1)) F)) .l) ≤ 0 then (f_X10_pops (am_u I 498 50 ((I 498 50) - 1)) F) else (f_X10_pops (fI_X10_pops (am_u I 498 50 ((I 498 50) - 1))) F) : UInt32) else (if (I 539 (Int32.toNatClampNeg ((I 498 50) - 1))) = 110 then (if 0 ≤ (Op.cmpValue (FP.fcmp (f_X10_pops (fI_X10_pops (am_u I 498 50 ((I 498 50) - 1))) F) (f_X10_pops (am_u I 498 50 ((I 498 50) - 1)) F)) .g) then (f_X10_pops (am_u I 498 50 ((I 498 50) - 1)) F) else (f_X10_pops (fI_X10_pops (am_u I 498 50 ((I 498 50) - 1))) F) : UInt32) else (if (Op.cmpValue (FP.fcmp (f_X10_pops (am_u I 498 50 ((I 498 50) - 1)) F) 0) .l) = 0 then 0 else (FP.fdiv (f_X10_pops (fI_X10_pops (am_u I 498 50 ((I 498 50) - 1))) F) (f_X10_pops (am_u I 498 50 ((I 498 50) - 1)) F)) : UInt32) : UInt32) : UInt32) : UInt32) : UInt32) : UInt32) (fI_X10_pops (fI_X10_pops (am_u I 498 50 ((I 498 50) - 1))))) ∧ (True)))))))) ∧ (Q (.inl none) (G X (if (I 539 (Int32.toNatClampNeg ((I 498 50) - 1))) = 126 then (fI_X10_puts (FP.fneg (f_X10_pops (am_u I 498 50 ((I 498 50) - 1)) F)) (fI_X10_pops (am_u I 498 50 ((I 498 50) - 1)))) else (if (I 539 (Int32.toNatClampNeg ((I 498 50) - 1))) = 116 then (fI_X10_puts (FP.i2f (FP.f2i (f_X10_pops (am_u I 498 50 ((I 498 50) - 1)) F))) (fI_X10_pops (am_u I 498 50 ((I 498 50) - 1)))) else (if (I 539 (Int32.toNatClampNeg ((I 498 50) - 1))) = 97 then (fI_X10_puts (if 0 ≤ (Op.cmpValue (FP.fcmp (f_X10_pops (am_u I 498 50 ((I 498 50) - 1)) F) 0) .g) then (f_X10_pops (am_u I 498 50 ((I 498 50) - 1)) F) else (FP.fneg (f_X10_pops (am_u I 498 50 ((I 498 50) - 1)) F)) : UInt32) (fI_X10_pops (am_u I 498 50 ((I 498 50) - 1)))) else (if (I 539 (Int32.toNatClampNeg ((I 498 50) - 1))) = 105 then (fI_X10_puts (if (Op.cmpValue (FP.fcmp (f_X10_pops (fI_X10_pops (fI_X10_pops (am_u I 498 50 ((I 498 50) - 1)))) F) 0) .l) ≤ 0 then (f_X10_pops (am_u I 498 50 ((I 498 50) - 1)) F) else (f_X10_pops (fI_X10_pops (am_u I 498 50 ((I 498 50) - 1))) F) : UInt32) (fI_X10_pops (fI_X10_pops (fI_X10_pops (am_u I 498 50 ((I 498 50) - 1)))))) else (fI_X10_puts (if (I 539 (Int32.toNatClampNeg ((I 498 50) - 1))) = 43 then (FP.fadd (f_X10_pops (fI_X10_pops (am_u I 498 50 ((I 498 50) - 1))) F) (f_X10_pops (am_u I 498 50 ((I 498 50) - 1)) F)) else (if (I 539 (Int32.toNatClampNeg ((I 498 50) - 1))) = 45 then (FP.fsub (f_X10_pops (fI_X10_pops (am_u I 498 50 ((I 498 50) - 1))) F) (f_X10_pops (am_u I 498 50 ((I 498 50) - 1)) F)) else (if (I 539 (Int32.toNatClampNeg ((I 498 50) - 1))) = 42 then (FP.fmul (f_X10_pops (fI_X10_pops (am_u I 498 50 ((I 498 50) - 1))) F) (f_X10_pops (am_u I 498 50 ((I 498 50) - 1)) F)) else (if (I 539 (Int32.toNatClampNeg ((I 498 50) - 1))) = 120 then (if (Op.cmpValue (FP.fcmp (f_X10_pops (fI_X10_pops (am_u I 498 50 ((I 498 50) - 1))) F) (f_X10_pops (am_u I 498 50 ((I 498 50) - 1)) F)) .l) ≤ 0 then (f_X10_pops (am_u I 498 50 ((I 498 50) - 1)) F) else (f_X10_pops (fI_X10_pops (am_u I 498 50 ((I 498 50) - 1))) F) : UInt32) else (if (I 539 (Int32.toNatClampNeg ((I 498 50) - 1))) = 110 then (if 0 ≤ (Op.cmpValue (FP.fcmp (f_X10_pops (fI_X10_pops (am_u I 498 50 ((I 498 50) - 1))) F) (f_X10_pops (am_u I 498 50 ((I 498 50) - 1)) F)) .g) then (f_X10_pops (am_u I 498 50 ((I 498 50) - 1)) F) else (f_X10_pops (fI_X10_pops (am_u I 498 50 ((I 498 50) - 1))) F) : UInt32) else (if (Op.cmpValue (FP.fcmp (f_X10_pops (am_u I 498 50 ((I 498 50) - 1)) F) 0) .l) = 0 then 0 else (FP.fdiv (f_X10_pops (fI_X10_pops (am_u I 498 50 ((I 498 50) - 1))) F) (f_X10_pops (am_u I 498 50 ((I 498 50) - 1)) F)) : UInt32) : UInt32) : UInt32) : UInt32) : UInt32) : UInt32) (fI_X10_pops (fI_X10_pops (am_u I 498 50 ((I 498 50) - 1))))) : Nat → Nat → Int32) : Nat → Nat → Int32) : Nat → Nat → Int32) : Nat → Nat → Int32) L (if (I 539 (Int32.toNatClampNeg ((I 498 50) - 1))) = 126 then (fF_X10_puts (FP.fneg (f_X10_pops (am_u I 498 50 ((I 498 50) - 1)) F)) (fI_X10_pops (am_u I 498 50 ((I 498 50) - 1))) F) else (if (I 539 (Int32.toNatClampNeg ((I 498 50) - 1))) = 116 then (fF_X10_puts (FP.i2f (FP.f2i (f_X10_pops (am_u I 498 50 ((I 498 50) - 1)) F))) (fI_X10_pops (am_u I 498 50 ((I 498 50) - 1))) F) else (if (I 539 (Int32.toNatClampNeg ((I 498 50) - 1))) = 97 then (fF_X10_puts (if 0 ≤ (Op.cmpValue (FP.fcmp (f_X10_pops (am_u I 498 50 ((I 498 50) - 1)) F) 0) .g) then (f_X10_pops (am_u I 498 50 ((I 498 50) - 1)) F) else (FP.fneg (f_X10_pops (am_u I 498 50 ((I 498 50) - 1)) F)) : UInt32) (fI_X10_pops (am_u I 498 50 ((I 498 50) - 1))) F) else (if (I 539 (Int32.toNatClampNeg ((I 498 50) - 1))) = 105 then (fF_X10_puts (if (Op.cmpValue (FP.fcmp (f_X10_pops (fI_X10_pops (fI_X10_pops (am_u I 498 50 ((I 498 50) - 1)))) F) 0) .l) ≤ 0 then (f_X10_pops (am_u I 498 50 ((I 498 50) - 1)) F) else (f_X10_pops (fI_X10_pops (am_u I 498 50 ((I 498 50) - 1))) F) : UInt32) (fI_X10_pops (fI_X10_pops (fI_X10_pops (am_u I 498 50 ((I 498 50) - 1))))) F) else (fF_X10_puts (if (I 539 (Int32.toNatClampNeg ((I 498 50) - 1))) = 43 then (FP.fadd (f_X10_pops (fI_X10_pops (am_u I 498 50 ((I 498 50) - 1))) F) (f_X10_pops (am_u I 498 50 ((I 498 50) - 1)) F)) else (if (I 539 (Int32.toNatClampNeg ((I 498 50) - 1))) = 45 then (FP.fsub (f_X10_pops (fI_X10_pops (am_u I 498 50 ((I 498 50) - 1))) F) (f_X10_pops (am_u I 498 50 ((I 498 50) - 1)) F)) else (if (I 539 (Int32.toNatClampNeg ((I 498 50) - 1))) = 42 then (FP.fmul (f_X10_pops (fI_X10_pops (am_u I 498 50 ((I 498 50) - 1))) F) (f_X10_pops (am_u I 498 50 ((I 498 50) - 1)) F)) else (if (I 539 (Int32.toNatClampNeg ((I 498 50) - 1))) = 120 then (if (Op.cmpValue (FP.fcmp (f_X10_pops (fI_X10_pops (am_u I 498 50 ((I 498 50) - 1))) F) (f_X10_pops (am_u I 498 50 ((I 498 50) - 1)) F)) .l) ≤ 0 then (f_X10_pops (am_u I 498 50 ((I 498 50) - 1)) F) else (f_X10_pops (fI_X10_pops (am_u I 498 50 ((I 498 50) - 1))) F) : UInt32) else (if (I 539 (Int32.toNatClampNeg ((I 498 50) - 1))) = 110 then (if 0 ≤ (Op.cmpValue (FP.fcmp (f_X10_pops (fI_X10_pops (am_u I 498 50 ((I 498 50) - 1))) F) (f_X10_pops (am_u I 498 50 ((I 498 50) - 1)) F)) .g) then (f_X10_pops (am_u I 498 50 ((I 498 50) - 1)) F) else (f_X10_pops (fI_X10_pops (am_u I 498 50 ((I 498 50) - 1))) F) : UInt32) else (if (Op.cmpValue (FP.fcmp (f_X10_pops (am_u I 498 50 ((I 498 50) - 1)) F) 0) .l) = 0 then 0 else (FP.fdiv (f_X10_pops (fI_X10_pops (am_u I 498 50 ((I 498 50) - 1))) F) (f_X10_pops (am_u I 498 50 ((I 498 50) - 1)) F)) : UInt32) : UInt32) : UInt32) : UInt32) : UInt32) : UInt32) (fI_X10_pops (fI_X10_pops (am_u I 498 50 ((I 498 50) - 1)))) F) : Nat → Nat → UInt32) : Nat → Nat → UInt32) : Nat → Nat → UInt32) : Nat → Nat → UInt32))))) := by
    exact ⟨p.1, p.2.1, p.2.2.1, q0⟩
  clear p q0
  refine w_aload_n rX10_applies_0 rfl ?_
  refine w_dup rX10_applies_1 trivial ?_
  refine x_getI rX10_applies_2 rfl rfl (G_is (by decide) rfl) ?_
  refine w_iconst rX10_applies_5 (x := 1) (by decide) ?_
  refine w_isub rX10_applies_6 ?_
  refine x_putI rX10_applies_7 rfl (G_is (by decide) rfl) trivial ?_
  refine w_aload_n rX10_applies_10 rfl ?_
  refine w_getR rX10_applies_11 rfl rfl (G_is (by decide) rfl) (x := 539) rfl ?_
  refine w_aload_n rX10_applies_14 rfl ?_
  refine x_getI rX10_applies_15 rfl rfl (G_is (by decide) rfl) ?_
  rw [am_u_eq (f := I) (o := 498) (k := 50)]
  have h18 := q.1
  replace q := q.2
  refine x_iaload rX10_applies_18 (G_at (by decide) rfl rfl h18) ?_
  rw [au_ne (f := I) (o := 498) (k := 50) (a := 539) (b := (Int32.toNatClampNeg ((I 498 50) - 1))) (fun z => absurd z.1 (by decide))]
  refine w_istore_n rX10_applies_19 rfl trivial ?_
  refine w_aload_n rX10_applies_20 rfl ?_
  refine w_invokevirtual rX10_applies_21 rfl rfl rfl (Nat.le_of_ble_eq_true rfl) ⟨trivial, trivial⟩ (G_is (by decide) rfl) (by decide) (by decide) ?_
  refine s_X10_pops q.1 ?_
  replace q := q.2
  show WP mX10_applies 24 _ _ _ 0 0 _
  refine w_fstore_n rX10_applies_24 rfl trivial ?_
  refine w_iload_n rX10_applies_25 rfl ?_
  refine w_bipush rX10_applies_26 (x := 126) (by decide) ?_
  have j28 : ∀ I28 : Nat → Nat → Int32, I28 = (if (I 539 (Int32.toNatClampNeg ((I 498 50) - 1))) = 126 then (fI_X10_puts (FP.fneg (f_X10_pops (am_u I 498 50 ((I 498 50) - 1)) F)) (fI_X10_pops (am_u I 498 50 ((I 498 50) - 1)))) else (if (I 539 (Int32.toNatClampNeg ((I 498 50) - 1))) = 116 then (fI_X10_puts (FP.i2f (FP.f2i (f_X10_pops (am_u I 498 50 ((I 498 50) - 1)) F))) (fI_X10_pops (am_u I 498 50 ((I 498 50) - 1)))) else (if (I 539 (Int32.toNatClampNeg ((I 498 50) - 1))) = 97 then (fI_X10_puts (if 0 ≤ (Op.cmpValue (FP.fcmp (f_X10_pops (am_u I 498 50 ((I 498 50) - 1)) F) 0) .g) then (f_X10_pops (am_u I 498 50 ((I 498 50) - 1)) F) else (FP.fneg (f_X10_pops (am_u I 498 50 ((I 498 50) - 1)) F)) : UInt32) (fI_X10_pops (am_u I 498 50 ((I 498 50) - 1)))) else (if (I 539 (Int32.toNatClampNeg ((I 498 50) - 1))) = 105 then (fI_X10_puts (if (Op.cmpValue (FP.fcmp (f_X10_pops (fI_X10_pops (fI_X10_pops (am_u I 498 50 ((I 498 50) - 1)))) F) 0) .l) ≤ 0 then (f_X10_pops (am_u I 498 50 ((I 498 50) - 1)) F) else (f_X10_pops (fI_X10_pops (am_u I 498 50 ((I 498 50) - 1))) F) : UInt32) (fI_X10_pops (fI_X10_pops (fI_X10_pops (am_u I 498 50 ((I 498 50) - 1)))))) else (fI_X10_puts (if (I 539 (Int32.toNatClampNeg ((I 498 50) - 1))) = 43 then (FP.fadd (f_X10_pops (fI_X10_pops (am_u I 498 50 ((I 498 50) - 1))) F) (f_X10_pops (am_u I 498 50 ((I 498 50) - 1)) F)) else (if (I 539 (Int32.toNatClampNeg ((I 498 50) - 1))) = 45 then (FP.fsub (f_X10_pops (fI_X10_pops (am_u I 498 50 ((I 498 50) - 1))) F) (f_X10_pops (am_u I 498 50 ((I 498 50) - 1)) F)) else (if (I 539 (Int32.toNatClampNeg ((I 498 50) - 1))) = 42 then (FP.fmul (f_X10_pops (fI_X10_pops (am_u I 498 50 ((I 498 50) - 1))) F) (f_X10_pops (am_u I 498 50 ((I 498 50) - 1)) F)) else (if (I 539 (Int32.toNatClampNeg ((I 498 50) - 1))) = 120 then (if (Op.cmpValue (FP.fcmp (f_X10_pops (fI_X10_pops (am_u I 498 50 ((I 498 50) - 1))) F) (f_X10_pops (am_u I 498 50 ((I 498 50) - 1)) F)) .l) ≤ 0 then (f_X10_pops (am_u I 498 50 ((I 498 50) - 1)) F) else (f_X10_pops (fI_X10_pops (am_u I 498 50 ((I 498 50) - 1))) F) : UInt32) else (if (I 539 (Int32.toNatClampNeg ((I 498 50) - 1))) = 110 then (if 0 ≤ (Op.cmpValue (FP.fcmp (f_X10_pops (fI_X10_pops (am_u I 498 50 ((I 498 50) - 1))) F) (f_X10_pops (am_u I 498 50 ((I 498 50) - 1)) F)) .g) then (f_X10_pops (am_u I 498 50 ((I 498 50) - 1)) F) else (f_X10_pops (fI_X10_pops (am_u I 498 50 ((I 498 50) - 1))) F) : UInt32) else (if (Op.cmpValue (FP.fcmp (f_X10_pops (am_u I 498 50 ((I 498 50) - 1)) F) 0) .l) = 0 then 0 else (FP.fdiv (f_X10_pops (fI_X10_pops (am_u I 498 50 ((I 498 50) - 1))) F) (f_X10_pops (am_u I 498 50 ((I 498 50) - 1)) F)) : UInt32) : UInt32) : UInt32) : UInt32) : UInt32) : UInt32) (fI_X10_pops (fI_X10_pops (am_u I 498 50 ((I 498 50) - 1))))) : Nat → Nat → Int32) : Nat → Nat → Int32) : Nat → Nat → Int32) : Nat → Nat → Int32) → ∀ F28 : Nat → Nat → UInt32, F28 = (if (I 539 (Int32.toNatClampNeg ((I 498 50) - 1))) = 126 then (fF_X10_puts (FP.fneg (f_X10_pops (am_u I 498 50 ((I 498 50) - 1)) F)) (fI_X10_pops (am_u I 498 50 ((I 498 50) - 1))) F) else (if (I 539 (Int32.toNatClampNeg ((I 498 50) - 1))) = 116 then (fF_X10_puts (FP.i2f (FP.f2i (f_X10_pops (am_u I 498 50 ((I 498 50) - 1)) F))) (fI_X10_pops (am_u I 498 50 ((I 498 50) - 1))) F) else (if (I 539 (Int32.toNatClampNeg ((I 498 50) - 1))) = 97 then (fF_X10_puts (if 0 ≤ (Op.cmpValue (FP.fcmp (f_X10_pops (am_u I 498 50 ((I 498 50) - 1)) F) 0) .g) then (f_X10_pops (am_u I 498 50 ((I 498 50) - 1)) F) else (FP.fneg (f_X10_pops (am_u I 498 50 ((I 498 50) - 1)) F)) : UInt32) (fI_X10_pops (am_u I 498 50 ((I 498 50) - 1))) F) else (if (I 539 (Int32.toNatClampNeg ((I 498 50) - 1))) = 105 then (fF_X10_puts (if (Op.cmpValue (FP.fcmp (f_X10_pops (fI_X10_pops (fI_X10_pops (am_u I 498 50 ((I 498 50) - 1)))) F) 0) .l) ≤ 0 then (f_X10_pops (am_u I 498 50 ((I 498 50) - 1)) F) else (f_X10_pops (fI_X10_pops (am_u I 498 50 ((I 498 50) - 1))) F) : UInt32) (fI_X10_pops (fI_X10_pops (fI_X10_pops (am_u I 498 50 ((I 498 50) - 1))))) F) else (fF_X10_puts (if (I 539 (Int32.toNatClampNeg ((I 498 50) - 1))) = 43 then (FP.fadd (f_X10_pops (fI_X10_pops (am_u I 498 50 ((I 498 50) - 1))) F) (f_X10_pops (am_u I 498 50 ((I 498 50) - 1)) F)) else (if (I 539 (Int32.toNatClampNeg ((I 498 50) - 1))) = 45 then (FP.fsub (f_X10_pops (fI_X10_pops (am_u I 498 50 ((I 498 50) - 1))) F) (f_X10_pops (am_u I 498 50 ((I 498 50) - 1)) F)) else (if (I 539 (Int32.toNatClampNeg ((I 498 50) - 1))) = 42 then (FP.fmul (f_X10_pops (fI_X10_pops (am_u I 498 50 ((I 498 50) - 1))) F) (f_X10_pops (am_u I 498 50 ((I 498 50) - 1)) F)) else (if (I 539 (Int32.toNatClampNeg ((I 498 50) - 1))) = 120 then (if (Op.cmpValue (FP.fcmp (f_X10_pops (fI_X10_pops (am_u I 498 50 ((I 498 50) - 1))) F) (f_X10_pops (am_u I 498 50 ((I 498 50) - 1)) F)) .l) ≤ 0 then (f_X10_pops (am_u I 498 50 ((I 498 50) - 1)) F) else (f_X10_pops (fI_X10_pops (am_u I 498 50 ((I 498 50) - 1))) F) : UInt32) else (if (I 539 (Int32.toNatClampNeg ((I 498 50) - 1))) = 110 then (if 0 ≤ (Op.cmpValue (FP.fcmp (f_X10_pops (fI_X10_pops (am_u I 498 50 ((I 498 50) - 1))) F) (f_X10_pops (am_u I 498 50 ((I 498 50) - 1)) F)) .g) then (f_X10_pops (am_u I 498 50 ((I 498 50) - 1)) F) else (f_X10_pops (fI_X10_pops (am_u I 498 50 ((I 498 50) - 1))) F) : UInt32) else (if (Op.cmpValue (FP.fcmp (f_X10_pops (am_u I 498 50 ((I 498 50) - 1)) F) 0) .l) = 0 then 0 else (FP.fdiv (f_X10_pops (fI_X10_pops (am_u I 498 50 ((I 498 50) - 1))) F) (f_X10_pops (am_u I 498 50 ((I 498 50) - 1)) F)) : UInt32) : UInt32) : UInt32) : UInt32) : UInt32) : UInt32) (fI_X10_pops (fI_X10_pops (am_u I 498 50 ((I 498 50) - 1)))) F) : Nat → Nat → UInt32) : Nat → Nat → UInt32) : Nat → Nat → UInt32) : Nat → Nat → UInt32) → ∀ d28_3 : Option Value, am_nl [d28_3] 1 → ∀ d28_4 : Option Value, am_nl [d28_4] 1 → WP mX10_applies 215 [some (.ref 498), some (.int (I 539 (Int32.toNatClampNeg ((I 498 50) - 1)))), some (.float (f_X10_pops (am_u I 498 50 ((I 498 50) - 1)) F)), d28_3, d28_4] [] (G X I28 L F28) 0 0 Q := by
    intro I28 eI28 F28 eF28 d28_3 nd28_3 d28_4 nd28_4
    subst eI28
    subst eF28
    skip
    replace q := q.2
    refine w_return rX10_applies_215 ?_
    exact q
  replace q := q.1
  refine w_icmpne rX10_applies_28 (fun h28 => ?_) (fun h28 => ?_)
  · replace q := q.2 h28
    refine w_iload_n rX10_applies_40 rfl ?_
    refine w_bipush rX10_applies_41 (x := 116) (by decide) ?_
    refine w_icmpne rX10_applies_43 (fun h43 => ?_) (fun h43 => ?_)
    · replace q := q.2 h43
      refine w_iload_n rX10_applies_56 rfl ?_
      refine w_bipush rX10_applies_57 (x := 97) (by decide) ?_
      refine w_icmpne rX10_applies_59 (fun h59 => ?_) (fun h59 => ?_)
      · replace q := q.2 h59
        refine w_iload_n rX10_applies_81 rfl ?_
        refine w_bipush rX10_applies_82 (x := 105) (by decide) ?_
        refine w_icmpne rX10_applies_84 (fun h84 => ?_) (fun h84 => ?_)
        · replace q := q.2 h84
          refine w_aload_n rX10_applies_117 rfl ?_
          refine w_invokevirtual rX10_applies_118 rfl rfl rfl (Nat.le_of_ble_eq_true rfl) ⟨trivial, trivial⟩ (G_is (by decide) rfl) (by decide) (by decide) ?_
          refine s_X10_pops q.1 ?_
          replace q := q.2
          show WP mX10_applies 121 _ _ _ 0 0 _
          refine w_fstore_n rX10_applies_121 rfl trivial ?_
          refine w_aload_n rX10_applies_122 rfl ?_
          refine w_iload_n rX10_applies_123 rfl ?_
          refine w_bipush rX10_applies_124 (x := 43) (by decide) ?_
          have j126 : ∀ s126_1 : UInt32, s126_1 = (if (I 539 (Int32.toNatClampNeg ((I 498 50) - 1))) = 43 then (FP.fadd (f_X10_pops (fI_X10_pops (am_u I 498 50 ((I 498 50) - 1))) F) (f_X10_pops (am_u I 498 50 ((I 498 50) - 1)) F)) else (if (I 539 (Int32.toNatClampNeg ((I 498 50) - 1))) = 45 then (FP.fsub (f_X10_pops (fI_X10_pops (am_u I 498 50 ((I 498 50) - 1))) F) (f_X10_pops (am_u I 498 50 ((I 498 50) - 1)) F)) else (if (I 539 (Int32.toNatClampNeg ((I 498 50) - 1))) = 42 then (FP.fmul (f_X10_pops (fI_X10_pops (am_u I 498 50 ((I 498 50) - 1))) F) (f_X10_pops (am_u I 498 50 ((I 498 50) - 1)) F)) else (if (I 539 (Int32.toNatClampNeg ((I 498 50) - 1))) = 120 then (if (Op.cmpValue (FP.fcmp (f_X10_pops (fI_X10_pops (am_u I 498 50 ((I 498 50) - 1))) F) (f_X10_pops (am_u I 498 50 ((I 498 50) - 1)) F)) .l) ≤ 0 then (f_X10_pops (am_u I 498 50 ((I 498 50) - 1)) F) else (f_X10_pops (fI_X10_pops (am_u I 498 50 ((I 498 50) - 1))) F) : UInt32) else (if (I 539 (Int32.toNatClampNeg ((I 498 50) - 1))) = 110 then (if 0 ≤ (Op.cmpValue (FP.fcmp (f_X10_pops (fI_X10_pops (am_u I 498 50 ((I 498 50) - 1))) F) (f_X10_pops (am_u I 498 50 ((I 498 50) - 1)) F)) .g) then (f_X10_pops (am_u I 498 50 ((I 498 50) - 1)) F) else (f_X10_pops (fI_X10_pops (am_u I 498 50 ((I 498 50) - 1))) F) : UInt32) else (if (Op.cmpValue (FP.fcmp (f_X10_pops (am_u I 498 50 ((I 498 50) - 1)) F) 0) .l) = 0 then 0 else (FP.fdiv (f_X10_pops (fI_X10_pops (am_u I 498 50 ((I 498 50) - 1))) F) (f_X10_pops (am_u I 498 50 ((I 498 50) - 1)) F)) : UInt32) : UInt32) : UInt32) : UInt32) : UInt32) : UInt32) → WP mX10_applies 212 [some (.ref 498), some (.int (I 539 (Int32.toNatClampNeg ((I 498 50) - 1)))), some (.float (f_X10_pops (am_u I 498 50 ((I 498 50) - 1)) F)), some (.float (f_X10_pops (fI_X10_pops (am_u I 498 50 ((I 498 50) - 1))) F)), none] [.float s126_1, .ref 498] (G X (fI_X10_pops (fI_X10_pops (am_u I 498 50 ((I 498 50) - 1)))) L F) 0 0 Q := by
            intro s126_1 es126_1
            subst es126_1
            skip
            replace q := q.2
            refine w_invokevirtual rX10_applies_212 rfl rfl rfl (Nat.le_of_ble_eq_true rfl) ⟨trivial, trivial, trivial⟩ (G_is (by decide) rfl) (by decide) (by decide) ?_
            refine s_X10_puts q.1 ?_
            replace q := q.2
            show WP mX10_applies 215 _ _ _ 0 0 _
            exact j28 _ ((((if_neg h28).trans (if_neg h43)).trans (if_neg h59)).trans (if_neg h84)).symm _ ((((if_neg h28).trans (if_neg h43)).trans (if_neg h59)).trans (if_neg h84)).symm (some (.float (f_X10_pops (fI_X10_pops (am_u I 498 50 ((I 498 50) - 1))) F))) trivial (none) trivial
          replace q := q.1
          refine w_icmpne rX10_applies_126 (fun h126 => ?_) (fun h126 => ?_)
          · replace q := q.2 h126
            refine w_iload_n rX10_applies_135 rfl ?_
            refine w_bipush rX10_applies_136 (x := 45) (by decide) ?_
            refine w_icmpne rX10_applies_138 (fun h138 => ?_) (fun h138 => ?_)
            · replace q := q.2 h138
              refine w_iload_n rX10_applies_147 rfl ?_
              refine w_bipush rX10_applies_148 (x := 42) (by decide) ?_
              refine w_icmpne rX10_applies_150 (fun h150 => ?_) (fun h150 => ?_)
              · replace q := q.2 h150
                refine w_iload_n rX10_applies_159 rfl ?_
                refine w_bipush rX10_applies_160 (x := 120) (by decide) ?_
                refine w_icmpne rX10_applies_162 (fun h162 => ?_) (fun h162 => ?_)
                · replace q := q h162
                  refine w_iload_n rX10_applies_179 rfl ?_
                  refine w_bipush rX10_applies_180 (x := 110) (by decide) ?_
                  refine w_icmpne rX10_applies_182 (fun h182 => ?_) (fun h182 => ?_)
                  · replace q := q h182
                    refine w_fload_n rX10_applies_199 rfl ?_
                    refine w_fconst rX10_applies_200 (x := 0) rfl ?_
                    refine w_fcmp rX10_applies_201 ?_
                    refine w_ifne rX10_applies_202 (fun h202 => ?_) (fun h202 => ?_)
                    · replace q := q h202
                      refine w_fload_n rX10_applies_209 rfl ?_
                      refine w_fload_n rX10_applies_210 rfl ?_
                      refine w_fdiv rX10_applies_211 q.1 ?_
                      replace q := q.2
                      exact j126 _ ((((((if_neg h126).trans (if_neg h138)).trans (if_neg h150)).trans (if_neg h162)).trans (if_neg h182)).trans (if_neg h202)).symm
                    · skip
                      refine w_fconst rX10_applies_205 (x := 0) rfl ?_
                      refine w_goto rX10_applies_206 ?_
                      exact j126 _ ((((((if_neg h126).trans (if_neg h138)).trans (if_neg h150)).trans (if_neg h162)).trans (if_neg h182)).trans (if_pos h202)).symm
                  · skip
                    refine w_fload_n rX10_applies_185 rfl ?_
                    refine w_fload_n rX10_applies_186 rfl ?_
                    refine w_fcmp rX10_applies_187 ?_
                    refine w_ifge rX10_applies_188 (fun h188 => ?_) (fun h188 => ?_)
                    · skip
                      refine w_fload_n rX10_applies_195 rfl ?_
                      refine w_goto rX10_applies_196 ?_
                      exact j126 _ ((((((if_neg h126).trans (if_neg h138)).trans (if_neg h150)).trans (if_neg h162)).trans (if_pos h182)).trans (if_pos h188)).symm
                    · skip
                      refine w_fload_n rX10_applies_191 rfl ?_
                      refine w_goto rX10_applies_192 ?_
                      exact j126 _ ((((((if_neg h126).trans (if_neg h138)).trans (if_neg h150)).trans (if_neg h162)).trans (if_pos h182)).trans (if_neg h188)).symm
                · skip
                  refine w_fload_n rX10_applies_165 rfl ?_
                  refine w_fload_n rX10_applies_166 rfl ?_
                  refine w_fcmp rX10_applies_167 ?_
                  refine w_ifle rX10_applies_168 (fun h168 => ?_) (fun h168 => ?_)
                  · skip
                    refine w_fload_n rX10_applies_175 rfl ?_
                    refine w_goto rX10_applies_176 ?_
                    exact j126 _ (((((if_neg h126).trans (if_neg h138)).trans (if_neg h150)).trans (if_pos h162)).trans (if_pos h168)).symm
                  · skip
                    refine w_fload_n rX10_applies_171 rfl ?_
                    refine w_goto rX10_applies_172 ?_
                    exact j126 _ (((((if_neg h126).trans (if_neg h138)).trans (if_neg h150)).trans (if_pos h162)).trans (if_neg h168)).symm
              · replace q := q.1 h150
                refine w_fload_n rX10_applies_153 rfl ?_
                refine w_fload_n rX10_applies_154 rfl ?_
                refine w_fmul rX10_applies_155 q.1 ?_
                replace q := q.2
                refine w_goto rX10_applies_156 ?_
                exact j126 _ (((if_neg h126).trans (if_neg h138)).trans (if_pos h150)).symm
            · replace q := q.1 h138
              refine w_fload_n rX10_applies_141 rfl ?_
              refine w_fload_n rX10_applies_142 rfl ?_
              refine w_fsub rX10_applies_143 q.1 ?_
              replace q := q.2
              refine w_goto rX10_applies_144 ?_
              exact j126 _ ((if_neg h126).trans (if_pos h138)).symm
          · replace q := q.1 h126
            refine w_fload_n rX10_applies_129 rfl ?_
            refine w_fload_n rX10_applies_130 rfl ?_
            refine w_fadd rX10_applies_131 q.1 ?_
            replace q := q.2
            refine w_goto rX10_applies_132 ?_
            exact j126 _ (if_pos h126).symm
        · replace q := q.1 h84
          refine w_aload_n rX10_applies_87 rfl ?_
          refine w_invokevirtual rX10_applies_88 rfl rfl rfl (Nat.le_of_ble_eq_true rfl) ⟨trivial, trivial⟩ (G_is (by decide) rfl) (by decide) (by decide) ?_
          refine s_X10_pops q.1 ?_
          replace q := q.2
          show WP mX10_applies 91 _ _ _ 0 0 _
          refine w_fstore_n rX10_applies_91 rfl trivial ?_
          refine w_aload_n rX10_applies_92 rfl ?_
          refine w_invokevirtual rX10_applies_93 rfl rfl rfl (Nat.le_of_ble_eq_true rfl) ⟨trivial, trivial⟩ (G_is (by decide) rfl) (by decide) (by decide) ?_
          refine s_X10_pops q.1 ?_
          replace q := q.2
          show WP mX10_applies 96 _ _ _ 0 0 _
          refine w_fstore rX10_applies_96 rfl trivial ?_
          refine w_aload_n rX10_applies_98 rfl ?_
          refine w_fload rX10_applies_99 rfl ?_
          refine w_fconst rX10_applies_101 (x := 0) rfl ?_
          refine w_fcmp rX10_applies_102 ?_
          have j103 : ∀ s103_1 : UInt32, s103_1 = (if (Op.cmpValue (FP.fcmp (f_X10_pops (fI_X10_pops (fI_X10_pops (am_u I 498 50 ((I 498 50) - 1)))) F) 0) .l) ≤ 0 then (f_X10_pops (am_u I 498 50 ((I 498 50) - 1)) F) else (f_X10_pops (fI_X10_pops (am_u I 498 50 ((I 498 50) - 1))) F) : UInt32) → WP mX10_applies 111 [some (.ref 498), some (.int (I 539 (Int32.toNatClampNeg ((I 498 50) - 1)))), some (.float (f_X10_pops (am_u I 498 50 ((I 498 50) - 1)) F)), some (.float (f_X10_pops (fI_X10_pops (am_u I 498 50 ((I 498 50) - 1))) F)), some (.float (f_X10_pops (fI_X10_pops (fI_X10_pops (am_u I 498 50 ((I 498 50) - 1)))) F))] [.float s103_1, .ref 498] (G X (fI_X10_pops (fI_X10_pops (fI_X10_pops (am_u I 498 50 ((I 498 50) - 1))))) L F) 0 0 Q := by
            intro s103_1 es103_1
            subst es103_1
            skip
            refine w_invokevirtual rX10_applies_111 rfl rfl rfl (Nat.le_of_ble_eq_true rfl) ⟨trivial, trivial, trivial⟩ (G_is (by decide) rfl) (by decide) (by decide) ?_
            refine s_X10_puts q.1 ?_
            replace q := q.2
            show WP mX10_applies 114 _ _ _ 0 0 _
            refine w_goto rX10_applies_114 ?_
            exact j28 _ ((((if_neg h28).trans (if_neg h43)).trans (if_neg h59)).trans (if_pos h84)).symm _ ((((if_neg h28).trans (if_neg h43)).trans (if_neg h59)).trans (if_pos h84)).symm (some (.float (f_X10_pops (fI_X10_pops (am_u I 498 50 ((I 498 50) - 1))) F))) trivial (some (.float (f_X10_pops (fI_X10_pops (fI_X10_pops (am_u I 498 50 ((I 498 50) - 1)))) F))) trivial
          refine w_ifle rX10_applies_103 (fun h103 => ?_) (fun h103 => ?_)
          · skip
            refine w_fload_n rX10_applies_110 rfl ?_
            exact j103 _ (if_pos h103).symm
          · skip
            refine w_fload_n rX10_applies_106 rfl ?_
            refine w_goto rX10_applies_107 ?_
            exact j103 _ (if_neg h103).symm
      · replace q := q.1 h59
        refine w_aload_n rX10_applies_62 rfl ?_
        refine w_fload_n rX10_applies_63 rfl ?_
        refine w_fconst rX10_applies_64 (x := 0) rfl ?_
        refine w_fcmp rX10_applies_65 ?_
        have j66 : ∀ s66_1 : UInt32, s66_1 = (if 0 ≤ (Op.cmpValue (FP.fcmp (f_X10_pops (am_u I 498 50 ((I 498 50) - 1)) F) 0) .g) then (f_X10_pops (am_u I 498 50 ((I 498 50) - 1)) F) else (FP.fneg (f_X10_pops (am_u I 498 50 ((I 498 50) - 1)) F)) : UInt32) → WP mX10_applies 75 [some (.ref 498), some (.int (I 539 (Int32.toNatClampNeg ((I 498 50) - 1)))), some (.float (f_X10_pops (am_u I 498 50 ((I 498 50) - 1)) F)), none, none] [.float s66_1, .ref 498] (G X (fI_X10_pops (am_u I 498 50 ((I 498 50) - 1))) L F) 0 0 Q := by
          intro s66_1 es66_1
          subst es66_1
          skip
          refine w_invokevirtual rX10_applies_75 rfl rfl rfl (Nat.le_of_ble_eq_true rfl) ⟨trivial, trivial, trivial⟩ (G_is (by decide) rfl) (by decide) (by decide) ?_
          refine s_X10_puts q.1 ?_
          replace q := q.2
          show WP mX10_applies 78 _ _ _ 0 0 _
          refine w_goto rX10_applies_78 ?_
          exact j28 _ (((if_neg h28).trans (if_neg h43)).trans (if_pos h59)).symm _ (((if_neg h28).trans (if_neg h43)).trans (if_pos h59)).symm (none) trivial (none) trivial
        refine w_ifge rX10_applies_66 (fun h66 => ?_) (fun h66 => ?_)
        · skip
          refine w_fload_n rX10_applies_74 rfl ?_
          exact j66 _ (if_pos h66).symm
        · skip
          refine w_fload_n rX10_applies_69 rfl ?_
          refine w_fneg rX10_applies_70 ?_
          refine w_goto rX10_applies_71 ?_
          exact j66 _ (if_neg h66).symm
    · replace q := q.1 h43
      refine w_aload_n rX10_applies_46 rfl ?_
      refine w_fload_n rX10_applies_47 rfl ?_
      refine w_f2i rX10_applies_48 ?_
      refine w_i2f rX10_applies_49 ?_
      refine w_invokevirtual rX10_applies_50 rfl rfl rfl (Nat.le_of_ble_eq_true rfl) ⟨trivial, trivial, trivial⟩ (G_is (by decide) rfl) (by decide) (by decide) ?_
      refine s_X10_puts q.1 ?_
      replace q := q.2
      show WP mX10_applies 53 _ _ _ 0 0 _
      refine w_goto rX10_applies_53 ?_
      exact j28 _ ((if_neg h28).trans (if_pos h43)).symm _ ((if_neg h28).trans (if_pos h43)).symm (none) trivial (none) trivial
  · replace q := q.1 h28
    refine w_aload_n rX10_applies_31 rfl ?_
    refine w_fload_n rX10_applies_32 rfl ?_
    refine w_fneg rX10_applies_33 ?_
    refine w_invokevirtual rX10_applies_34 rfl rfl rfl (Nat.le_of_ble_eq_true rfl) ⟨trivial, trivial, trivial⟩ (G_is (by decide) rfl) (by decide) (by decide) ?_
    refine s_X10_puts q.1 ?_
    replace q := q.2
    show WP mX10_applies 37 _ _ _ 0 0 _
    refine w_goto rX10_applies_37 ?_
    exact j28 _ (if_pos h28).symm _ (if_pos h28).symm (none) trivial (none) trivial
def p_X10_waitsFor (isProduct : Int32) (I : Nat → Nat → Int32) : Prop := ((¬ (I 498 50) = 0 → vp_in ((I 498 50) - 1) 48 ∧ (True))) ∧ (((if (if (I 498 50) = 0 then 40 else (I 539 (Int32.toNatClampNeg ((I 498 50) - 1))) : Int32) = 42 then 1 else (if (if (I 498 50) = 0 then 40 else (I 539 (Int32.toNatClampNeg ((I 498 50) - 1))) : Int32) = 47 then 1 else (if isProduct = 0 then (if (if (I 498 50) = 0 then 40 else (I 539 (Int32.toNatClampNeg ((I 498 50) - 1))) : Int32) = 43 then 1 else (if (if (I 498 50) = 0 then 40 else (I 539 (Int32.toNatClampNeg ((I 498 50) - 1))) : Int32) = 45 then 1 else 0 : Int32) : Int32) else 0 : Int32) : Int32) : Int32) = 0 ∨ (if (if (I 498 50) = 0 then 40 else (I 539 (Int32.toNatClampNeg ((I 498 50) - 1))) : Int32) = 42 then 1 else (if (if (I 498 50) = 0 then 40 else (I 539 (Int32.toNatClampNeg ((I 498 50) - 1))) : Int32) = 47 then 1 else (if isProduct = 0 then (if (if (I 498 50) = 0 then 40 else (I 539 (Int32.toNatClampNeg ((I 498 50) - 1))) : Int32) = 43 then 1 else (if (if (I 498 50) = 0 then 40 else (I 539 (Int32.toNatClampNeg ((I 498 50) - 1))) : Int32) = 45 then 1 else 0 : Int32) : Int32) else 0 : Int32) : Int32) : Int32) = 1) ∧ (True))
def f_X10_waitsFor (isProduct : Int32) (I : Nat → Nat → Int32) : Int32 := (if (if (I 498 50) = 0 then 40 else (I 539 (Int32.toNatClampNeg ((I 498 50) - 1))) : Int32) = 42 then 1 else (if (if (I 498 50) = 0 then 40 else (I 539 (Int32.toNatClampNeg ((I 498 50) - 1))) : Int32) = 47 then 1 else (if isProduct = 0 then (if (if (I 498 50) = 0 then 40 else (I 539 (Int32.toNatClampNeg ((I 498 50) - 1))) : Int32) = 43 then 1 else (if (if (I 498 50) = 0 then 40 else (I 539 (Int32.toNatClampNeg ((I 498 50) - 1))) : Int32) = 45 then 1 else 0 : Int32) : Int32) else 0 : Int32) : Int32) : Int32)
theorem s_X10_waitsFor {X : Nat × (Nat → Int32)} {I : Nat → Nat → Int32} {L : Nat → Nat → Int64} {F : Nat → Nat → UInt32} {Q : AQ} {isProduct : Int32} (p : (p_X10_waitsFor isProduct I)) (q : Q (.inl (some (.int (f_X10_waitsFor isProduct I)))) (G X I L F)) : WP mX10_waitsFor 0 (am_ent 3 [.ref 498, .int isProduct]) [] (G X I L F) 0 0 Q := by
  unfold f_X10_waitsFor at q
  unfold p_X10_waitsFor at p
  have q0 := q
  clear q
  have q : ((¬ (I 498 50) = 0 → vp_in ((I 498 50) - 1) 48 ∧ (True))) ∧ (((if (if (I 498 50) = 0 then 40 else (I 539 (Int32.toNatClampNeg ((I 498 50) - 1))) : Int32) = 42 then 1 else (if (if (I 498 50) = 0 then 40 else (I 539 (Int32.toNatClampNeg ((I 498 50) - 1))) : Int32) = 47 then 1 else (if isProduct = 0 then (if (if (I 498 50) = 0 then 40 else (I 539 (Int32.toNatClampNeg ((I 498 50) - 1))) : Int32) = 43 then 1 else (if (if (I 498 50) = 0 then 40 else (I 539 (Int32.toNatClampNeg ((I 498 50) - 1))) : Int32) = 45 then 1 else 0 : Int32) : Int32) else 0 : Int32) : Int32) : Int32) = 0 ∨ (if (if (I 498 50) = 0 then 40 else (I 539 (Int32.toNatClampNeg ((I 498 50) - 1))) : Int32) = 42 then 1 else (if (if (I 498 50) = 0 then 40 else (I 539 (Int32.toNatClampNeg ((I 498 50) - 1))) : Int32) = 47 then 1 else (if isProduct = 0 then (if (if (I 498 50) = 0 then 40 else (I 539 (Int32.toNatClampNeg ((I 498 50) - 1))) : Int32) = 43 then 1 else (if (if (I 498 50) = 0 then 40 else (I 539 (Int32.toNatClampNeg ((I 498 50) - 1))) : Int32) = 45 then 1 else 0 : Int32) : Int32) else 0 : Int32) : Int32) : Int32) = 1) ∧ (Q (.inl (some (.int (if (if (I 498 50) = 0 then 40 else (I 539 (Int32.toNatClampNeg ((I 498 50) - 1))) : Int32) = 42 then 1 else (if (if (I 498 50) = 0 then 40 else (I 539 (Int32.toNatClampNeg ((I 498 50) - 1))) : Int32) = 47 then 1 else (if isProduct = 0 then (if (if (I 498 50) = 0 then 40 else (I 539 (Int32.toNatClampNeg ((I 498 50) - 1))) : Int32) = 43 then 1 else (if (if (I 498 50) = 0 then 40 else (I 539 (Int32.toNatClampNeg ((I 498 50) - 1))) : Int32) = 45 then 1 else 0 : Int32) : Int32) else 0 : Int32) : Int32) : Int32)))) (G X I L F))) := by
    exact ⟨p.1, p.2.1, q0⟩
  clear p q0
  refine w_aload_n rX10_waitsFor_0 rfl ?_
  refine x_getI rX10_waitsFor_1 rfl rfl (G_is (by decide) rfl) ?_
  have j4 : ∀ s4_0 : Int32, s4_0 = (if (I 498 50) = 0 then 40 else (I 539 (Int32.toNatClampNeg ((I 498 50) - 1))) : Int32) → WP mX10_waitsFor 23 [some (.ref 498), some (.int isProduct), none] [.int s4_0] (G X I L F) 0 0 Q := by
    intro s4_0 es4_0
    subst es4_0
    skip
    replace q := q.2
    refine w_istore_n rX10_waitsFor_23 rfl trivial ?_
    refine w_iload_n rX10_waitsFor_24 rfl ?_
    refine w_bipush rX10_waitsFor_25 (x := 42) (by decide) ?_
    have j27 : ∀ s27_0 : Int32, s27_0 = (if (if (I 498 50) = 0 then 40 else (I 539 (Int32.toNatClampNeg ((I 498 50) - 1))) : Int32) = 42 then 1 else (if (if (I 498 50) = 0 then 40 else (I 539 (Int32.toNatClampNeg ((I 498 50) - 1))) : Int32) = 47 then 1 else (if isProduct = 0 then (if (if (I 498 50) = 0 then 40 else (I 539 (Int32.toNatClampNeg ((I 498 50) - 1))) : Int32) = 43 then 1 else (if (if (I 498 50) = 0 then 40 else (I 539 (Int32.toNatClampNeg ((I 498 50) - 1))) : Int32) = 45 then 1 else 0 : Int32) : Int32) else 0 : Int32) : Int32) : Int32) → WP mX10_waitsFor 57 [some (.ref 498), some (.int isProduct), some (.int (if (I 498 50) = 0 then 40 else (I 539 (Int32.toNatClampNeg ((I 498 50) - 1))) : Int32))] [.int s27_0] (G X I L F) 0 0 Q := by
      intro s27_0 es27_0
      subst es27_0
      skip
      have z57 := q.1
      replace q := q.2
      refine w_ireturn rX10_waitsFor_57 z57 ?_
      exact q
    refine w_icmpeq rX10_waitsFor_27 (fun h27 => ?_) (fun h27 => ?_)
    · skip
      refine w_iconst rX10_waitsFor_52 (x := 1) (by decide) ?_
      refine w_goto rX10_waitsFor_53 ?_
      exact j27 _ (if_pos h27).symm
    · skip
      refine w_iload_n rX10_waitsFor_30 rfl ?_
      refine w_bipush rX10_waitsFor_31 (x := 47) (by decide) ?_
      refine w_icmpeq rX10_waitsFor_33 (fun h33 => ?_) (fun h33 => ?_)
      · skip
        refine w_iconst rX10_waitsFor_52 (x := 1) (by decide) ?_
        refine w_goto rX10_waitsFor_53 ?_
        exact j27 _ ((if_neg h27).trans (if_pos h33)).symm
      · skip
        refine w_iload_n rX10_waitsFor_36 rfl ?_
        refine w_ifne rX10_waitsFor_37 (fun h37 => ?_) (fun h37 => ?_)
        · skip
          refine w_iconst rX10_waitsFor_56 (x := 0) (by decide) ?_
          exact j27 _ (((if_neg h27).trans (if_neg h33)).trans (if_neg h37)).symm
        · skip
          refine w_iload_n rX10_waitsFor_40 rfl ?_
          refine w_bipush rX10_waitsFor_41 (x := 43) (by decide) ?_
          refine w_icmpeq rX10_waitsFor_43 (fun h43 => ?_) (fun h43 => ?_)
          · skip
            refine w_iconst rX10_waitsFor_52 (x := 1) (by decide) ?_
            refine w_goto rX10_waitsFor_53 ?_
            exact j27 _ ((((if_neg h27).trans (if_neg h33)).trans (if_pos h37)).trans (if_pos h43)).symm
          · skip
            refine w_iload_n rX10_waitsFor_46 rfl ?_
            refine w_bipush rX10_waitsFor_47 (x := 45) (by decide) ?_
            refine w_icmpne rX10_waitsFor_49 (fun h49 => ?_) (fun h49 => ?_)
            · skip
              refine w_iconst rX10_waitsFor_56 (x := 0) (by decide) ?_
              exact j27 _ (((((if_neg h27).trans (if_neg h33)).trans (if_pos h37)).trans (if_neg h43)).trans (if_neg h49)).symm
            · skip
              refine w_iconst rX10_waitsFor_52 (x := 1) (by decide) ?_
              refine w_goto rX10_waitsFor_53 ?_
              exact j27 _ (((((if_neg h27).trans (if_neg h33)).trans (if_pos h37)).trans (if_neg h43)).trans (if_pos h49)).symm
  replace q := q.1
  refine w_ifne rX10_waitsFor_4 (fun h4 => ?_) (fun h4 => ?_)
  · replace q := q h4
    refine w_aload_n rX10_waitsFor_12 rfl ?_
    refine w_getR rX10_waitsFor_13 rfl rfl (G_is (by decide) rfl) (x := 539) rfl ?_
    refine w_aload_n rX10_waitsFor_16 rfl ?_
    refine x_getI rX10_waitsFor_17 rfl rfl (G_is (by decide) rfl) ?_
    refine w_iconst rX10_waitsFor_20 (x := 1) (by decide) ?_
    refine w_isub rX10_waitsFor_21 ?_
    have h22 := q.1
    replace q := q.2
    refine x_iaload rX10_waitsFor_22 (G_at (by decide) rfl rfl h22) ?_
    exact j4 _ (if_neg h4).symm
  · skip
    refine w_bipush rX10_waitsFor_7 (x := 40) (by decide) ?_
    refine w_goto rX10_waitsFor_9 ?_
    exact j4 _ (if_pos h4).symm
theorem b01_X10_waitsFor {isProduct : Int32} {I : Nat → Nat → Int32} : (f_X10_waitsFor isProduct I) = 0 ∨ (f_X10_waitsFor isProduct I) = 1 := by
  unfold f_X10_waitsFor
  repeat' first | refine b01_ite ?_ ?_ | exact Or.inl rfl | exact Or.inr rfl
def p_X10_waitsOn (what : Int32) (I : Nat → Nat → Int32) : Prop := vp_in (I 498 50) 48 ∧ (True)
def fI_X10_waitsOn (what : Int32) (I : Nat → Nat → Int32) : Nat → Nat → Int32 := (am_u (am_u I 539 (Int32.toNatClampNeg (I 498 50)) what) 498 50 ((I 498 50) + 1))
theorem s_X10_waitsOn {X : Nat × (Nat → Int32)} {I : Nat → Nat → Int32} {L : Nat → Nat → Int64} {F : Nat → Nat → UInt32} {Q : AQ} {what : Int32} (p : (p_X10_waitsOn what I)) (q : Q (.inl none) (G X (fI_X10_waitsOn what I) L F)) : WP mX10_waitsOn 0 (am_ent 2 [.ref 498, .int what]) [] (G X I L F) 0 0 Q := by
  unfold fI_X10_waitsOn at q
  unfold p_X10_waitsOn at p
  have q0 := q
  clear q
  have q : vp_in (I 498 50) 48 ∧ (Q (.inl none) (G X (am_u (am_u I 539 (Int32.toNatClampNeg (I 498 50)) what) 498 50 ((I 498 50) + 1)) L F)) := by
    exact ⟨p.1, q0⟩
  clear p q0
  refine w_aload_n rX10_waitsOn_0 rfl ?_
  refine w_getR rX10_waitsOn_1 rfl rfl (G_is (by decide) rfl) (x := 539) rfl ?_
  refine w_aload_n rX10_waitsOn_4 rfl ?_
  refine x_getI rX10_waitsOn_5 rfl rfl (G_is (by decide) rfl) ?_
  refine w_iload_n rX10_waitsOn_8 rfl ?_
  have h9 := q.1
  replace q := q.2
  refine x_iastore rX10_waitsOn_9 (G_at (by decide) rfl rfl h9) ?_
  refine w_aload_n rX10_waitsOn_10 rfl ?_
  refine w_dup rX10_waitsOn_11 trivial ?_
  refine x_getI rX10_waitsOn_12 rfl rfl (G_is (by decide) rfl) ?_
  rw [au_ne (f := I) (o := 539) (k := (Int32.toNatClampNeg (I 498 50))) (a := 498) (b := 50) (fun z => absurd z.1 (by decide))]
  refine w_iconst rX10_waitsOn_15 (x := 1) (by decide) ?_
  refine w_iadd rX10_waitsOn_16 ?_
  refine x_putI rX10_waitsOn_17 rfl (G_is (by decide) rfl) trivial ?_
  refine w_return rX10_waitsOn_20 ?_
  exact q
def p_X10_named (ver : Int32) (hour : Int32) (ch : Int32) (fig : Int32) (I : Nat → Nat → Int32) : Prop := ((¬ ver = (-1) → (¬ ch = 104 → (ch = 103 → vp_in ((201 * fig) + hour) 603 ∧ (True)) ∧ (¬ ch = 103 → ((¬ ch = 112 → vp_in ((6 * ver) + fig) 360 ∧ (True))) ∧ (((0 ≤ (if ch = 109 then hour else (hour - 1) : Int32) → vp_in ((201 * (if ch = 112 then ver else (I 504 (Int32.toNatClampNeg ((6 * ver) + fig))) : Int32)) + (if ch = 109 then hour else (hour - 1) : Int32)) 12060 ∧ (True))) ∧ (True)))))) ∧ (True)
def f_X10_named (ver : Int32) (hour : Int32) (ch : Int32) (fig : Int32) (I : Nat → Nat → Int32) (F : Nat → Nat → UInt32) : UInt32 := (if ver = (-1) then (if ch = 104 then (FP.i2f hour) else (if ch = 108 then (F 498 51) else (if ch = 102 then (F 498 52) else (F 498 53) : UInt32) : UInt32) : UInt32) else (if ch = 104 then (FP.i2f hour) else (if ch = 103 then (FP.i2f (I 507 (Int32.toNatClampNeg ((201 * fig) + hour)))) else (if 0 ≤ (if ch = 109 then hour else (hour - 1) : Int32) then (F 509 (Int32.toNatClampNeg ((201 * (if ch = 112 then ver else (I 504 (Int32.toNatClampNeg ((6 * ver) + fig))) : Int32)) + (if ch = 109 then hour else (hour - 1) : Int32)))) else 0 : UInt32) : UInt32) : UInt32) : UInt32)
theorem s_X10_named {X : Nat × (Nat → Int32)} {I : Nat → Nat → Int32} {L : Nat → Nat → Int64} {F : Nat → Nat → UInt32} {Q : AQ} {ver : Int32} {hour : Int32} {ch : Int32} {fig : Int32} (p : (p_X10_named ver hour ch fig I)) (q : Q (.inl (some (.float (f_X10_named ver hour ch fig I F)))) (G X I L F)) : WP mX10_named 0 (am_ent 7 [.ref 498, .int ver, .int hour, .int ch, .int fig]) [] (G X I L F) 0 0 Q := by
  unfold f_X10_named at q
  unfold p_X10_named at p
  have q0 := q
  clear q
  have q : ((¬ ver = (-1) → (¬ ch = 104 → (ch = 103 → vp_in ((201 * fig) + hour) 603 ∧ (True)) ∧ (¬ ch = 103 → ((¬ ch = 112 → vp_in ((6 * ver) + fig) 360 ∧ (True))) ∧ (((0 ≤ (if ch = 109 then hour else (hour - 1) : Int32) → vp_in ((201 * (if ch = 112 then ver else (I 504 (Int32.toNatClampNeg ((6 * ver) + fig))) : Int32)) + (if ch = 109 then hour else (hour - 1) : Int32)) 12060 ∧ (True))) ∧ (True)))))) ∧ (Q (.inl (some (.float (if ver = (-1) then (if ch = 104 then (FP.i2f hour) else (if ch = 108 then (F 498 51) else (if ch = 102 then (F 498 52) else (F 498 53) : UInt32) : UInt32) : UInt32) else (if ch = 104 then (FP.i2f hour) else (if ch = 103 then (FP.i2f (I 507 (Int32.toNatClampNeg ((201 * fig) + hour)))) else (if 0 ≤ (if ch = 109 then hour else (hour - 1) : Int32) then (F 509 (Int32.toNatClampNeg ((201 * (if ch = 112 then ver else (I 504 (Int32.toNatClampNeg ((6 * ver) + fig))) : Int32)) + (if ch = 109 then hour else (hour - 1) : Int32)))) else 0 : UInt32) : UInt32) : UInt32) : UInt32)))) (G X I L F)) := by
    exact ⟨p.1, q0⟩
  clear p q0
  refine w_iload_n rX10_named_0 rfl ?_
  refine w_iconst rX10_named_1 (x := -1) (by decide) ?_
  have j2 : ∀ s2_0 : UInt32, s2_0 = (if ver = (-1) then (if ch = 104 then (FP.i2f hour) else (if ch = 108 then (F 498 51) else (if ch = 102 then (F 498 52) else (F 498 53) : UInt32) : UInt32) : UInt32) else (if ch = 104 then (FP.i2f hour) else (if ch = 103 then (FP.i2f (I 507 (Int32.toNatClampNeg ((201 * fig) + hour)))) else (if 0 ≤ (if ch = 109 then hour else (hour - 1) : Int32) then (F 509 (Int32.toNatClampNeg ((201 * (if ch = 112 then ver else (I 504 (Int32.toNatClampNeg ((6 * ver) + fig))) : Int32)) + (if ch = 109 then hour else (hour - 1) : Int32)))) else 0 : UInt32) : UInt32) : UInt32) : UInt32) → Q (.inl (some (.float s2_0))) (G X I L F) := by
    intro s2_0 es2_0
    subst es2_0
    skip
    replace q := q.2
    exact q
  replace q := q.1
  refine w_icmpeq rX10_named_2 (fun h2 => ?_) (fun h2 => ?_)
  · skip
    refine w_iload_n rX10_named_11 rfl ?_
    refine w_bipush rX10_named_12 (x := 104) (by decide) ?_
    have j14 : ∀ s14_0 : UInt32, s14_0 = (if ch = 104 then (FP.i2f hour) else (if ch = 108 then (F 498 51) else (if ch = 102 then (F 498 52) else (F 498 53) : UInt32) : UInt32) : UInt32) → WP mX10_named 52 [some (.ref 498), some (.int ver), some (.int hour), some (.int ch), some (.int fig), none, none] [.float s14_0] (G X I L F) 0 0 Q := by
      intro s14_0 es14_0
      subst es14_0
      skip
      refine w_freturn rX10_named_52 ?_
      exact j2 _ (if_pos h2).symm
    refine w_icmpne rX10_named_14 (fun h14 => ?_) (fun h14 => ?_)
    · skip
      refine w_iload_n rX10_named_22 rfl ?_
      refine w_bipush rX10_named_23 (x := 108) (by decide) ?_
      refine w_icmpne rX10_named_25 (fun h25 => ?_) (fun h25 => ?_)
      · skip
        refine w_iload_n rX10_named_35 rfl ?_
        refine w_bipush rX10_named_36 (x := 102) (by decide) ?_
        refine w_icmpne rX10_named_38 (fun h38 => ?_) (fun h38 => ?_)
        · skip
          refine w_aload_n rX10_named_48 rfl ?_
          refine x_getF rX10_named_49 rfl rfl (G_is (by decide) rfl) ?_
          exact j14 _ (((if_neg h14).trans (if_neg h25)).trans (if_neg h38)).symm
        · skip
          refine w_aload_n rX10_named_41 rfl ?_
          refine x_getF rX10_named_42 rfl rfl (G_is (by decide) rfl) ?_
          refine w_goto rX10_named_45 ?_
          exact j14 _ (((if_neg h14).trans (if_neg h25)).trans (if_pos h38)).symm
      · skip
        refine w_aload_n rX10_named_28 rfl ?_
        refine x_getF rX10_named_29 rfl rfl (G_is (by decide) rfl) ?_
        refine w_goto rX10_named_32 ?_
        exact j14 _ ((if_neg h14).trans (if_pos h25)).symm
    · skip
      refine w_iload_n rX10_named_17 rfl ?_
      refine w_i2f rX10_named_18 ?_
      refine w_goto rX10_named_19 ?_
      exact j14 _ (if_pos h14).symm
  · replace q := q h2
    refine w_iload_n rX10_named_5 rfl ?_
    refine w_bipush rX10_named_6 (x := 104) (by decide) ?_
    refine w_icmpne rX10_named_8 (fun h8 => ?_) (fun h8 => ?_)
    · replace q := q h8
      refine w_iload_n rX10_named_53 rfl ?_
      refine w_bipush rX10_named_54 (x := 103) (by decide) ?_
      refine w_icmpne rX10_named_56 (fun h56 => ?_) (fun h56 => ?_)
      · replace q := q.2 h56
        refine w_iload_n rX10_named_74 rfl ?_
        refine w_bipush rX10_named_75 (x := 112) (by decide) ?_
        have j77 : ∀ s77_0 : Int32, s77_0 = (if ch = 112 then ver else (I 504 (Int32.toNatClampNeg ((6 * ver) + fig))) : Int32) → WP mX10_named 96 [some (.ref 498), some (.int ver), some (.int hour), some (.int ch), some (.int fig), none, none] [.int s77_0] (G X I L F) 0 0 Q := by
          intro s77_0 es77_0
          subst es77_0
          skip
          replace q := q.2
          refine w_istore rX10_named_96 rfl trivial ?_
          refine w_iload_n rX10_named_98 rfl ?_
          refine w_bipush rX10_named_99 (x := 109) (by decide) ?_
          have j101 : ∀ s101_0 : Int32, s101_0 = (if ch = 109 then hour else (hour - 1) : Int32) → WP mX10_named 111 [some (.ref 498), some (.int ver), some (.int hour), some (.int ch), some (.int fig), some (.int (if ch = 112 then ver else (I 504 (Int32.toNatClampNeg ((6 * ver) + fig))) : Int32)), none] [.int s101_0] (G X I L F) 0 0 Q := by
            intro s101_0 es101_0
            subst es101_0
            skip
            refine w_istore rX10_named_111 rfl trivial ?_
            refine w_iload rX10_named_113 rfl ?_
            have j115 : ∀ s115_0 : UInt32, s115_0 = (if 0 ≤ (if ch = 109 then hour else (hour - 1) : Int32) then (F 509 (Int32.toNatClampNeg ((201 * (if ch = 112 then ver else (I 504 (Int32.toNatClampNeg ((6 * ver) + fig))) : Int32)) + (if ch = 109 then hour else (hour - 1) : Int32)))) else 0 : UInt32) → WP mX10_named 136 [some (.ref 498), some (.int ver), some (.int hour), some (.int ch), some (.int fig), some (.int (if ch = 112 then ver else (I 504 (Int32.toNatClampNeg ((6 * ver) + fig))) : Int32)), some (.int (if ch = 109 then hour else (hour - 1) : Int32))] [.float s115_0] (G X I L F) 0 0 Q := by
              intro s115_0 es115_0
              subst es115_0
              skip
              replace q := q.2
              refine w_freturn rX10_named_136 ?_
              exact j2 _ (((if_neg h2).trans (if_neg h8)).trans (if_neg h56)).symm
            replace q := q.1
            refine w_ifge rX10_named_115 (fun h115 => ?_) (fun h115 => ?_)
            · replace q := q h115
              refine w_aload_n rX10_named_122 rfl ?_
              refine w_getR rX10_named_123 rfl rfl (G_is (by decide) rfl) (x := 509) rfl ?_
              refine w_sipush rX10_named_126 (x := 201) (by decide) ?_
              refine w_iload rX10_named_129 rfl ?_
              refine w_imul rX10_named_131 ?_
              refine w_iload rX10_named_132 rfl ?_
              refine w_iadd rX10_named_134 ?_
              have h135 := q.1
              replace q := q.2
              refine x_faload rX10_named_135 (G_at (by decide) rfl rfl h135) ?_
              exact j115 _ (if_pos h115).symm
            · skip
              refine w_fconst rX10_named_118 (x := 0) rfl ?_
              refine w_goto rX10_named_119 ?_
              exact j115 _ (if_neg h115).symm
          refine w_icmpne rX10_named_101 (fun h101 => ?_) (fun h101 => ?_)
          · skip
            refine w_iload_n rX10_named_108 rfl ?_
            refine w_iconst rX10_named_109 (x := 1) (by decide) ?_
            refine w_isub rX10_named_110 ?_
            exact j101 _ (if_neg h101).symm
          · skip
            refine w_iload_n rX10_named_104 rfl ?_
            refine w_goto rX10_named_105 ?_
            exact j101 _ (if_pos h101).symm
        replace q := q.1
        refine w_icmpne rX10_named_77 (fun h77 => ?_) (fun h77 => ?_)
        · replace q := q h77
          refine w_aload_n rX10_named_84 rfl ?_
          refine w_getR rX10_named_85 rfl rfl (G_is (by decide) rfl) (x := 504) rfl ?_
          refine w_bipush rX10_named_88 (x := 6) (by decide) ?_
          refine w_iload_n rX10_named_90 rfl ?_
          refine w_imul rX10_named_91 ?_
          refine w_iload rX10_named_92 rfl ?_
          refine w_iadd rX10_named_94 ?_
          have h95 := q.1
          replace q := q.2
          refine x_iaload rX10_named_95 (G_at (by decide) rfl rfl h95) ?_
          exact j77 _ (if_neg h77).symm
        · skip
          refine w_iload_n rX10_named_80 rfl ?_
          refine w_goto rX10_named_81 ?_
          exact j77 _ (if_pos h77).symm
      · replace q := q.1 h56
        refine w_aload_n rX10_named_59 rfl ?_
        refine w_getR rX10_named_60 rfl rfl (G_is (by decide) rfl) (x := 507) rfl ?_
        refine w_sipush rX10_named_63 (x := 201) (by decide) ?_
        refine w_iload rX10_named_66 rfl ?_
        refine w_imul rX10_named_68 ?_
        refine w_iload_n rX10_named_69 rfl ?_
        refine w_iadd rX10_named_70 ?_
        have h71 := q.1
        replace q := q.2
        refine x_iaload rX10_named_71 (G_at (by decide) rfl rfl h71) ?_
        refine w_i2f rX10_named_72 ?_
        refine w_freturn rX10_named_73 ?_
        exact j2 _ (((if_neg h2).trans (if_neg h8)).trans (if_pos h56)).symm
    · skip
      refine w_iload_n rX10_named_11 rfl ?_
      refine w_bipush rX10_named_12 (x := 104) (by decide) ?_
      refine w_icmpne rX10_named_14 (fun h => absurd h8 h) (fun _ => ?_)
      refine w_iload_n rX10_named_17 rfl ?_
      refine w_i2f rX10_named_18 ?_
      refine w_goto rX10_named_19 ?_
      refine w_freturn rX10_named_52 ?_
      exact j2 _ ((if_neg h2).trans (if_pos h8)).symm
def p_X10_restsOn (model : Int32) (other : Int32) : Prop := vp_in model 6 ∧ (True)
def f_X10_restsOn (model : Int32) (other : Int32) (I : Nat → Nat → Int32) : Int32 := (if ((((I 506 (Int32.toNatClampNeg model)) : Int32) >>> (other &&& 31 : Int32)) &&& 1) = 1 then 1 else 0 : Int32)
theorem s_X10_restsOn {X : Nat × (Nat → Int32)} {I : Nat → Nat → Int32} {L : Nat → Nat → Int64} {F : Nat → Nat → UInt32} {Q : AQ} {model : Int32} {other : Int32} (p : (p_X10_restsOn model other)) (q : Q (.inl (some (.int (f_X10_restsOn model other I)))) (G X I L F)) : WP mX10_restsOn 0 (am_ent 3 [.ref 498, .int model, .int other]) [] (G X I L F) 0 0 Q := by
  unfold f_X10_restsOn at q
  unfold p_X10_restsOn at p
  have q0 := q
  clear q
  have q : vp_in model 6 ∧ (Q (.inl (some (.int (if ((((I 506 (Int32.toNatClampNeg model)) : Int32) >>> (other &&& 31 : Int32)) &&& 1) = 1 then 1 else 0 : Int32)))) (G X I L F)) := by
    exact ⟨p.1, q0⟩
  clear p q0
  refine w_aload_n rX10_restsOn_0 rfl ?_
  refine w_getR rX10_restsOn_1 rfl rfl (G_is (by decide) rfl) (x := 506) rfl ?_
  refine w_iload_n rX10_restsOn_4 rfl ?_
  have h5 := q.1
  replace q := q.2
  refine x_iaload rX10_restsOn_5 (G_at (by decide) rfl rfl h5) ?_
  refine w_iload_n rX10_restsOn_6 rfl ?_
  refine w_ishr rX10_restsOn_7 ?_
  refine w_iconst rX10_restsOn_8 (x := 1) (by decide) ?_
  refine w_iand rX10_restsOn_9 ?_
  refine w_iconst rX10_restsOn_10 (x := 1) (by decide) ?_
  have j11 : ∀ s11_0 : Int32, s11_0 = (if ((((I 506 (Int32.toNatClampNeg model)) : Int32) >>> (other &&& 31 : Int32)) &&& 1) = 1 then 1 else 0 : Int32) → WP mX10_restsOn 19 [some (.ref 498), some (.int model), some (.int other)] [.int s11_0] (G X I L F) 0 0 Q := by
    intro s11_0 es11_0
    subst es11_0
    skip
    refine w_ireturn rX10_restsOn_19 (show (if ((((I 506 (Int32.toNatClampNeg model)) : Int32) >>> (other &&& 31 : Int32)) &&& 1) = 1 then 1 else 0 : Int32) = 0 ∨ (if ((((I 506 (Int32.toNatClampNeg model)) : Int32) >>> (other &&& 31 : Int32)) &&& 1) = 1 then 1 else 0 : Int32) = 1 from by repeat' first | refine b01_ite ?_ ?_ | exact Or.inl rfl | exact Or.inr rfl) ?_
    exact q
  refine w_icmpne rX10_restsOn_11 (fun h11 => ?_) (fun h11 => ?_)
  · skip
    refine w_iconst rX10_restsOn_18 (x := 0) (by decide) ?_
    exact j11 _ (if_neg h11).symm
  · skip
    refine w_iconst rX10_restsOn_14 (x := 1) (by decide) ?_
    refine w_goto rX10_restsOn_15 ?_
    exact j11 _ (if_pos h11).symm
theorem b01_X10_restsOn {model : Int32} {other : Int32} {I : Nat → Nat → Int32} : (f_X10_restsOn model other I) = 0 ∨ (f_X10_restsOn model other I) = 1 := by
  unfold f_X10_restsOn
  repeat' first | refine b01_ite ?_ ?_ | exact Or.inl rfl | exact Or.inr rfl
def p_X10_latest (model : Int32) : Prop := ((¬ (f_X10_holds (if (f_X10_isModel model) = 0 then 1 else 0 : Int32)) = 0 → vp_in model 6 ∧ (True))) ∧ (True)
def f_X10_latest (model : Int32) (I : Nat → Nat → Int32) : Int32 := (if (f_X10_holds (if (f_X10_isModel model) = 0 then 1 else 0 : Int32)) = 0 then 0 else ((fI_X10_holds (if (f_X10_isModel model) = 0 then 1 else 0 : Int32) I) 505 (Int32.toNatClampNeg model)) : Int32)
def fI_X10_latest (model : Int32) (I : Nat → Nat → Int32) : Nat → Nat → Int32 := (fI_X10_holds (if (f_X10_isModel model) = 0 then 1 else 0 : Int32) I)
theorem s_X10_latest {X : Nat × (Nat → Int32)} {I : Nat → Nat → Int32} {L : Nat → Nat → Int64} {F : Nat → Nat → UInt32} {Q : AQ} {model : Int32} (p : (p_X10_latest model)) (q : Q (.inl (some (.int (f_X10_latest model I)))) (G X (fI_X10_latest model I) L F)) : WP mX10_latest 0 (am_ent 2 [.ref 498, .int model]) [] (G X I L F) 0 0 Q := by
  unfold f_X10_latest fI_X10_latest at q
  unfold p_X10_latest at p
  have q0 := q
  clear q
  have q : ((¬ (f_X10_holds (if (f_X10_isModel model) = 0 then 1 else 0 : Int32)) = 0 → vp_in model 6 ∧ (True))) ∧ (Q (.inl (some (.int (if (f_X10_holds (if (f_X10_isModel model) = 0 then 1 else 0 : Int32)) = 0 then 0 else ((fI_X10_holds (if (f_X10_isModel model) = 0 then 1 else 0 : Int32) I) 505 (Int32.toNatClampNeg model)) : Int32)))) (G X (fI_X10_holds (if (f_X10_isModel model) = 0 then 1 else 0 : Int32) I) L F)) := by
    exact ⟨p.1, q0⟩
  clear p q0
  refine w_aload_n rX10_latest_0 rfl ?_
  refine w_iload_n rX10_latest_1 rfl ?_
  refine w_invokestatic rX10_latest_2 rfl rfl rfl (Nat.le_of_ble_eq_true rfl) ⟨trivial, trivial⟩ trivial (by decide) (by decide) ?_
  refine s_X10_isModel ?_
  show WP mX10_latest 5 _ _ _ 0 0 _
  have j5 : ∀ s5_1 : Int32, s5_1 = (if (f_X10_isModel model) = 0 then 1 else 0 : Int32) → WP mX10_latest 13 [some (.ref 498), some (.int model)] [.int s5_1, .ref 498] (G X I L F) 0 0 Q := by
    intro s5_1 es5_1
    subst es5_1
    skip
    refine w_invokevirtual rX10_latest_13 rfl rfl rfl (Nat.le_of_ble_eq_true rfl) ⟨trivial, trivial, trivial⟩ (G_is (by decide) rfl) (by decide) (by decide) ?_
    refine s_X10_holds ?_
    show WP mX10_latest 16 _ _ _ 0 0 _
    have j16 : ∀ s16_0 : Int32, s16_0 = (if (f_X10_holds (if (f_X10_isModel model) = 0 then 1 else 0 : Int32)) = 0 then 0 else ((fI_X10_holds (if (f_X10_isModel model) = 0 then 1 else 0 : Int32) I) 505 (Int32.toNatClampNeg model)) : Int32) → WP mX10_latest 29 [some (.ref 498), some (.int model)] [.int s16_0] (G X (fI_X10_holds (if (f_X10_isModel model) = 0 then 1 else 0 : Int32) I) L F) 0 0 Q := by
      intro s16_0 es16_0
      subst es16_0
      skip
      replace q := q.2
      refine w_ireturn rX10_latest_29 trivial ?_
      exact q
    replace q := q.1
    refine w_ifeq rX10_latest_16 (fun h16 => ?_) (fun h16 => ?_)
    · skip
      refine w_iconst rX10_latest_28 (x := 0) (by decide) ?_
      exact j16 _ (if_pos h16).symm
    · replace q := q h16
      refine w_aload_n rX10_latest_19 rfl ?_
      refine w_getR rX10_latest_20 rfl rfl (G_is (by decide) rfl) (x := 505) rfl ?_
      refine w_iload_n rX10_latest_23 rfl ?_
      have h24 := q.1
      replace q := q.2
      refine x_iaload rX10_latest_24 (G_at (by decide) rfl rfl h24) ?_
      refine w_goto rX10_latest_25 ?_
      exact j16 _ (if_neg h16).symm
  refine w_ifeq rX10_latest_5 (fun h5 => ?_) (fun h5 => ?_)
  · skip
    refine w_iconst rX10_latest_12 (x := 1) (by decide) ?_
    exact j5 _ (if_pos h5).symm
  · skip
    refine w_iconst rX10_latest_8 (x := 0) (by decide) ?_
    refine w_goto rX10_latest_9 ?_
    exact j5 _ (if_neg h5).symm
