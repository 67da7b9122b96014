/-! own: methods over ints that only decide: pure functions and specs -/
set_option maxRecDepth 100000
section SP4
variable {X : Nat × (Nat → Int32)} {I : Nat → Nat → Int32} {L : Nat → Nat → Int64} {F : Nat → Nat → UInt32}
def f_X10_isSign (v : Int32) : Int32 := (if v = 43 then 1 else (if v = 45 then 1 else (if v = 42 then 1 else (if v = 47 then 1 else 0))))
theorem s_X10_isSign {v : Int32} {Q : AQ} (q : Q (.inl (some (.int (f_X10_isSign v)))) (G X I L F)) : WP mX10_isSign 0 (am_ent 1 [.int v]) [] (G X I L F) 0 0 Q := by
  refine w_iload_n rX10_isSign_0 rfl ?_
  refine w_bipush rX10_isSign_1 (x := 43) (by decide) ?_
  refine w_icmpeq rX10_isSign_3 (fun h3 => ?_) (fun h3 => ?_)
  · refine w_iconst rX10_isSign_24 (x := 1) (by decide) ?_
    refine w_goto rX10_isSign_25 ?_
    refine w_ireturn rX10_isSign_29 (Or.inr rfl) ?_
    unfold f_X10_isSign at q
    rw [if_pos h3] at q
    exact q
  · refine w_iload_n rX10_isSign_6 rfl ?_
    refine w_bipush rX10_isSign_7 (x := 45) (by decide) ?_
    refine w_icmpeq rX10_isSign_9 (fun h9 => ?_) (fun h9 => ?_)
    · refine w_iconst rX10_isSign_24 (x := 1) (by decide) ?_
      refine w_goto rX10_isSign_25 ?_
      refine w_ireturn rX10_isSign_29 (Or.inr rfl) ?_
      unfold f_X10_isSign at q
      rw [if_neg h3, if_pos h9] at q
      exact q
    · refine w_iload_n rX10_isSign_12 rfl ?_
      refine w_bipush rX10_isSign_13 (x := 42) (by decide) ?_
      refine w_icmpeq rX10_isSign_15 (fun h15 => ?_) (fun h15 => ?_)
      · refine w_iconst rX10_isSign_24 (x := 1) (by decide) ?_
        refine w_goto rX10_isSign_25 ?_
        refine w_ireturn rX10_isSign_29 (Or.inr rfl) ?_
        unfold f_X10_isSign at q
        rw [if_neg h3, if_neg h9, if_pos h15] at q
        exact q
      · refine w_iload_n rX10_isSign_18 rfl ?_
        refine w_bipush rX10_isSign_19 (x := 47) (by decide) ?_
        refine w_icmpne rX10_isSign_21 (fun h21 => ?_) (fun h21 => ?_)
        · refine w_iconst rX10_isSign_28 (x := 0) (by decide) ?_
          refine w_ireturn rX10_isSign_29 (Or.inl rfl) ?_
          unfold f_X10_isSign at q
          rw [if_neg h3, if_neg h9, if_neg h15, if_neg h21] at q
          exact q
        · refine w_iconst rX10_isSign_24 (x := 1) (by decide) ?_
          refine w_goto rX10_isSign_25 ?_
          refine w_ireturn rX10_isSign_29 (Or.inr rfl) ?_
          unfold f_X10_isSign at q
          rw [if_neg h3, if_neg h9, if_neg h15, if_pos h21] at q
          exact q
def f_X10_inputs (v : Int32) : Int32 := (if v = 120 then 2 else (if v = 110 then 2 else (if v = 105 then 3 else (if v = 116 then 1 else (if v = 97 then 1 else 0)))))
theorem s_X10_inputs {v : Int32} {Q : AQ} (q : Q (.inl (some (.int (f_X10_inputs v)))) (G X I L F)) : WP mX10_inputs 0 (am_ent 1 [.int v]) [] (G X I L F) 0 0 Q := by
  refine w_iload_n rX10_inputs_0 rfl ?_
  refine w_bipush rX10_inputs_1 (x := 120) (by decide) ?_
  refine w_icmpeq rX10_inputs_3 (fun h3 => ?_) (fun h3 => ?_)
  · refine w_iconst rX10_inputs_12 (x := 2) (by decide) ?_
    refine w_goto rX10_inputs_13 ?_
    refine w_ireturn rX10_inputs_43 trivial ?_
    unfold f_X10_inputs at q
    rw [if_pos h3] at q
    exact q
  · refine w_iload_n rX10_inputs_6 rfl ?_
    refine w_bipush rX10_inputs_7 (x := 110) (by decide) ?_
    refine w_icmpne rX10_inputs_9 (fun h9 => ?_) (fun h9 => ?_)
    · refine w_iload_n rX10_inputs_16 rfl ?_
      refine w_bipush rX10_inputs_17 (x := 105) (by decide) ?_
      refine w_icmpne rX10_inputs_19 (fun h19 => ?_) (fun h19 => ?_)
      · refine w_iload_n rX10_inputs_26 rfl ?_
        refine w_bipush rX10_inputs_27 (x := 116) (by decide) ?_
        refine w_icmpeq rX10_inputs_29 (fun h29 => ?_) (fun h29 => ?_)
        · refine w_iconst rX10_inputs_38 (x := 1) (by decide) ?_
          refine w_goto rX10_inputs_39 ?_
          refine w_ireturn rX10_inputs_43 trivial ?_
          unfold f_X10_inputs at q
          rw [if_neg h3, if_neg h9, if_neg h19, if_pos h29] at q
          exact q
        · refine w_iload_n rX10_inputs_32 rfl ?_
          refine w_bipush rX10_inputs_33 (x := 97) (by decide) ?_
          refine w_icmpne rX10_inputs_35 (fun h35 => ?_) (fun h35 => ?_)
          · refine w_iconst rX10_inputs_42 (x := 0) (by decide) ?_
            refine w_ireturn rX10_inputs_43 trivial ?_
            unfold f_X10_inputs at q
            rw [if_neg h3, if_neg h9, if_neg h19, if_neg h29, if_neg h35] at q
            exact q
          · refine w_iconst rX10_inputs_38 (x := 1) (by decide) ?_
            refine w_goto rX10_inputs_39 ?_
            refine w_ireturn rX10_inputs_43 trivial ?_
            unfold f_X10_inputs at q
            rw [if_neg h3, if_neg h9, if_neg h19, if_neg h29, if_pos h35] at q
            exact q
      · refine w_iconst rX10_inputs_22 (x := 3) (by decide) ?_
        refine w_goto rX10_inputs_23 ?_
        refine w_ireturn rX10_inputs_43 trivial ?_
        unfold f_X10_inputs at q
        rw [if_neg h3, if_neg h9, if_pos h19] at q
        exact q
    · refine w_iconst rX10_inputs_12 (x := 2) (by decide) ?_
      refine w_goto rX10_inputs_13 ?_
      refine w_ireturn rX10_inputs_43 trivial ?_
      unfold f_X10_inputs at q
      rw [if_neg h3, if_pos h9] at q
      exact q
def f_X10_figures (v u : Int32) : Int32 := (if u = 0 then (if v = 103 then 3 else (if v = 109 then 6 else (if v = 113 then 6 else 0))) else 0)
theorem s_X10_figures {v u : Int32} {Q : AQ} (q : Q (.inl (some (.int (f_X10_figures v u)))) (G X I L F)) : WP mX10_figures 0 (am_ent 2 [.int v, .int u]) [] (G X I L F) 0 0 Q := by
  refine w_iload_n rX10_figures_0 rfl ?_
  refine w_ifeq rX10_figures_1 (fun h1 => ?_) (fun h1 => ?_)
  · refine w_iload_n rX10_figures_8 rfl ?_
    refine w_bipush rX10_figures_9 (x := 103) (by decide) ?_
    refine w_icmpne rX10_figures_11 (fun h11 => ?_) (fun h11 => ?_)
    · refine w_iload_n rX10_figures_18 rfl ?_
      refine w_bipush rX10_figures_19 (x := 109) (by decide) ?_
      refine w_icmpeq rX10_figures_21 (fun h21 => ?_) (fun h21 => ?_)
      · refine w_bipush rX10_figures_30 (x := 6) (by decide) ?_
        refine w_goto rX10_figures_32 ?_
        refine w_ireturn rX10_figures_36 trivial ?_
        unfold f_X10_figures at q
        rw [if_pos h1, if_neg h11, if_pos h21] at q
        exact q
      · refine w_iload_n rX10_figures_24 rfl ?_
        refine w_bipush rX10_figures_25 (x := 113) (by decide) ?_
        refine w_icmpne rX10_figures_27 (fun h27 => ?_) (fun h27 => ?_)
        · refine w_iconst rX10_figures_35 (x := 0) (by decide) ?_
          refine w_ireturn rX10_figures_36 trivial ?_
          unfold f_X10_figures at q
          rw [if_pos h1, if_neg h11, if_neg h21, if_neg h27] at q
          exact q
        · refine w_bipush rX10_figures_30 (x := 6) (by decide) ?_
          refine w_goto rX10_figures_32 ?_
          refine w_ireturn rX10_figures_36 trivial ?_
          unfold f_X10_figures at q
          rw [if_pos h1, if_neg h11, if_neg h21, if_pos h27] at q
          exact q
    · refine w_iconst rX10_figures_14 (x := 3) (by decide) ?_
      refine w_goto rX10_figures_15 ?_
      refine w_ireturn rX10_figures_36 trivial ?_
      unfold f_X10_figures at q
      rw [if_pos h1, if_pos h11] at q
      exact q
  · refine w_iconst rX10_figures_4 (x := 0) (by decide) ?_
    refine w_goto rX10_figures_5 ?_
    refine w_ireturn rX10_figures_36 trivial ?_
    unfold f_X10_figures at q
    rw [if_neg h1] at q
    exact q
def f_X10_isPlain (v u : Int32) : Int32 := (if v = 104 then 1 else (if u = 0 then (if v = 112 then 1 else 0) else (if v = 108 then 1 else (if v = 102 then 1 else (if v = 114 then 1 else 0)))))
theorem s_X10_isPlain {v u : Int32} {Q : AQ} (q : Q (.inl (some (.int (f_X10_isPlain v u)))) (G X I L F)) : WP mX10_isPlain 0 (am_ent 2 [.int v, .int u]) [] (G X I L F) 0 0 Q := by
  refine w_iload_n rX10_isPlain_0 rfl ?_
  refine w_bipush rX10_isPlain_1 (x := 104) (by decide) ?_
  refine w_icmpeq rX10_isPlain_3 (fun h3 => ?_) (fun h3 => ?_)
  · refine w_iconst rX10_isPlain_37 (x := 1) (by decide) ?_
    refine w_goto rX10_isPlain_38 ?_
    refine w_ireturn rX10_isPlain_42 (Or.inr rfl) ?_
    unfold f_X10_isPlain at q
    rw [if_pos h3] at q
    exact q
  · refine w_iload_n rX10_isPlain_6 rfl ?_
    refine w_ifeq rX10_isPlain_7 (fun h7 => ?_) (fun h7 => ?_)
    · refine w_iload_n rX10_isPlain_31 rfl ?_
      refine w_bipush rX10_isPlain_32 (x := 112) (by decide) ?_
      refine w_icmpne rX10_isPlain_34 (fun h34 => ?_) (fun h34 => ?_)
      · refine w_iconst rX10_isPlain_41 (x := 0) (by decide) ?_
        refine w_ireturn rX10_isPlain_42 (Or.inl rfl) ?_
        unfold f_X10_isPlain at q
        rw [if_neg h3, if_pos h7, if_neg h34] at q
        exact q
      · refine w_iconst rX10_isPlain_37 (x := 1) (by decide) ?_
        refine w_goto rX10_isPlain_38 ?_
        refine w_ireturn rX10_isPlain_42 (Or.inr rfl) ?_
        unfold f_X10_isPlain at q
        rw [if_neg h3, if_pos h7, if_pos h34] at q
        exact q
    · refine w_iload_n rX10_isPlain_10 rfl ?_
      refine w_bipush rX10_isPlain_11 (x := 108) (by decide) ?_
      refine w_icmpeq rX10_isPlain_13 (fun h13 => ?_) (fun h13 => ?_)
      · refine w_iconst rX10_isPlain_37 (x := 1) (by decide) ?_
        refine w_goto rX10_isPlain_38 ?_
        refine w_ireturn rX10_isPlain_42 (Or.inr rfl) ?_
        unfold f_X10_isPlain at q
        rw [if_neg h3, if_neg h7, if_pos h13] at q
        exact q
      · refine w_iload_n rX10_isPlain_16 rfl ?_
        refine w_bipush rX10_isPlain_17 (x := 102) (by decide) ?_
        refine w_icmpeq rX10_isPlain_19 (fun h19 => ?_) (fun h19 => ?_)
        · refine w_iconst rX10_isPlain_37 (x := 1) (by decide) ?_
          refine w_goto rX10_isPlain_38 ?_
          refine w_ireturn rX10_isPlain_42 (Or.inr rfl) ?_
          unfold f_X10_isPlain at q
          rw [if_neg h3, if_neg h7, if_neg h13, if_pos h19] at q
          exact q
        · refine w_iload_n rX10_isPlain_22 rfl ?_
          refine w_bipush rX10_isPlain_23 (x := 114) (by decide) ?_
          refine w_icmpne rX10_isPlain_25 (fun h25 => ?_) (fun h25 => ?_)
          · refine w_iconst rX10_isPlain_41 (x := 0) (by decide) ?_
            refine w_ireturn rX10_isPlain_42 (Or.inl rfl) ?_
            unfold f_X10_isPlain at q
            rw [if_neg h3, if_neg h7, if_neg h13, if_neg h19, if_neg h25] at q
            exact q
          · refine w_goto rX10_isPlain_28 ?_
            refine w_iconst rX10_isPlain_37 (x := 1) (by decide) ?_
            refine w_goto rX10_isPlain_38 ?_
            refine w_ireturn rX10_isPlain_42 (Or.inr rfl) ?_
            unfold f_X10_isPlain at q
            rw [if_neg h3, if_neg h7, if_neg h13, if_neg h19, if_pos h25] at q
            exact q
end SP4
