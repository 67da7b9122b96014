/-! own: methods as functions, written by a program -/
set_option maxRecDepth 100000
def p_X10_pin (ver : Int32) (model : Int32) (I : Nat → Nat → Int32) : Prop := ((¬ (f_X10_holds (if (f_X10_isVersion ver I) = 0 then 1 else (if (f_X10_isModel model) = 0 then 1 else 0 : Int32) : Int32)) = 0 → vp_in ((6 * ver) + model) 360 ∧ (True))) ∧ (True)
def f_X10_pin (ver : Int32) (model : Int32) (I : Nat → Nat → Int32) : Int32 := (if (f_X10_holds (if (f_X10_isVersion ver I) = 0 then 1 else (if (f_X10_isModel model) = 0 then 1 else 0 : Int32) : Int32)) = 0 then 0 else ((fI_X10_holds (if (f_X10_isVersion ver I) = 0 then 1 else (if (f_X10_isModel model) = 0 then 1 else 0 : Int32) : Int32) I) 504 (Int32.toNatClampNeg ((6 * ver) + model))) : Int32)
def fI_X10_pin (ver : Int32) (model : Int32) (I : Nat → Nat → Int32) : Nat → Nat → Int32 := (fI_X10_holds (if (f_X10_isVersion ver I) = 0 then 1 else (if (f_X10_isModel model) = 0 then 1 else 0 : Int32) : Int32) I)
theorem s_X10_pin {X : Nat × (Nat → Int32)} {I : Nat → Nat → Int32} {L : Nat → Nat → Int64} {F : Nat → Nat → UInt32} {Q : AQ} {ver : Int32} {model : Int32} (p : (p_X10_pin ver model I)) (q : Q (.inl (some (.int (f_X10_pin ver model I)))) (G X (fI_X10_pin ver model I) L F)) : WP mX10_pin 0 (am_ent 3 [.ref 498, .int ver, .int model]) [] (G X I L F) 0 0 Q := by
  unfold f_X10_pin fI_X10_pin at q
  unfold p_X10_pin at p
  have q0 := q
  clear q
  have q : ((¬ (f_X10_holds (if (f_X10_isVersion ver I) = 0 then 1 else (if (f_X10_isModel model) = 0 then 1 else 0 : Int32) : Int32)) = 0 → vp_in ((6 * ver) + model) 360 ∧ (True))) ∧ (Q (.inl (some (.int (if (f_X10_holds (if (f_X10_isVersion ver I) = 0 then 1 else (if (f_X10_isModel model) = 0 then 1 else 0 : Int32) : Int32)) = 0 then 0 else ((fI_X10_holds (if (f_X10_isVersion ver I) = 0 then 1 else (if (f_X10_isModel model) = 0 then 1 else 0 : Int32) : Int32) I) 504 (Int32.toNatClampNeg ((6 * ver) + model))) : Int32)))) (G X (fI_X10_holds (if (f_X10_isVersion ver I) = 0 then 1 else (if (f_X10_isModel model) = 0 then 1 else 0 : Int32) : Int32) I) L F)) := by
    exact ⟨p.1, q0⟩
  clear p q0
  refine w_aload_n rX10_pin_0 rfl ?_
  refine w_aload_n rX10_pin_1 rfl ?_
  refine w_iload_n rX10_pin_2 rfl ?_
  refine w_invokevirtual rX10_pin_3 rfl rfl rfl (Nat.le_of_ble_eq_true rfl) ⟨trivial, trivial, trivial⟩ (G_is (by decide) rfl) (by decide) (by decide) ?_
  refine s_X10_isVersion ?_
  show WP mX10_pin 6 _ _ _ 0 0 _
  have j6 : ∀ s6_1 : Int32, s6_1 = (if (f_X10_isVersion ver I) = 0 then 1 else (if (f_X10_isModel model) = 0 then 1 else 0 : Int32) : Int32) → WP mX10_pin 21 [some (.ref 498), some (.int ver), some (.int model)] [.int s6_1, .ref 498] (G X I L F) 0 0 Q := by
    intro s6_1 es6_1
    subst es6_1
    skip
    refine w_invokevirtual rX10_pin_21 rfl rfl rfl (Nat.le_of_ble_eq_true rfl) ⟨trivial, trivial, trivial⟩ (G_is (by decide) rfl) (by decide) (by decide) ?_
    refine s_X10_holds ?_
    show WP mX10_pin 24 _ _ _ 0 0 _
    have j24 : ∀ s24_0 : Int32, s24_0 = (if (f_X10_holds (if (f_X10_isVersion ver I) = 0 then 1 else (if (f_X10_isModel model) = 0 then 1 else 0 : Int32) : Int32)) = 0 then 0 else ((fI_X10_holds (if (f_X10_isVersion ver I) = 0 then 1 else (if (f_X10_isModel model) = 0 then 1 else 0 : Int32) : Int32) I) 504 (Int32.toNatClampNeg ((6 * ver) + model))) : Int32) → WP mX10_pin 42 [some (.ref 498), some (.int ver), some (.int model)] [.int s24_0] (G X (fI_X10_holds (if (f_X10_isVersion ver I) = 0 then 1 else (if (f_X10_isModel model) = 0 then 1 else 0 : Int32) : Int32) I) L F) 0 0 Q := by
      intro s24_0 es24_0
      subst es24_0
      skip
      replace q := q.2
      refine w_ireturn rX10_pin_42 trivial ?_
      exact q
    replace q := q.1
    refine w_ifeq rX10_pin_24 (fun h24 => ?_) (fun h24 => ?_)
    · skip
      refine w_iconst rX10_pin_41 (x := 0) (by decide) ?_
      exact j24 _ (if_pos h24).symm
    · replace q := q h24
      refine w_aload_n rX10_pin_27 rfl ?_
      refine w_getR rX10_pin_28 rfl rfl (G_is (by decide) rfl) (x := 504) rfl ?_
      refine w_bipush rX10_pin_31 (x := 6) (by decide) ?_
      refine w_iload_n rX10_pin_33 rfl ?_
      refine w_imul rX10_pin_34 ?_
      refine w_iload_n rX10_pin_35 rfl ?_
      refine w_iadd rX10_pin_36 ?_
      have h37 := q.1
      replace q := q.2
      refine x_iaload rX10_pin_37 (G_at (by decide) rfl rfl h37) ?_
      refine w_goto rX10_pin_38 ?_
      exact j24 _ (if_neg h24).symm
  refine w_ifeq rX10_pin_6 (fun h6 => ?_) (fun h6 => ?_)
  · skip
    refine w_iconst rX10_pin_20 (x := 1) (by decide) ?_
    exact j6 _ (if_pos h6).symm
  · skip
    refine w_iload_n rX10_pin_9 rfl ?_
    refine w_invokestatic rX10_pin_10 rfl rfl rfl (Nat.le_of_ble_eq_true rfl) ⟨trivial, trivial⟩ trivial (by decide) (by decide) ?_
    refine s_X10_isModel ?_
    show WP mX10_pin 13 _ _ _ 0 0 _
    refine w_ifeq rX10_pin_13 (fun h13 => ?_) (fun h13 => ?_)
    · skip
      refine w_iconst rX10_pin_20 (x := 1) (by decide) ?_
      exact j6 _ ((if_neg h6).trans (if_pos h13)).symm
    · skip
      refine w_iconst rX10_pin_16 (x := 0) (by decide) ?_
      refine w_goto rX10_pin_17 ?_
      exact j6 _ ((if_neg h6).trans (if_neg h13)).symm
def f_X10_isAsked (ver : Int32) (hour : Int32) (I : Nat → Nat → Int32) : Int32 := (f_X10_holds (if (f_X10_isVersion ver I) = 0 then 1 else (if (f_X10_isIn hour 0 200) = 0 then 2 else 0 : Int32) : Int32))
def fI_X10_isAsked (ver : Int32) (hour : Int32) (I : Nat → Nat → Int32) : Nat → Nat → Int32 := (fI_X10_holds (if (f_X10_isVersion ver I) = 0 then 1 else (if (f_X10_isIn hour 0 200) = 0 then 2 else 0 : Int32) : Int32) I)
theorem s_X10_isAsked {X : Nat × (Nat → Int32)} {I : Nat → Nat → Int32} {L : Nat → Nat → Int64} {F : Nat → Nat → UInt32} {Q : AQ} {ver : Int32} {hour : Int32} (q : Q (.inl (some (.int (f_X10_isAsked ver hour I)))) (G X (fI_X10_isAsked ver hour I) L F)) : WP mX10_isAsked 0 (am_ent 3 [.ref 498, .int ver, .int hour]) [] (G X I L F) 0 0 Q := by
  unfold f_X10_isAsked fI_X10_isAsked at q
  refine w_aload_n rX10_isAsked_0 rfl ?_
  refine w_aload_n rX10_isAsked_1 rfl ?_
  refine w_iload_n rX10_isAsked_2 rfl ?_
  refine w_invokevirtual rX10_isAsked_3 rfl rfl rfl (Nat.le_of_ble_eq_true rfl) ⟨trivial, trivial, trivial⟩ (G_is (by decide) rfl) (by decide) (by decide) ?_
  refine s_X10_isVersion ?_
  show WP mX10_isAsked 6 _ _ _ 0 0 _
  have j6 : ∀ s6_1 : Int32, s6_1 = (if (f_X10_isVersion ver I) = 0 then 1 else (if (f_X10_isIn hour 0 200) = 0 then 2 else 0 : Int32) : Int32) → WP mX10_isAsked 29 [some (.ref 498), some (.int ver), some (.int hour)] [.int s6_1, .ref 498] (G X I L F) 0 0 Q := by
    intro s6_1 es6_1
    subst es6_1
    skip
    refine w_invokevirtual rX10_isAsked_29 rfl rfl rfl (Nat.le_of_ble_eq_true rfl) ⟨trivial, trivial, trivial⟩ (G_is (by decide) rfl) (by decide) (by decide) ?_
    refine s_X10_holds ?_
    show WP mX10_isAsked 32 _ _ _ 0 0 _
    refine w_ireturn rX10_isAsked_32 b01_X10_holds ?_
    exact q
  refine w_ifne rX10_isAsked_6 (fun h6 => ?_) (fun h6 => ?_)
  · skip
    refine w_iload_n rX10_isAsked_13 rfl ?_
    refine w_iconst rX10_isAsked_14 (x := 0) (by decide) ?_
    refine w_sipush rX10_isAsked_15 (x := 200) (by decide) ?_
    refine w_invokestatic rX10_isAsked_18 rfl rfl rfl (Nat.le_of_ble_eq_true rfl) ⟨trivial, trivial, trivial, trivial⟩ trivial (by decide) (by decide) ?_
    refine s_X10_isIn ?_
    show WP mX10_isAsked 21 _ _ _ 0 0 _
    refine w_ifeq rX10_isAsked_21 (fun h21 => ?_) (fun h21 => ?_)
    · skip
      refine w_iconst rX10_isAsked_28 (x := 2) (by decide) ?_
      exact j6 _ ((if_neg h6).trans (if_pos h21)).symm
    · skip
      refine w_iconst rX10_isAsked_24 (x := 0) (by decide) ?_
      refine w_goto rX10_isAsked_25 ?_
      exact j6 _ ((if_neg h6).trans (if_neg h21)).symm
  · skip
    refine w_iconst rX10_isAsked_9 (x := 1) (by decide) ?_
    refine w_goto rX10_isAsked_10 ?_
    exact j6 _ (if_pos h6).symm
theorem b01_X10_isAsked {ver : Int32} {hour : Int32} {I : Nat → Nat → Int32} : (f_X10_isAsked ver hour I) = 0 ∨ (f_X10_isAsked ver hour I) = 1 := by
  unfold f_X10_isAsked
  repeat' first | refine b01_ite ?_ ?_ | exact Or.inl rfl | exact Or.inr rfl | exact b01_X10_holds | exact b01_X10_isIn | exact b01_X10_isVersion
def p_X10_peakHour (run : Int32) (I : Nat → Nat → Int32) : Prop := ((¬ (f_X10_holds (if (f_X10_isRun run I) = 0 then 1 else 0 : Int32)) = 0 → vp_in run 40 ∧ (True))) ∧ (True)
def f_X10_peakHour (run : Int32) (I : Nat → Nat → Int32) : Int32 := (if (f_X10_holds (if (f_X10_isRun run I) = 0 then 1 else 0 : Int32)) = 0 then 0 else ((fI_X10_holds (if (f_X10_isRun run I) = 0 then 1 else 0 : Int32) I) 515 (Int32.toNatClampNeg run)) : Int32)
def fI_X10_peakHour (run : Int32) (I : Nat → Nat → Int32) : Nat → Nat → Int32 := (fI_X10_holds (if (f_X10_isRun run I) = 0 then 1 else 0 : Int32) I)
theorem s_X10_peakHour {X : Nat × (Nat → Int32)} {I : Nat → Nat → Int32} {L : Nat → Nat → Int64} {F : Nat → Nat → UInt32} {Q : AQ} {run : Int32} (p : (p_X10_peakHour run I)) (q : Q (.inl (some (.int (f_X10_peakHour run I)))) (G X (fI_X10_peakHour run I) L F)) : WP mX10_peakHour 0 (am_ent 2 [.ref 498, .int run]) [] (G X I L F) 0 0 Q := by
  unfold f_X10_peakHour fI_X10_peakHour at q
  unfold p_X10_peakHour at p
  have q0 := q
  clear q
  have q : ((¬ (f_X10_holds (if (f_X10_isRun run I) = 0 then 1 else 0 : Int32)) = 0 → vp_in run 40 ∧ (True))) ∧ (Q (.inl (some (.int (if (f_X10_holds (if (f_X10_isRun run I) = 0 then 1 else 0 : Int32)) = 0 then 0 else ((fI_X10_holds (if (f_X10_isRun run I) = 0 then 1 else 0 : Int32) I) 515 (Int32.toNatClampNeg run)) : Int32)))) (G X (fI_X10_holds (if (f_X10_isRun run I) = 0 then 1 else 0 : Int32) I) L F)) := by
    exact ⟨p.1, q0⟩
  clear p q0
  refine w_aload_n rX10_peakHour_0 rfl ?_
  refine w_aload_n rX10_peakHour_1 rfl ?_
  refine w_iload_n rX10_peakHour_2 rfl ?_
  refine w_invokevirtual rX10_peakHour_3 rfl rfl rfl (Nat.le_of_ble_eq_true rfl) ⟨trivial, trivial, trivial⟩ (G_is (by decide) rfl) (by decide) (by decide) ?_
  refine s_X10_isRun ?_
  show WP mX10_peakHour 6 _ _ _ 0 0 _
  have j6 : ∀ s6_1 : Int32, s6_1 = (if (f_X10_isRun run I) = 0 then 1 else 0 : Int32) → WP mX10_peakHour 14 [some (.ref 498), some (.int run)] [.int s6_1, .ref 498] (G X I L F) 0 0 Q := by
    intro s6_1 es6_1
    subst es6_1
    skip
    refine w_invokevirtual rX10_peakHour_14 rfl rfl rfl (Nat.le_of_ble_eq_true rfl) ⟨trivial, trivial, trivial⟩ (G_is (by decide) rfl) (by decide) (by decide) ?_
    refine s_X10_holds ?_
    show WP mX10_peakHour 17 _ _ _ 0 0 _
    have j17 : ∀ s17_0 : Int32, s17_0 = (if (f_X10_holds (if (f_X10_isRun run I) = 0 then 1 else 0 : Int32)) = 0 then 0 else ((fI_X10_holds (if (f_X10_isRun run I) = 0 then 1 else 0 : Int32) I) 515 (Int32.toNatClampNeg run)) : Int32) → WP mX10_peakHour 30 [some (.ref 498), some (.int run)] [.int s17_0] (G X (fI_X10_holds (if (f_X10_isRun run I) = 0 then 1 else 0 : Int32) I) L F) 0 0 Q := by
      intro s17_0 es17_0
      subst es17_0
      skip
      replace q := q.2
      refine w_ireturn rX10_peakHour_30 trivial ?_
      exact q
    replace q := q.1
    refine w_ifeq rX10_peakHour_17 (fun h17 => ?_) (fun h17 => ?_)
    · skip
      refine w_iconst rX10_peakHour_29 (x := 0) (by decide) ?_
      exact j17 _ (if_pos h17).symm
    · replace q := q h17
      refine w_aload_n rX10_peakHour_20 rfl ?_
      refine w_getR rX10_peakHour_21 rfl rfl (G_is (by decide) rfl) (x := 515) rfl ?_
      refine w_iload_n rX10_peakHour_24 rfl ?_
      have h25 := q.1
      replace q := q.2
      refine x_iaload rX10_peakHour_25 (G_at (by decide) rfl rfl h25) ?_
      refine w_goto rX10_peakHour_26 ?_
      exact j17 _ (if_neg h17).symm
  refine w_ifeq rX10_peakHour_6 (fun h6 => ?_) (fun h6 => ?_)
  · skip
    refine w_iconst rX10_peakHour_13 (x := 1) (by decide) ?_
    exact j6 _ (if_pos h6).symm
  · skip
    refine w_iconst rX10_peakHour_9 (x := 0) (by decide) ?_
    refine w_goto rX10_peakHour_10 ?_
    exact j6 _ (if_neg h6).symm
def p_X10_build (dam : Int32) (model : Int32) (cap : Int32) (I : Nat → Nat → Int32) : Prop := ((¬ (if (f_X10_isDam dam) = 0 then 0 else (if (f_X10_isModel model) = 0 then 0 else 1 : Int32) : Int32) = 0 → (¬ (f_X10_isIn cap 1 100000) = 0 → vp_in dam 3 ∧ (True)))) ∧ (((¬ (f_X10_holds (if (if (f_X10_isDam dam) = 0 then 0 else (if (f_X10_isModel model) = 0 then 0 else 1 : Int32) : Int32) = 0 then 1 else (if (f_X10_isIn cap 1 100000) = 0 then 2 else (if (I 517 (Int32.toNatClampNeg dam)) = 0 then 0 else 3 : Int32) : Int32) : Int32)) = 0 → vp_in dam 3 ∧ (vp_in dam 3 ∧ (vp_in dam 3 ∧ (True))))) ∧ (True))
def fI_X10_build (dam : Int32) (model : Int32) (cap : Int32) (I : Nat → Nat → Int32) : Nat → Nat → Int32 := (if (f_X10_holds (if (if (f_X10_isDam dam) = 0 then 0 else (if (f_X10_isModel model) = 0 then 0 else 1 : Int32) : Int32) = 0 then 1 else (if (f_X10_isIn cap 1 100000) = 0 then 2 else (if (I 517 (Int32.toNatClampNeg dam)) = 0 then 0 else 3 : Int32) : Int32) : Int32)) = 0 then (fI_X10_holds (if (if (f_X10_isDam dam) = 0 then 0 else (if (f_X10_isModel model) = 0 then 0 else 1 : Int32) : Int32) = 0 then 1 else (if (f_X10_isIn cap 1 100000) = 0 then 2 else (if (I 517 (Int32.toNatClampNeg dam)) = 0 then 0 else 3 : Int32) : Int32) : Int32) I) else (am_u (am_u (am_u (fI_X10_holds (if (if (f_X10_isDam dam) = 0 then 0 else (if (f_X10_isModel model) = 0 then 0 else 1 : Int32) : Int32) = 0 then 1 else (if (f_X10_isIn cap 1 100000) = 0 then 2 else (if (I 517 (Int32.toNatClampNeg dam)) = 0 then 0 else 3 : Int32) : Int32) : Int32) I) 517 (Int32.toNatClampNeg dam) (vp_nar .boolean 1)) 518 (Int32.toNatClampNeg dam) model) 519 (Int32.toNatClampNeg dam) cap) : Nat → Nat → Int32)
theorem s_X10_build {X : Nat × (Nat → Int32)} {I : Nat → Nat → Int32} {L : Nat → Nat → Int64} {F : Nat → Nat → UInt32} {Q : AQ} {dam : Int32} {model : Int32} {cap : Int32} (p : (p_X10_build dam model cap I)) (q : Q (.inl none) (G X (fI_X10_build dam model cap I) L F)) : WP mX10_build 0 (am_ent 5 [.ref 498, .int dam, .int model, .int cap]) [] (G X I L F) 0 0 Q := by
  unfold fI_X10_build at q
  unfold p_X10_build at p
  have q0 := q
  clear q
  have q : ((¬ (if (f_X10_isDam dam) = 0 then 0 else (if (f_X10_isModel model) = 0 then 0 else 1 : Int32) : Int32) = 0 → (¬ (f_X10_isIn cap 1 100000) = 0 → vp_in dam 3 ∧ (True)))) ∧ (((¬ (f_X10_holds (if (if (f_X10_isDam dam) = 0 then 0 else (if (f_X10_isModel model) = 0 then 0 else 1 : Int32) : Int32) = 0 then 1 else (if (f_X10_isIn cap 1 100000) = 0 then 2 else (if (I 517 (Int32.toNatClampNeg dam)) = 0 then 0 else 3 : Int32) : Int32) : Int32)) = 0 → vp_in dam 3 ∧ (vp_in dam 3 ∧ (vp_in dam 3 ∧ (True))))) ∧ (Q (.inl none) (G X (if (f_X10_holds (if (if (f_X10_isDam dam) = 0 then 0 else (if (f_X10_isModel model) = 0 then 0 else 1 : Int32) : Int32) = 0 then 1 else (if (f_X10_isIn cap 1 100000) = 0 then 2 else (if (I 517 (Int32.toNatClampNeg dam)) = 0 then 0 else 3 : Int32) : Int32) : Int32)) = 0 then (fI_X10_holds (if (if (f_X10_isDam dam) = 0 then 0 else (if (f_X10_isModel model) = 0 then 0 else 1 : Int32) : Int32) = 0 then 1 else (if (f_X10_isIn cap 1 100000) = 0 then 2 else (if (I 517 (Int32.toNatClampNeg dam)) = 0 then 0 else 3 : Int32) : Int32) : Int32) I) else (am_u (am_u (am_u (fI_X10_holds (if (if (f_X10_isDam dam) = 0 then 0 else (if (f_X10_isModel model) = 0 then 0 else 1 : Int32) : Int32) = 0 then 1 else (if (f_X10_isIn cap 1 100000) = 0 then 2 else (if (I 517 (Int32.toNatClampNeg dam)) = 0 then 0 else 3 : Int32) : Int32) : Int32) I) 517 (Int32.toNatClampNeg dam) (vp_nar .boolean 1)) 518 (Int32.toNatClampNeg dam) model) 519 (Int32.toNatClampNeg dam) cap) : Nat → Nat → Int32) L F))) := by
    exact ⟨p.1, p.2.1, q0⟩
  clear p q0
  refine w_iload_n rX10_build_0 rfl ?_
  refine w_invokestatic rX10_build_1 rfl rfl rfl (Nat.le_of_ble_eq_true rfl) ⟨trivial, trivial⟩ trivial (by decide) (by decide) ?_
  refine s_X10_isDam ?_
  show WP mX10_build 4 _ _ _ 0 0 _
  have j4 : ∀ s4_0 : Int32, s4_0 = (if (f_X10_isDam dam) = 0 then 0 else (if (f_X10_isModel model) = 0 then 0 else 1 : Int32) : Int32) → WP mX10_build 19 [some (.ref 498), some (.int dam), some (.int model), some (.int cap), none] [.int s4_0] (G X I L F) 0 0 Q := by
    intro s4_0 es4_0
    subst es4_0
    skip
    refine w_istore rX10_build_19 rfl trivial ?_
    refine w_aload_n rX10_build_21 rfl ?_
    refine w_iload rX10_build_22 rfl ?_
    have j24 : ∀ s24_1 : Int32, s24_1 = (if (if (f_X10_isDam dam) = 0 then 0 else (if (f_X10_isModel model) = 0 then 0 else 1 : Int32) : Int32) = 0 then 1 else (if (f_X10_isIn cap 1 100000) = 0 then 2 else (if (I 517 (Int32.toNatClampNeg dam)) = 0 then 0 else 3 : Int32) : Int32) : Int32) → WP mX10_build 60 [some (.ref 498), some (.int dam), some (.int model), some (.int cap), some (.int (if (f_X10_isDam dam) = 0 then 0 else (if (f_X10_isModel model) = 0 then 0 else 1 : Int32) : Int32))] [.int s24_1, .ref 498] (G X I L F) 0 0 Q := by
      intro s24_1 es24_1
      subst es24_1
      skip
      replace q := q.2
      refine w_invokevirtual rX10_build_60 rfl rfl rfl (Nat.le_of_ble_eq_true rfl) ⟨trivial, trivial, trivial⟩ (G_is (by decide) rfl) (by decide) (by decide) ?_
      refine s_X10_holds ?_
      show WP mX10_build 63 _ _ _ 0 0 _
      have j63 : ∀ I63 : Nat → Nat → Int32, I63 = (if (f_X10_holds (if (if (f_X10_isDam dam) = 0 then 0 else (if (f_X10_isModel model) = 0 then 0 else 1 : Int32) : Int32) = 0 then 1 else (if (f_X10_isIn cap 1 100000) = 0 then 2 else (if (I 517 (Int32.toNatClampNeg dam)) = 0 then 0 else 3 : Int32) : Int32) : Int32)) = 0 then (fI_X10_holds (if (if (f_X10_isDam dam) = 0 then 0 else (if (f_X10_isModel model) = 0 then 0 else 1 : Int32) : Int32) = 0 then 1 else (if (f_X10_isIn cap 1 100000) = 0 then 2 else (if (I 517 (Int32.toNatClampNeg dam)) = 0 then 0 else 3 : Int32) : Int32) : Int32) I) else (am_u (am_u (am_u (fI_X10_holds (if (if (f_X10_isDam dam) = 0 then 0 else (if (f_X10_isModel model) = 0 then 0 else 1 : Int32) : Int32) = 0 then 1 else (if (f_X10_isIn cap 1 100000) = 0 then 2 else (if (I 517 (Int32.toNatClampNeg dam)) = 0 then 0 else 3 : Int32) : Int32) : Int32) I) 517 (Int32.toNatClampNeg dam) (vp_nar .boolean 1)) 518 (Int32.toNatClampNeg dam) model) 519 (Int32.toNatClampNeg dam) cap) : Nat → Nat → Int32) → WP mX10_build 87 [some (.ref 498), some (.int dam), some (.int model), some (.int cap), some (.int (if (f_X10_isDam dam) = 0 then 0 else (if (f_X10_isModel model) = 0 then 0 else 1 : Int32) : Int32))] [] (G X I63 L F) 0 0 Q := by
        intro I63 eI63
        subst eI63
        skip
        replace q := q.2
        refine w_return rX10_build_87 ?_
        exact q
      replace q := q.1
      refine w_ifeq rX10_build_63 (fun h63 => ?_) (fun h63 => ?_)
      · skip
        exact j63 _ (if_pos h63).symm
      · replace q := q h63
        refine w_aload_n rX10_build_66 rfl ?_
        refine w_getR rX10_build_67 rfl rfl (G_is (by decide) rfl) (x := 517) rfl ?_
        refine w_iload_n rX10_build_70 rfl ?_
        refine w_iconst rX10_build_71 (x := 1) (by decide) ?_
        have h72 := q.1
        replace q := q.2
        refine x_bastore rX10_build_72 (G_at (by decide) rfl rfl h72) ?_
        refine w_aload_n rX10_build_73 rfl ?_
        refine w_getR rX10_build_74 rfl rfl (G_is (by decide) rfl) (x := 518) rfl ?_
        refine w_iload_n rX10_build_77 rfl ?_
        refine w_iload_n rX10_build_78 rfl ?_
        have h79 := q.1
        replace q := q.2
        refine x_iastore rX10_build_79 (G_at (by decide) rfl rfl h79) ?_
        refine w_aload_n rX10_build_80 rfl ?_
        refine w_getR rX10_build_81 rfl rfl (G_is (by decide) rfl) (x := 519) rfl ?_
        refine w_iload_n rX10_build_84 rfl ?_
        refine w_iload_n rX10_build_85 rfl ?_
        have h86 := q.1
        replace q := q.2
        refine x_iastore rX10_build_86 (G_at (by decide) rfl rfl h86) ?_
        exact j63 _ (if_neg h63).symm
    replace q := q.1
    refine w_ifne rX10_build_24 (fun h24 => ?_) (fun h24 => ?_)
    · replace q := q h24
      refine w_iload_n rX10_build_31 rfl ?_
      refine w_iconst rX10_build_32 (x := 1) (by decide) ?_
      refine w_ldc_wI rX10_build_33 (x := 100000) (by decide) ?_
      refine w_invokestatic rX10_build_36 rfl rfl rfl (Nat.le_of_ble_eq_true rfl) ⟨trivial, trivial, trivial, trivial⟩ trivial (by decide) (by decide) ?_
      refine s_X10_isIn ?_
      show WP mX10_build 39 _ _ _ 0 0 _
      refine w_ifne rX10_build_39 (fun h39 => ?_) (fun h39 => ?_)
      · replace q := q h39
        refine w_aload_n rX10_build_46 rfl ?_
        refine w_getR rX10_build_47 rfl rfl (G_is (by decide) rfl) (x := 517) rfl ?_
        refine w_iload_n rX10_build_50 rfl ?_
        have h51 := q.1
        replace q := q.2
        refine x_baload rX10_build_51 (G_at (by decide) rfl rfl h51) ?_
        refine w_ifeq rX10_build_52 (fun h52 => ?_) (fun h52 => ?_)
        · skip
          refine w_iconst rX10_build_59 (x := 0) (by decide) ?_
          exact j24 _ (((if_neg h24).trans (if_neg h39)).trans (if_pos h52)).symm
        · skip
          refine w_iconst rX10_build_55 (x := 3) (by decide) ?_
          refine w_goto rX10_build_56 ?_
          exact j24 _ (((if_neg h24).trans (if_neg h39)).trans (if_neg h52)).symm
      · skip
        refine w_iconst rX10_build_42 (x := 2) (by decide) ?_
        refine w_goto rX10_build_43 ?_
        exact j24 _ ((if_neg h24).trans (if_pos h39)).symm
    · skip
      refine w_iconst rX10_build_27 (x := 1) (by decide) ?_
      refine w_goto rX10_build_28 ?_
      exact j24 _ (if_pos h24).symm
  refine w_ifeq rX10_build_4 (fun h4 => ?_) (fun h4 => ?_)
  · skip
    refine w_iconst rX10_build_18 (x := 0) (by decide) ?_
    exact j4 _ (if_pos h4).symm
  · skip
    refine w_iload_n rX10_build_7 rfl ?_
    refine w_invokestatic rX10_build_8 rfl rfl rfl (Nat.le_of_ble_eq_true rfl) ⟨trivial, trivial⟩ trivial (by decide) (by decide) ?_
    refine s_X10_isModel ?_
    show WP mX10_build 11 _ _ _ 0 0 _
    refine w_ifeq rX10_build_11 (fun h11 => ?_) (fun h11 => ?_)
    · skip
      refine w_iconst rX10_build_18 (x := 0) (by decide) ?_
      exact j4 _ ((if_neg h4).trans (if_pos h11)).symm
    · skip
      refine w_iconst rX10_build_14 (x := 1) (by decide) ?_
      refine w_goto rX10_build_15 ?_
      exact j4 _ ((if_neg h4).trans (if_neg h11)).symm
def p_X10_valley (dam : Int32) (its : Int32) (danger : Int32) (hours : Int32) (I : Nat → Nat → Int32) : Prop := ((¬ (f_X10_holds (if (f_X10_isDam dam) = 0 then 1 else (if (if (f_X10_isIn its 0 10000) = 0 then 0 else (if (f_X10_isIn danger 1 100000) = 0 then 0 else (if (f_X10_isIn hours 0 12) = 0 then 0 else 1 : Int32) : Int32) : Int32) = 0 then 2 else (if (I 517 (Int32.toNatClampNeg dam)) = 0 then 3 else 0 : Int32) : Int32) : Int32)) = 0 → vp_in dam 3 ∧ (vp_in dam 3 ∧ (vp_in dam 3 ∧ (vp_in dam 3 ∧ (True)))))) ∧ (True)
def fI_X10_valley (dam : Int32) (its : Int32) (danger : Int32) (hours : Int32) (I : Nat → Nat → Int32) : Nat → Nat → Int32 := (if (f_X10_holds (if (f_X10_isDam dam) = 0 then 1 else (if (if (f_X10_isIn its 0 10000) = 0 then 0 else (if (f_X10_isIn danger 1 100000) = 0 then 0 else (if (f_X10_isIn hours 0 12) = 0 then 0 else 1 : Int32) : Int32) : Int32) = 0 then 2 else (if (I 517 (Int32.toNatClampNeg dam)) = 0 then 3 else 0 : Int32) : Int32) : Int32)) = 0 then (fI_X10_holds (if (f_X10_isDam dam) = 0 then 1 else (if (if (f_X10_isIn its 0 10000) = 0 then 0 else (if (f_X10_isIn danger 1 100000) = 0 then 0 else (if (f_X10_isIn hours 0 12) = 0 then 0 else 1 : Int32) : Int32) : Int32) = 0 then 2 else (if (I 517 (Int32.toNatClampNeg dam)) = 0 then 3 else 0 : Int32) : Int32) : Int32) I) else (am_u (am_u (am_u (am_u (fI_X10_holds (if (f_X10_isDam dam) = 0 then 1 else (if (if (f_X10_isIn its 0 10000) = 0 then 0 else (if (f_X10_isIn danger 1 100000) = 0 then 0 else (if (f_X10_isIn hours 0 12) = 0 then 0 else 1 : Int32) : Int32) : Int32) = 0 then 2 else (if (I 517 (Int32.toNatClampNeg dam)) = 0 then 3 else 0 : Int32) : Int32) : Int32) I) 526 (Int32.toNatClampNeg dam) (vp_nar .boolean 1)) 527 (Int32.toNatClampNeg dam) its) 528 (Int32.toNatClampNeg dam) danger) 529 (Int32.toNatClampNeg dam) hours) : Nat → Nat → Int32)
theorem s_X10_valley {X : Nat × (Nat → Int32)} {I : Nat → Nat → Int32} {L : Nat → Nat → Int64} {F : Nat → Nat → UInt32} {Q : AQ} {dam : Int32} {its : Int32} {danger : Int32} {hours : Int32} (p : (p_X10_valley dam its danger hours I)) (q : Q (.inl none) (G X (fI_X10_valley dam its danger hours I) L F)) : WP mX10_valley 0 (am_ent 7 [.ref 498, .int dam, .int its, .int danger, .int hours]) [] (G X I L F) 0 0 Q := by
  unfold fI_X10_valley at q
  unfold p_X10_valley at p
  have q0 := q
  clear q
  have q : ((¬ (f_X10_holds (if (f_X10_isDam dam) = 0 then 1 else (if (if (f_X10_isIn its 0 10000) = 0 then 0 else (if (f_X10_isIn danger 1 100000) = 0 then 0 else (if (f_X10_isIn hours 0 12) = 0 then 0 else 1 : Int32) : Int32) : Int32) = 0 then 2 else (if (I 517 (Int32.toNatClampNeg dam)) = 0 then 3 else 0 : Int32) : Int32) : Int32)) = 0 → vp_in dam 3 ∧ (vp_in dam 3 ∧ (vp_in dam 3 ∧ (vp_in dam 3 ∧ (True)))))) ∧ (Q (.inl none) (G X (if (f_X10_holds (if (f_X10_isDam dam) = 0 then 1 else (if (if (f_X10_isIn its 0 10000) = 0 then 0 else (if (f_X10_isIn danger 1 100000) = 0 then 0 else (if (f_X10_isIn hours 0 12) = 0 then 0 else 1 : Int32) : Int32) : Int32) = 0 then 2 else (if (I 517 (Int32.toNatClampNeg dam)) = 0 then 3 else 0 : Int32) : Int32) : Int32)) = 0 then (fI_X10_holds (if (f_X10_isDam dam) = 0 then 1 else (if (if (f_X10_isIn its 0 10000) = 0 then 0 else (if (f_X10_isIn danger 1 100000) = 0 then 0 else (if (f_X10_isIn hours 0 12) = 0 then 0 else 1 : Int32) : Int32) : Int32) = 0 then 2 else (if (I 517 (Int32.toNatClampNeg dam)) = 0 then 3 else 0 : Int32) : Int32) : Int32) I) else (am_u (am_u (am_u (am_u (fI_X10_holds (if (f_X10_isDam dam) = 0 then 1 else (if (if (f_X10_isIn its 0 10000) = 0 then 0 else (if (f_X10_isIn danger 1 100000) = 0 then 0 else (if (f_X10_isIn hours 0 12) = 0 then 0 else 1 : Int32) : Int32) : Int32) = 0 then 2 else (if (I 517 (Int32.toNatClampNeg dam)) = 0 then 3 else 0 : Int32) : Int32) : Int32) I) 526 (Int32.toNatClampNeg dam) (vp_nar .boolean 1)) 527 (Int32.toNatClampNeg dam) its) 528 (Int32.toNatClampNeg dam) danger) 529 (Int32.toNatClampNeg dam) hours) : Nat → Nat → Int32) L F)) := by
    exact ⟨p.1, q0⟩
  clear p q0
  refine w_iload_n rX10_valley_0 rfl ?_
  refine w_invokestatic rX10_valley_1 rfl rfl rfl (Nat.le_of_ble_eq_true rfl) ⟨trivial, trivial⟩ trivial (by decide) (by decide) ?_
  refine s_X10_isDam ?_
  show WP mX10_valley 4 _ _ _ 0 0 _
  refine w_istore rX10_valley_4 rfl trivial ?_
  refine w_iload_n rX10_valley_6 rfl ?_
  refine w_iconst rX10_valley_7 (x := 0) (by decide) ?_
  refine w_sipush rX10_valley_8 (x := 10000) (by decide) ?_
  refine w_invokestatic rX10_valley_11 rfl rfl rfl (Nat.le_of_ble_eq_true rfl) ⟨trivial, trivial, trivial, trivial⟩ trivial (by decide) (by decide) ?_
  refine s_X10_isIn ?_
  show WP mX10_valley 14 _ _ _ 0 0 _
  have j14 : ∀ s14_0 : Int32, s14_0 = (if (f_X10_isIn its 0 10000) = 0 then 0 else (if (f_X10_isIn danger 1 100000) = 0 then 0 else (if (f_X10_isIn hours 0 12) = 0 then 0 else 1 : Int32) : Int32) : Int32) → WP mX10_valley 44 [some (.ref 498), some (.int dam), some (.int its), some (.int danger), some (.int hours), some (.int (f_X10_isDam dam)), none] [.int s14_0] (G X I L F) 0 0 Q := by
    intro s14_0 es14_0
    subst es14_0
    skip
    refine w_istore rX10_valley_44 rfl trivial ?_
    refine w_aload_n rX10_valley_46 rfl ?_
    refine w_iload rX10_valley_47 rfl ?_
    have j49 : ∀ s49_1 : Int32, s49_1 = (if (f_X10_isDam dam) = 0 then 1 else (if (if (f_X10_isIn its 0 10000) = 0 then 0 else (if (f_X10_isIn danger 1 100000) = 0 then 0 else (if (f_X10_isIn hours 0 12) = 0 then 0 else 1 : Int32) : Int32) : Int32) = 0 then 2 else (if (I 517 (Int32.toNatClampNeg dam)) = 0 then 3 else 0 : Int32) : Int32) : Int32) → WP mX10_valley 79 [some (.ref 498), some (.int dam), some (.int its), some (.int danger), some (.int hours), some (.int (f_X10_isDam dam)), some (.int (if (f_X10_isIn its 0 10000) = 0 then 0 else (if (f_X10_isIn danger 1 100000) = 0 then 0 else (if (f_X10_isIn hours 0 12) = 0 then 0 else 1 : Int32) : Int32) : Int32))] [.int s49_1, .ref 498] (G X I L F) 0 0 Q := by
      intro s49_1 es49_1
      subst es49_1
      skip
      refine w_invokevirtual rX10_valley_79 rfl rfl rfl (Nat.le_of_ble_eq_true rfl) ⟨trivial, trivial, trivial⟩ (G_is (by decide) rfl) (by decide) (by decide) ?_
      refine s_X10_holds ?_
      show WP mX10_valley 82 _ _ _ 0 0 _
      have j82 : ∀ I82 : Nat → Nat → Int32, I82 = (if (f_X10_holds (if (f_X10_isDam dam) = 0 then 1 else (if (if (f_X10_isIn its 0 10000) = 0 then 0 else (if (f_X10_isIn danger 1 100000) = 0 then 0 else (if (f_X10_isIn hours 0 12) = 0 then 0 else 1 : Int32) : Int32) : Int32) = 0 then 2 else (if (I 517 (Int32.toNatClampNeg dam)) = 0 then 3 else 0 : Int32) : Int32) : Int32)) = 0 then (fI_X10_holds (if (f_X10_isDam dam) = 0 then 1 else (if (if (f_X10_isIn its 0 10000) = 0 then 0 else (if (f_X10_isIn danger 1 100000) = 0 then 0 else (if (f_X10_isIn hours 0 12) = 0 then 0 else 1 : Int32) : Int32) : Int32) = 0 then 2 else (if (I 517 (Int32.toNatClampNeg dam)) = 0 then 3 else 0 : Int32) : Int32) : Int32) I) else (am_u (am_u (am_u (am_u (fI_X10_holds (if (f_X10_isDam dam) = 0 then 1 else (if (if (f_X10_isIn its 0 10000) = 0 then 0 else (if (f_X10_isIn danger 1 100000) = 0 then 0 else (if (f_X10_isIn hours 0 12) = 0 then 0 else 1 : Int32) : Int32) : Int32) = 0 then 2 else (if (I 517 (Int32.toNatClampNeg dam)) = 0 then 3 else 0 : Int32) : Int32) : Int32) I) 526 (Int32.toNatClampNeg dam) (vp_nar .boolean 1)) 527 (Int32.toNatClampNeg dam) its) 528 (Int32.toNatClampNeg dam) danger) 529 (Int32.toNatClampNeg dam) hours) : Nat → Nat → Int32) → WP mX10_valley 114 [some (.ref 498), some (.int dam), some (.int its), some (.int danger), some (.int hours), some (.int (f_X10_isDam dam)), some (.int (if (f_X10_isIn its 0 10000) = 0 then 0 else (if (f_X10_isIn danger 1 100000) = 0 then 0 else (if (f_X10_isIn hours 0 12) = 0 then 0 else 1 : Int32) : Int32) : Int32))] [] (G X I82 L F) 0 0 Q := by
        intro I82 eI82
        subst eI82
        skip
        replace q := q.2
        refine w_return rX10_valley_114 ?_
        exact q
      replace q := q.1
      refine w_ifeq rX10_valley_82 (fun h82 => ?_) (fun h82 => ?_)
      · skip
        exact j82 _ (if_pos h82).symm
      · replace q := q h82
        refine w_aload_n rX10_valley_85 rfl ?_
        refine w_getR rX10_valley_86 rfl rfl (G_is (by decide) rfl) (x := 526) rfl ?_
        refine w_iload_n rX10_valley_89 rfl ?_
        refine w_iconst rX10_valley_90 (x := 1) (by decide) ?_
        have h91 := q.1
        replace q := q.2
        refine x_bastore rX10_valley_91 (G_at (by decide) rfl rfl h91) ?_
        refine w_aload_n rX10_valley_92 rfl ?_
        refine w_getR rX10_valley_93 rfl rfl (G_is (by decide) rfl) (x := 527) rfl ?_
        refine w_iload_n rX10_valley_96 rfl ?_
        refine w_iload_n rX10_valley_97 rfl ?_
        have h98 := q.1
        replace q := q.2
        refine x_iastore rX10_valley_98 (G_at (by decide) rfl rfl h98) ?_
        refine w_aload_n rX10_valley_99 rfl ?_
        refine w_getR rX10_valley_100 rfl rfl (G_is (by decide) rfl) (x := 528) rfl ?_
        refine w_iload_n rX10_valley_103 rfl ?_
        refine w_iload_n rX10_valley_104 rfl ?_
        have h105 := q.1
        replace q := q.2
        refine x_iastore rX10_valley_105 (G_at (by decide) rfl rfl h105) ?_
        refine w_aload_n rX10_valley_106 rfl ?_
        refine w_getR rX10_valley_107 rfl rfl (G_is (by decide) rfl) (x := 529) rfl ?_
        refine w_iload_n rX10_valley_110 rfl ?_
        refine w_iload rX10_valley_111 rfl ?_
        have h113 := q.1
        replace q := q.2
        refine x_iastore rX10_valley_113 (G_at (by decide) rfl rfl h113) ?_
        exact j82 _ (if_neg h82).symm
    refine w_ifne rX10_valley_49 (fun h49 => ?_) (fun h49 => ?_)
    · skip
      refine w_iload rX10_valley_56 rfl ?_
      refine w_ifne rX10_valley_58 (fun h58 => ?_) (fun h58 => ?_)
      · skip
        refine w_aload_n rX10_valley_65 rfl ?_
        refine w_getR rX10_valley_66 rfl rfl (G_is (by decide) rfl) (x := 517) rfl ?_
        refine w_iload_n rX10_valley_69 rfl ?_
        refine x_baload rX10_valley_70 (G_at (by decide) rfl rfl (gd_X10_isDam h49)) ?_
        refine w_ifeq rX10_valley_71 (fun h71 => ?_) (fun h71 => ?_)
        · skip
          refine w_iconst rX10_valley_78 (x := 3) (by decide) ?_
          exact j49 _ (((if_neg h49).trans (if_neg h58)).trans (if_pos h71)).symm
        · skip
          refine w_iconst rX10_valley_74 (x := 0) (by decide) ?_
          refine w_goto rX10_valley_75 ?_
          exact j49 _ (((if_neg h49).trans (if_neg h58)).trans (if_neg h71)).symm
      · skip
        refine w_iconst rX10_valley_61 (x := 2) (by decide) ?_
        refine w_goto rX10_valley_62 ?_
        exact j49 _ ((if_neg h49).trans (if_pos h58)).symm
    · skip
      refine w_iconst rX10_valley_52 (x := 1) (by decide) ?_
      refine w_goto rX10_valley_53 ?_
      exact j49 _ (if_pos h49).symm
  refine w_ifeq rX10_valley_14 (fun h14 => ?_) (fun h14 => ?_)
  · skip
    refine w_iconst rX10_valley_43 (x := 0) (by decide) ?_
    exact j14 _ (if_pos h14).symm
  · skip
    refine w_iload_n rX10_valley_17 rfl ?_
    refine w_iconst rX10_valley_18 (x := 1) (by decide) ?_
    refine w_ldc_wI rX10_valley_19 (x := 100000) (by decide) ?_
    refine w_invokestatic rX10_valley_22 rfl rfl rfl (Nat.le_of_ble_eq_true rfl) ⟨trivial, trivial, trivial, trivial⟩ trivial (by decide) (by decide) ?_
    refine s_X10_isIn ?_
    show WP mX10_valley 25 _ _ _ 0 0 _
    refine w_ifeq rX10_valley_25 (fun h25 => ?_) (fun h25 => ?_)
    · skip
      refine w_iconst rX10_valley_43 (x := 0) (by decide) ?_
      exact j14 _ ((if_neg h14).trans (if_pos h25)).symm
    · skip
      refine w_iload rX10_valley_28 rfl ?_
      refine w_iconst rX10_valley_30 (x := 0) (by decide) ?_
      refine w_bipush rX10_valley_31 (x := 12) (by decide) ?_
      refine w_invokestatic rX10_valley_33 rfl rfl rfl (Nat.le_of_ble_eq_true rfl) ⟨trivial, trivial, trivial, trivial⟩ trivial (by decide) (by decide) ?_
      refine s_X10_isIn ?_
      show WP mX10_valley 36 _ _ _ 0 0 _
      refine w_ifeq rX10_valley_36 (fun h36 => ?_) (fun h36 => ?_)
      · skip
        refine w_iconst rX10_valley_43 (x := 0) (by decide) ?_
        exact j14 _ (((if_neg h14).trans (if_neg h25)).trans (if_pos h36)).symm
      · skip
        refine w_iconst rX10_valley_39 (x := 1) (by decide) ?_
        refine w_goto rX10_valley_40 ?_
        exact j14 _ (((if_neg h14).trans (if_neg h25)).trans (if_neg h36)).symm
def f_X10_isSiren (sir : Int32) (I : Nat → Nat → Int32) : Int32 := (f_X10_holds (if (f_X10_isIn sir 0 ((I 498 39) - 1)) = 0 then 1 else 0 : Int32))
def fI_X10_isSiren (sir : Int32) (I : Nat → Nat → Int32) : Nat → Nat → Int32 := (fI_X10_holds (if (f_X10_isIn sir 0 ((I 498 39) - 1)) = 0 then 1 else 0 : Int32) I)
theorem s_X10_isSiren {X : Nat × (Nat → Int32)} {I : Nat → Nat → Int32} {L : Nat → Nat → Int64} {F : Nat → Nat → UInt32} {Q : AQ} {sir : Int32} (q : Q (.inl (some (.int (f_X10_isSiren sir I)))) (G X (fI_X10_isSiren sir I) L F)) : WP mX10_isSiren 0 (am_ent 2 [.ref 498, .int sir]) [] (G X I L F) 0 0 Q := by
  unfold f_X10_isSiren fI_X10_isSiren at q
  refine w_aload_n rX10_isSiren_0 rfl ?_
  refine w_iload_n rX10_isSiren_1 rfl ?_
  refine w_iconst rX10_isSiren_2 (x := 0) (by decide) ?_
  refine w_aload_n rX10_isSiren_3 rfl ?_
  refine x_getI rX10_isSiren_4 rfl rfl (G_is (by decide) rfl) ?_
  refine w_iconst rX10_isSiren_7 (x := 1) (by decide) ?_
  refine w_isub rX10_isSiren_8 ?_
  refine w_invokestatic rX10_isSiren_9 rfl rfl rfl (Nat.le_of_ble_eq_true rfl) ⟨trivial, trivial, trivial, trivial⟩ trivial (by decide) (by decide) ?_
  refine s_X10_isIn ?_
  show WP mX10_isSiren 12 _ _ _ 0 0 _
  have j12 : ∀ s12_1 : Int32, s12_1 = (if (f_X10_isIn sir 0 ((I 498 39) - 1)) = 0 then 1 else 0 : Int32) → WP mX10_isSiren 20 [some (.ref 498), some (.int sir)] [.int s12_1, .ref 498] (G X I L F) 0 0 Q := by
    intro s12_1 es12_1
    subst es12_1
    skip
    refine w_invokevirtual rX10_isSiren_20 rfl rfl rfl (Nat.le_of_ble_eq_true rfl) ⟨trivial, trivial, trivial⟩ (G_is (by decide) rfl) (by decide) (by decide) ?_
    refine s_X10_holds ?_
    show WP mX10_isSiren 23 _ _ _ 0 0 _
    refine w_ireturn rX10_isSiren_23 b01_X10_holds ?_
    exact q
  refine w_ifeq rX10_isSiren_12 (fun h12 => ?_) (fun h12 => ?_)
  · skip
    refine w_iconst rX10_isSiren_19 (x := 1) (by decide) ?_
    exact j12 _ (if_pos h12).symm
  · skip
    refine w_iconst rX10_isSiren_15 (x := 0) (by decide) ?_
    refine w_goto rX10_isSiren_16 ?_
    exact j12 _ (if_neg h12).symm
theorem b01_X10_isSiren {sir : Int32} {I : Nat → Nat → Int32} : (f_X10_isSiren sir I) = 0 ∨ (f_X10_isSiren sir I) = 1 := by
  unfold f_X10_isSiren
  repeat' first | refine b01_ite ?_ ?_ | exact Or.inl rfl | exact Or.inr rfl | exact b01_X10_holds | exact b01_X10_isIn
def p_X10_siren (sir : Int32) (I : Nat → Nat → Int32) : Prop := ((¬ (f_X10_isSiren sir I) = 0 → vp_in sir 60 ∧ (True))) ∧ (True)
def f_X10_siren (sir : Int32) (I : Nat → Nat → Int32) : Int32 := (if (f_X10_isSiren sir I) = 0 then 0 else ((fI_X10_isSiren sir I) 535 (Int32.toNatClampNeg sir)) : Int32)
def fI_X10_siren (sir : Int32) (I : Nat → Nat → Int32) : Nat → Nat → Int32 := (fI_X10_isSiren sir I)
theorem s_X10_siren {X : Nat × (Nat → Int32)} {I : Nat → Nat → Int32} {L : Nat → Nat → Int64} {F : Nat → Nat → UInt32} {Q : AQ} {sir : Int32} (p : (p_X10_siren sir I)) (q : Q (.inl (some (.int (f_X10_siren sir I)))) (G X (fI_X10_siren sir I) L F)) : WP mX10_siren 0 (am_ent 2 [.ref 498, .int sir]) [] (G X I L F) 0 0 Q := by
  unfold f_X10_siren fI_X10_siren at q
  unfold p_X10_siren at p
  have q0 := q
  clear q
  have q : ((¬ (f_X10_isSiren sir I) = 0 → vp_in sir 60 ∧ (True))) ∧ (Q (.inl (some (.int (if (f_X10_isSiren sir I) = 0 then 0 else ((fI_X10_isSiren sir I) 535 (Int32.toNatClampNeg sir)) : Int32)))) (G X (fI_X10_isSiren sir I) L F)) := by
    exact ⟨p.1, q0⟩
  clear p q0
  refine w_aload_n rX10_siren_0 rfl ?_
  refine w_iload_n rX10_siren_1 rfl ?_
  refine w_invokevirtual rX10_siren_2 rfl rfl rfl (Nat.le_of_ble_eq_true rfl) ⟨trivial, trivial, trivial⟩ (G_is (by decide) rfl) (by decide) (by decide) ?_
  refine s_X10_isSiren ?_
  show WP mX10_siren 5 _ _ _ 0 0 _
  have j5 : ∀ s5_0 : Int32, s5_0 = (if (f_X10_isSiren sir I) = 0 then 0 else ((fI_X10_isSiren sir I) 535 (Int32.toNatClampNeg sir)) : Int32) → WP mX10_siren 18 [some (.ref 498), some (.int sir)] [.int s5_0] (G X (fI_X10_isSiren sir I) L F) 0 0 Q := by
    intro s5_0 es5_0
    subst es5_0
    skip
    replace q := q.2
    refine w_ireturn rX10_siren_18 trivial ?_
    exact q
  replace q := q.1
  refine w_ifeq rX10_siren_5 (fun h5 => ?_) (fun h5 => ?_)
  · skip
    refine w_iconst rX10_siren_17 (x := 0) (by decide) ?_
    exact j5 _ (if_pos h5).symm
  · replace q := q h5
    refine w_aload_n rX10_siren_8 rfl ?_
    refine w_getR rX10_siren_9 rfl rfl (G_is (by decide) rfl) (x := 535) rfl ?_
    refine w_iload_n rX10_siren_12 rfl ?_
    have h13 := q.1
    replace q := q.2
    refine x_iaload rX10_siren_13 (G_at (by decide) rfl rfl h13) ?_
    refine w_goto rX10_siren_14 ?_
    exact j5 _ (if_neg h5).symm
def p_X10_walkers (sir : Int32) (I : Nat → Nat → Int32) : Prop := ((¬ (f_X10_isSiren sir I) = 0 → vp_in sir 60 ∧ (True))) ∧ (True)
def f_X10_walkers (sir : Int32) (I : Nat → Nat → Int32) : Int32 := (if (f_X10_isSiren sir I) = 0 then 0 else ((fI_X10_isSiren sir I) 536 (Int32.toNatClampNeg sir)) : Int32)
def fI_X10_walkers (sir : Int32) (I : Nat → Nat → Int32) : Nat → Nat → Int32 := (fI_X10_isSiren sir I)
theorem s_X10_walkers {X : Nat × (Nat → Int32)} {I : Nat → Nat → Int32} {L : Nat → Nat → Int64} {F : Nat → Nat → UInt32} {Q : AQ} {sir : Int32} (p : (p_X10_walkers sir I)) (q : Q (.inl (some (.int (f_X10_walkers sir I)))) (G X (fI_X10_walkers sir I) L F)) : WP mX10_walkers 0 (am_ent 2 [.ref 498, .int sir]) [] (G X I L F) 0 0 Q := by
  unfold f_X10_walkers fI_X10_walkers at q
  unfold p_X10_walkers at p
  have q0 := q
  clear q
  have q : ((¬ (f_X10_isSiren sir I) = 0 → vp_in sir 60 ∧ (True))) ∧ (Q (.inl (some (.int (if (f_X10_isSiren sir I) = 0 then 0 else ((fI_X10_isSiren sir I) 536 (Int32.toNatClampNeg sir)) : Int32)))) (G X (fI_X10_isSiren sir I) L F)) := by
    exact ⟨p.1, q0⟩
  clear p q0
  refine w_aload_n rX10_walkers_0 rfl ?_
  refine w_iload_n rX10_walkers_1 rfl ?_
  refine w_invokevirtual rX10_walkers_2 rfl rfl rfl (Nat.le_of_ble_eq_true rfl) ⟨trivial, trivial, trivial⟩ (G_is (by decide) rfl) (by decide) (by decide) ?_
  refine s_X10_isSiren ?_
  show WP mX10_walkers 5 _ _ _ 0 0 _
  have j5 : ∀ s5_0 : Int32, s5_0 = (if (f_X10_isSiren sir I) = 0 then 0 else ((fI_X10_isSiren sir I) 536 (Int32.toNatClampNeg sir)) : Int32) → WP mX10_walkers 18 [some (.ref 498), some (.int sir)] [.int s5_0] (G X (fI_X10_isSiren sir I) L F) 0 0 Q := by
    intro s5_0 es5_0
    subst es5_0
    skip
    replace q := q.2
    refine w_ireturn rX10_walkers_18 trivial ?_
    exact q
  replace q := q.1
  refine w_ifeq rX10_walkers_5 (fun h5 => ?_) (fun h5 => ?_)
  · skip
    refine w_iconst rX10_walkers_17 (x := 0) (by decide) ?_
    exact j5 _ (if_pos h5).symm
  · replace q := q h5
    refine w_aload_n rX10_walkers_8 rfl ?_
    refine w_getR rX10_walkers_9 rfl rfl (G_is (by decide) rfl) (x := 536) rfl ?_
    refine w_iload_n rX10_walkers_12 rfl ?_
    have h13 := q.1
    replace q := q.2
    refine x_iaload rX10_walkers_13 (G_at (by decide) rfl rfl h13) ?_
    refine w_goto rX10_walkers_14 ?_
    exact j5 _ (if_neg h5).symm
def p_X10_saved (dam : Int32) : Prop := ((¬ (f_X10_holds (if (f_X10_isDam dam) = 0 then 1 else 0 : Int32)) = 0 → vp_in dam 3 ∧ (True))) ∧ (True)
def f_X10_saved (dam : Int32) (I : Nat → Nat → Int32) : Int32 := (if (f_X10_holds (if (f_X10_isDam dam) = 0 then 1 else 0 : Int32)) = 0 then 0 else ((fI_X10_holds (if (f_X10_isDam dam) = 0 then 1 else 0 : Int32) I) 531 (Int32.toNatClampNeg dam)) : Int32)
def fI_X10_saved (dam : Int32) (I : Nat → Nat → Int32) : Nat → Nat → Int32 := (fI_X10_holds (if (f_X10_isDam dam) = 0 then 1 else 0 : Int32) I)
theorem s_X10_saved {X : Nat × (Nat → Int32)} {I : Nat → Nat → Int32} {L : Nat → Nat → Int64} {F : Nat → Nat → UInt32} {Q : AQ} {dam : Int32} (p : (p_X10_saved dam)) (q : Q (.inl (some (.int (f_X10_saved dam I)))) (G X (fI_X10_saved dam I) L F)) : WP mX10_saved 0 (am_ent 2 [.ref 498, .int dam]) [] (G X I L F) 0 0 Q := by
  unfold f_X10_saved fI_X10_saved at q
  unfold p_X10_saved at p
  have q0 := q
  clear q
  have q : ((¬ (f_X10_holds (if (f_X10_isDam dam) = 0 then 1 else 0 : Int32)) = 0 → vp_in dam 3 ∧ (True))) ∧ (Q (.inl (some (.int (if (f_X10_holds (if (f_X10_isDam dam) = 0 then 1 else 0 : Int32)) = 0 then 0 else ((fI_X10_holds (if (f_X10_isDam dam) = 0 then 1 else 0 : Int32) I) 531 (Int32.toNatClampNeg dam)) : Int32)))) (G X (fI_X10_holds (if (f_X10_isDam dam) = 0 then 1 else 0 : Int32) I) L F)) := by
    exact ⟨p.1, q0⟩
  clear p q0
  refine w_aload_n rX10_saved_0 rfl ?_
  refine w_iload_n rX10_saved_1 rfl ?_
  refine w_invokestatic rX10_saved_2 rfl rfl rfl (Nat.le_of_ble_eq_true rfl) ⟨trivial, trivial⟩ trivial (by decide) (by decide) ?_
  refine s_X10_isDam ?_
  show WP mX10_saved 5 _ _ _ 0 0 _
  have j5 : ∀ s5_1 : Int32, s5_1 = (if (f_X10_isDam dam) = 0 then 1 else 0 : Int32) → WP mX10_saved 13 [some (.ref 498), some (.int dam)] [.int s5_1, .ref 498] (G X I L F) 0 0 Q := by
    intro s5_1 es5_1
    subst es5_1
    skip
    refine w_invokevirtual rX10_saved_13 rfl rfl rfl (Nat.le_of_ble_eq_true rfl) ⟨trivial, trivial, trivial⟩ (G_is (by decide) rfl) (by decide) (by decide) ?_
    refine s_X10_holds ?_
    show WP mX10_saved 16 _ _ _ 0 0 _
    have j16 : ∀ s16_0 : Int32, s16_0 = (if (f_X10_holds (if (f_X10_isDam dam) = 0 then 1 else 0 : Int32)) = 0 then 0 else ((fI_X10_holds (if (f_X10_isDam dam) = 0 then 1 else 0 : Int32) I) 531 (Int32.toNatClampNeg dam)) : Int32) → WP mX10_saved 29 [some (.ref 498), some (.int dam)] [.int s16_0] (G X (fI_X10_holds (if (f_X10_isDam dam) = 0 then 1 else 0 : Int32) I) L F) 0 0 Q := by
      intro s16_0 es16_0
      subst es16_0
      skip
      replace q := q.2
      refine w_ireturn rX10_saved_29 trivial ?_
      exact q
    replace q := q.1
    refine w_ifeq rX10_saved_16 (fun h16 => ?_) (fun h16 => ?_)
    · skip
      refine w_iconst rX10_saved_28 (x := 0) (by decide) ?_
      exact j16 _ (if_pos h16).symm
    · replace q := q h16
      refine w_aload_n rX10_saved_19 rfl ?_
      refine w_getR rX10_saved_20 rfl rfl (G_is (by decide) rfl) (x := 531) rfl ?_
      refine w_iload_n rX10_saved_23 rfl ?_
      have h24 := q.1
      replace q := q.2
      refine x_iaload rX10_saved_24 (G_at (by decide) rfl rfl h24) ?_
      refine w_goto rX10_saved_25 ?_
      exact j16 _ (if_neg h16).symm
  refine w_ifeq rX10_saved_5 (fun h5 => ?_) (fun h5 => ?_)
  · skip
    refine w_iconst rX10_saved_12 (x := 1) (by decide) ?_
    exact j5 _ (if_pos h5).symm
  · skip
    refine w_iconst rX10_saved_8 (x := 0) (by decide) ?_
    refine w_goto rX10_saved_9 ?_
    exact j5 _ (if_neg h5).symm
def f_Jxf58ca_isNaN_12338 (x : UInt32) : Int32 := (if (Op.cmpValue (FP.fcmp x x) .l) = 0 then 0 else 1 : Int32)
theorem s_Jxf58ca_isNaN_12338 {X : Nat × (Nat → Int32)} {I : Nat → Nat → Int32} {L : Nat → Nat → Int64} {F : Nat → Nat → UInt32} {Q : AQ} {x : UInt32} (q : Q (.inl (some (.int (f_Jxf58ca_isNaN_12338 x)))) (G X I L F)) : WP mJxf58ca_isNaN_12338 0 (am_ent 1 [.float x]) [] (G X I L F) 0 0 Q := by
  unfold f_Jxf58ca_isNaN_12338 at q
  refine w_fload_n rJxf58ca_isNaN_12338_0 rfl ?_
  refine w_fload_n rJxf58ca_isNaN_12338_1 rfl ?_
  refine w_fcmp rJxf58ca_isNaN_12338_2 ?_
  have j3 : ∀ s3_0 : Int32, s3_0 = (if (Op.cmpValue (FP.fcmp x x) .l) = 0 then 0 else 1 : Int32) → WP mJxf58ca_isNaN_12338 11 [some (.float x)] [.int s3_0] (G X I L F) 0 0 Q := by
    intro s3_0 es3_0
    subst es3_0
    skip
    refine w_ireturn rJxf58ca_isNaN_12338_11 (show (if (Op.cmpValue (FP.fcmp x x) .l) = 0 then 0 else 1 : Int32) = 0 ∨ (if (Op.cmpValue (FP.fcmp x x) .l) = 0 then 0 else 1 : Int32) = 1 from by repeat' first | refine b01_ite ?_ ?_ | exact Or.inl rfl | exact Or.inr rfl) ?_
    exact q
  refine w_ifeq rJxf58ca_isNaN_12338_3 (fun h3 => ?_) (fun h3 => ?_)
  · skip
    refine w_iconst rJxf58ca_isNaN_12338_10 (x := 0) (by decide) ?_
    exact j3 _ (if_pos h3).symm
  · skip
    refine w_iconst rJxf58ca_isNaN_12338_6 (x := 1) (by decide) ?_
    refine w_goto rJxf58ca_isNaN_12338_7 ?_
    exact j3 _ (if_neg h3).symm
theorem b01_Jxf58ca_isNaN_12338 {x : UInt32} : (f_Jxf58ca_isNaN_12338 x) = 0 ∨ (f_Jxf58ca_isNaN_12338 x) = 1 := by
  unfold f_Jxf58ca_isNaN_12338
  repeat' first | refine b01_ite ?_ ?_ | exact Or.inl rfl | exact Or.inr rfl
def f_Jxf58ca_floatToIntBits_5c35a (x : UInt32) : Int32 := (if (f_Jxf58ca_isNaN_12338 x) = 0 then (UInt32.toInt32 x) else 2143289344 : Int32)
theorem s_Jxf58ca_floatToIntBits_5c35a {X : Nat × (Nat → Int32)} {I : Nat → Nat → Int32} {L : Nat → Nat → Int64} {F : Nat → Nat → UInt32} {Q : AQ} {x : UInt32} (q : Q (.inl (some (.int (f_Jxf58ca_floatToIntBits_5c35a x)))) (G X I L F)) : WP mJxf58ca_floatToIntBits_5c35a 0 (am_ent 1 [.float x]) [] (G X I L F) 0 0 Q := by
  unfold f_Jxf58ca_floatToIntBits_5c35a at q
  refine w_fload_n rJxf58ca_floatToIntBits_5c35a_0 rfl ?_
  refine w_invokestatic rJxf58ca_floatToIntBits_5c35a_1 rfl rfl rfl (Nat.le_of_ble_eq_true rfl) ⟨trivial, trivial⟩ trivial (by decide) (by decide) ?_
  refine s_Jxf58ca_isNaN_12338 ?_
  show WP mJxf58ca_floatToIntBits_5c35a 4 _ _ _ 0 0 _
  have j4 : ∀ s4_0 : Int32, s4_0 = (if (f_Jxf58ca_isNaN_12338 x) = 0 then (UInt32.toInt32 x) else 2143289344 : Int32) → Q (.inl (some (.int s4_0))) (G X I L F) := by
    intro s4_0 es4_0
    subst es4_0
    skip
    exact q
  refine w_ifne rJxf58ca_floatToIntBits_5c35a_4 (fun h4 => ?_) (fun h4 => ?_)
  · skip
    refine w_ldcI rJxf58ca_floatToIntBits_5c35a_12 (x := 2143289344) (by decide) ?_
    refine w_ireturn rJxf58ca_floatToIntBits_5c35a_14 trivial ?_
    exact j4 _ (if_neg h4).symm
  · skip
    refine w_fload_n rJxf58ca_floatToIntBits_5c35a_7 rfl ?_
    refine w_rawbits rJxf58ca_floatToIntBits_5c35a_8 (Nat.le_of_ble_eq_true rfl) ?_
    refine w_ireturn rJxf58ca_floatToIntBits_5c35a_11 trivial ?_
    exact j4 _ (if_pos h4).symm
def f_J6_bitCount_0f7a4 (x : Int32) : Int32 := ((((((((x - ((UInt32.toInt32 ((Int32.toUInt32 x) >>> ((Int32.toUInt32 1) &&& Int32.toUInt32 31))) &&& 1431655765)) &&& 858993459) + ((UInt32.toInt32 ((Int32.toUInt32 (x - ((UInt32.toInt32 ((Int32.toUInt32 x) >>> ((Int32.toUInt32 1) &&& Int32.toUInt32 31))) &&& 1431655765))) >>> ((Int32.toUInt32 2) &&& Int32.toUInt32 31))) &&& 858993459)) + (UInt32.toInt32 ((Int32.toUInt32 (((x - ((UInt32.toInt32 ((Int32.toUInt32 x) >>> ((Int32.toUInt32 1) &&& Int32.toUInt32 31))) &&& 1431655765)) &&& 858993459) + ((UInt32.toInt32 ((Int32.toUInt32 (x - ((UInt32.toInt32 ((Int32.toUInt32 x) >>> ((Int32.toUInt32 1) &&& Int32.toUInt32 31))) &&& 1431655765))) >>> ((Int32.toUInt32 2) &&& Int32.toUInt32 31))) &&& 858993459))) >>> ((Int32.toUInt32 4) &&& Int32.toUInt32 31)))) &&& 252645135) + (UInt32.toInt32 ((Int32.toUInt32 (((((x - ((UInt32.toInt32 ((Int32.toUInt32 x) >>> ((Int32.toUInt32 1) &&& Int32.toUInt32 31))) &&& 1431655765)) &&& 858993459) + ((UInt32.toInt32 ((Int32.toUInt32 (x - ((UInt32.toInt32 ((Int32.toUInt32 x) >>> ((Int32.toUInt32 1) &&& Int32.toUInt32 31))) &&& 1431655765))) >>> ((Int32.toUInt32 2) &&& Int32.toUInt32 31))) &&& 858993459)) + (UInt32.toInt32 ((Int32.toUInt32 (((x - ((UInt32.toInt32 ((Int32.toUInt32 x) >>> ((Int32.toUInt32 1) &&& Int32.toUInt32 31))) &&& 1431655765)) &&& 858993459) + ((UInt32.toInt32 ((Int32.toUInt32 (x - ((UInt32.toInt32 ((Int32.toUInt32 x) >>> ((Int32.toUInt32 1) &&& Int32.toUInt32 31))) &&& 1431655765))) >>> ((Int32.toUInt32 2) &&& Int32.toUInt32 31))) &&& 858993459))) >>> ((Int32.toUInt32 4) &&& Int32.toUInt32 31)))) &&& 252645135)) >>> ((Int32.toUInt32 8) &&& Int32.toUInt32 31)))) + (UInt32.toInt32 ((Int32.toUInt32 ((((((x - ((UInt32.toInt32 ((Int32.toUInt32 x) >>> ((Int32.toUInt32 1) &&& Int32.toUInt32 31))) &&& 1431655765)) &&& 858993459) + ((UInt32.toInt32 ((Int32.toUInt32 (x - ((UInt32.toInt32 ((Int32.toUInt32 x) >>> ((Int32.toUInt32 1) &&& Int32.toUInt32 31))) &&& 1431655765))) >>> ((Int32.toUInt32 2) &&& Int32.toUInt32 31))) &&& 858993459)) + (UInt32.toInt32 ((Int32.toUInt32 (((x - ((UInt32.toInt32 ((Int32.toUInt32 x) >>> ((Int32.toUInt32 1) &&& Int32.toUInt32 31))) &&& 1431655765)) &&& 858993459) + ((UInt32.toInt32 ((Int32.toUInt32 (x - ((UInt32.toInt32 ((Int32.toUInt32 x) >>> ((Int32.toUInt32 1) &&& Int32.toUInt32 31))) &&& 1431655765))) >>> ((Int32.toUInt32 2) &&& Int32.toUInt32 31))) &&& 858993459))) >>> ((Int32.toUInt32 4) &&& Int32.toUInt32 31)))) &&& 252645135) + (UInt32.toInt32 ((Int32.toUInt32 (((((x - ((UInt32.toInt32 ((Int32.toUInt32 x) >>> ((Int32.toUInt32 1) &&& Int32.toUInt32 31))) &&& 1431655765)) &&& 858993459) + ((UInt32.toInt32 ((Int32.toUInt32 (x - ((UInt32.toInt32 ((Int32.toUInt32 x) >>> ((Int32.toUInt32 1) &&& Int32.toUInt32 31))) &&& 1431655765))) >>> ((Int32.toUInt32 2) &&& Int32.toUInt32 31))) &&& 858993459)) + (UInt32.toInt32 ((Int32.toUInt32 (((x - ((UInt32.toInt32 ((Int32.toUInt32 x) >>> ((Int32.toUInt32 1) &&& Int32.toUInt32 31))) &&& 1431655765)) &&& 858993459) + ((UInt32.toInt32 ((Int32.toUInt32 (x - ((UInt32.toInt32 ((Int32.toUInt32 x) >>> ((Int32.toUInt32 1) &&& Int32.toUInt32 31))) &&& 1431655765))) >>> ((Int32.toUInt32 2) &&& Int32.toUInt32 31))) &&& 858993459))) >>> ((Int32.toUInt32 4) &&& Int32.toUInt32 31)))) &&& 252645135)) >>> ((Int32.toUInt32 8) &&& Int32.toUInt32 31))))) >>> ((Int32.toUInt32 16) &&& Int32.toUInt32 31)))) &&& 63)
theorem s_J6_bitCount_0f7a4 {X : Nat × (Nat → Int32)} {I : Nat → Nat → Int32} {L : Nat → Nat → Int64} {F : Nat → Nat → UInt32} {Q : AQ} {x : Int32} (q : Q (.inl (some (.int (f_J6_bitCount_0f7a4 x)))) (G X I L F)) : WP mJ6_bitCount_0f7a4 0 (am_ent 1 [.int x]) [] (G X I L F) 0 0 Q := by
  unfold f_J6_bitCount_0f7a4 at q
  refine w_iload_n rJ6_bitCount_0f7a4_0 rfl ?_
  refine w_iload_n rJ6_bitCount_0f7a4_1 rfl ?_
  refine w_iconst rJ6_bitCount_0f7a4_2 (x := 1) (by decide) ?_
  refine w_iushr rJ6_bitCount_0f7a4_3 ?_
  refine w_ldc_wI rJ6_bitCount_0f7a4_4 (x := 1431655765) (by decide) ?_
  refine w_iand rJ6_bitCount_0f7a4_7 ?_
  refine w_isub rJ6_bitCount_0f7a4_8 ?_
  refine w_istore_n rJ6_bitCount_0f7a4_9 rfl trivial ?_
  refine w_iload_n rJ6_bitCount_0f7a4_10 rfl ?_
  refine w_ldc_wI rJ6_bitCount_0f7a4_11 (x := 858993459) (by decide) ?_
  refine w_iand rJ6_bitCount_0f7a4_14 ?_
  refine w_iload_n rJ6_bitCount_0f7a4_15 rfl ?_
  refine w_iconst rJ6_bitCount_0f7a4_16 (x := 2) (by decide) ?_
  refine w_iushr rJ6_bitCount_0f7a4_17 ?_
  refine w_ldc_wI rJ6_bitCount_0f7a4_18 (x := 858993459) (by decide) ?_
  refine w_iand rJ6_bitCount_0f7a4_21 ?_
  refine w_iadd rJ6_bitCount_0f7a4_22 ?_
  refine w_istore_n rJ6_bitCount_0f7a4_23 rfl trivial ?_
  refine w_iload_n rJ6_bitCount_0f7a4_24 rfl ?_
  refine w_iload_n rJ6_bitCount_0f7a4_25 rfl ?_
  refine w_iconst rJ6_bitCount_0f7a4_26 (x := 4) (by decide) ?_
  refine w_iushr rJ6_bitCount_0f7a4_27 ?_
  refine w_iadd rJ6_bitCount_0f7a4_28 ?_
  refine w_ldc_wI rJ6_bitCount_0f7a4_29 (x := 252645135) (by decide) ?_
  refine w_iand rJ6_bitCount_0f7a4_32 ?_
  refine w_istore_n rJ6_bitCount_0f7a4_33 rfl trivial ?_
  refine w_iload_n rJ6_bitCount_0f7a4_34 rfl ?_
  refine w_iload_n rJ6_bitCount_0f7a4_35 rfl ?_
  refine w_bipush rJ6_bitCount_0f7a4_36 (x := 8) (by decide) ?_
  refine w_iushr rJ6_bitCount_0f7a4_38 ?_
  refine w_iadd rJ6_bitCount_0f7a4_39 ?_
  refine w_istore_n rJ6_bitCount_0f7a4_40 rfl trivial ?_
  refine w_iload_n rJ6_bitCount_0f7a4_41 rfl ?_
  refine w_iload_n rJ6_bitCount_0f7a4_42 rfl ?_
  refine w_bipush rJ6_bitCount_0f7a4_43 (x := 16) (by decide) ?_
  refine w_iushr rJ6_bitCount_0f7a4_45 ?_
  refine w_iadd rJ6_bitCount_0f7a4_46 ?_
  refine w_istore_n rJ6_bitCount_0f7a4_47 rfl trivial ?_
  refine w_iload_n rJ6_bitCount_0f7a4_48 rfl ?_
  refine w_bipush rJ6_bitCount_0f7a4_49 (x := 63) (by decide) ?_
  refine w_iand rJ6_bitCount_0f7a4_51 ?_
  refine w_ireturn rJ6_bitCount_0f7a4_52 trivial ?_
  exact q
def f_J9_max_7cf53 (x : Int32) (y : Int32) : Int32 := (if x < y then y else x : Int32)
theorem s_J9_max_7cf53 {X : Nat × (Nat → Int32)} {I : Nat → Nat → Int32} {L : Nat → Nat → Int64} {F : Nat → Nat → UInt32} {Q : AQ} {x : Int32} {y : Int32} (q : Q (.inl (some (.int (f_J9_max_7cf53 x y)))) (G X I L F)) : WP mJ9_max_7cf53 0 (am_ent 2 [.int x, .int y]) [] (G X I L F) 0 0 Q := by
  unfold f_J9_max_7cf53 at q
  refine w_iload_n rJ9_max_7cf53_0 rfl ?_
  refine w_iload_n rJ9_max_7cf53_1 rfl ?_
  have j2 : ∀ s2_0 : Int32, s2_0 = (if x < y then y else x : Int32) → WP mJ9_max_7cf53 10 [some (.int x), some (.int y)] [.int s2_0] (G X I L F) 0 0 Q := by
    intro s2_0 es2_0
    subst es2_0
    skip
    refine w_ireturn rJ9_max_7cf53_10 trivial ?_
    exact q
  refine w_icmplt rJ9_max_7cf53_2 (fun h2 => ?_) (fun h2 => ?_)
  · skip
    refine w_iload_n rJ9_max_7cf53_9 rfl ?_
    exact j2 _ (if_pos h2).symm
  · skip
    refine w_iload_n rJ9_max_7cf53_5 rfl ?_
    refine w_goto rJ9_max_7cf53_6 ?_
    exact j2 _ (if_neg h2).symm
def f_J9_min_7cf53 (x : Int32) (y : Int32) : Int32 := (if y < x then y else x : Int32)
theorem s_J9_min_7cf53 {X : Nat × (Nat → Int32)} {I : Nat → Nat → Int32} {L : Nat → Nat → Int64} {F : Nat → Nat → UInt32} {Q : AQ} {x : Int32} {y : Int32} (q : Q (.inl (some (.int (f_J9_min_7cf53 x y)))) (G X I L F)) : WP mJ9_min_7cf53 0 (am_ent 2 [.int x, .int y]) [] (G X I L F) 0 0 Q := by
  unfold f_J9_min_7cf53 at q
  refine w_iload_n rJ9_min_7cf53_0 rfl ?_
  refine w_iload_n rJ9_min_7cf53_1 rfl ?_
  have j2 : ∀ s2_0 : Int32, s2_0 = (if y < x then y else x : Int32) → WP mJ9_min_7cf53 10 [some (.int x), some (.int y)] [.int s2_0] (G X I L F) 0 0 Q := by
    intro s2_0 es2_0
    subst es2_0
    skip
    refine w_ireturn rJ9_min_7cf53_10 trivial ?_
    exact q
  refine w_icmpgt rJ9_min_7cf53_2 (fun h2 => ?_) (fun h2 => ?_)
  · skip
    refine w_iload_n rJ9_min_7cf53_9 rfl ?_
    exact j2 _ (if_pos h2).symm
  · skip
    refine w_iload_n rJ9_min_7cf53_5 rfl ?_
    refine w_goto rJ9_min_7cf53_6 ?_
    exact j2 _ (if_neg h2).symm
def f_J0_coder_7d493  : Int32 := 0
theorem s_J0_coder_7d493 {X : Nat × (Nat → Int32)} {I : Nat → Nat → Int32} {L : Nat → Nat → Int64} {F : Nat → Nat → UInt32} {Q : AQ}  (q : Q (.inl (some (.int f_J0_coder_7d493))) (G X I L F)) : WP mJ0_coder_7d493 0 (am_ent 1 [.ref 1000001]) [] (G X I L F) 0 0 Q := by
  unfold f_J0_coder_7d493 at q
  refine w_getstatic rJ0_coder_7d493_0 (x := 1) (by decide) ?_
  refine w_ifeq rJ0_coder_7d493_3 (fun h => absurd h (show ¬ (1 : Int32) = 0 from by decide)) (fun _ => ?_)
  refine w_aload_n rJ0_coder_7d493_6 rfl ?_
  refine w_getSc rJ0_coder_7d493_7 ?_
  refine w_goto rJ0_coder_7d493_10 ?_
  refine w_ireturn rJ0_coder_7d493_14 (Or.inl rfl) ?_
  exact q
theorem b01_J0_coder_7d493  : f_J0_coder_7d493 = 0 ∨ f_J0_coder_7d493 = 1 := by
  unfold f_J0_coder_7d493
  repeat' first | refine b01_ite ?_ ?_ | exact Or.inl rfl | exact Or.inr rfl
def f_J0_isLatin1_aae02  : Int32 := 1
theorem s_J0_isLatin1_aae02 {X : Nat × (Nat → Int32)} {I : Nat → Nat → Int32} {L : Nat → Nat → Int64} {F : Nat → Nat → UInt32} {Q : AQ}  (q : Q (.inl (some (.int f_J0_isLatin1_aae02))) (G X I L F)) : WP mJ0_isLatin1_aae02 0 (am_ent 1 [.ref 1000001]) [] (G X I L F) 0 0 Q := by
  unfold f_J0_isLatin1_aae02 at q
  refine w_getstatic rJ0_isLatin1_aae02_0 (x := 1) (by decide) ?_
  refine w_ifeq rJ0_isLatin1_aae02_3 (fun h => absurd h (show ¬ (1 : Int32) = 0 from by decide)) (fun _ => ?_)
  refine w_aload_n rJ0_isLatin1_aae02_6 rfl ?_
  refine w_getSc rJ0_isLatin1_aae02_7 ?_
  refine w_ifne rJ0_isLatin1_aae02_10 (fun h => absurd (show (0 : Int32) = 0 from by decide) h) (fun _ => ?_)
  refine w_iconst rJ0_isLatin1_aae02_13 (x := 1) (by decide) ?_
  refine w_goto rJ0_isLatin1_aae02_14 ?_
  refine w_ireturn rJ0_isLatin1_aae02_18 (Or.inr rfl) ?_
  exact q
theorem b01_J0_isLatin1_aae02  : f_J0_isLatin1_aae02 = 0 ∨ f_J0_isLatin1_aae02 = 1 := by
  unfold f_J0_isLatin1_aae02
  repeat' first | refine b01_ite ?_ ?_ | exact Or.inl rfl | exact Or.inr rfl
def f_J1_canEncode_9a6ad (ch : Int32) : Int32 := (if ch < 0 then 0 else (if 255 < ch then 0 else 1 : Int32) : Int32)
theorem s_J1_canEncode_9a6ad {X : Nat × (Nat → Int32)} {I : Nat → Nat → Int32} {L : Nat → Nat → Int64} {F : Nat → Nat → UInt32} {Q : AQ} {ch : Int32} (q : Q (.inl (some (.int (f_J1_canEncode_9a6ad ch)))) (G X I L F)) : WP mJ1_canEncode_9a6ad 0 (am_ent 1 [.int ch]) [] (G X I L F) 0 0 Q := by
  unfold f_J1_canEncode_9a6ad at q
  refine w_iload_n rJ1_canEncode_9a6ad_0 rfl ?_
  have j1 : ∀ s1_0 : Int32, s1_0 = (if ch < 0 then 0 else (if 255 < ch then 0 else 1 : Int32) : Int32) → WP mJ1_canEncode_9a6ad 16 [some (.int ch)] [.int s1_0] (G X I L F) 0 0 Q := by
    intro s1_0 es1_0
    subst es1_0
    skip
    refine w_ireturn rJ1_canEncode_9a6ad_16 (show (if ch < 0 then 0 else (if 255 < ch then 0 else 1 : Int32) : Int32) = 0 ∨ (if ch < 0 then 0 else (if 255 < ch then 0 else 1 : Int32) : Int32) = 1 from by repeat' first | refine b01_ite ?_ ?_ | exact Or.inl rfl | exact Or.inr rfl) ?_
    exact q
  refine w_iflt rJ1_canEncode_9a6ad_1 (fun h1 => ?_) (fun h1 => ?_)
  · skip
    refine w_iconst rJ1_canEncode_9a6ad_15 (x := 0) (by decide) ?_
    exact j1 _ (if_pos h1).symm
  · skip
    refine w_iload_n rJ1_canEncode_9a6ad_4 rfl ?_
    refine w_sipush rJ1_canEncode_9a6ad_5 (x := 255) (by decide) ?_
    refine w_icmpgt rJ1_canEncode_9a6ad_8 (fun h8 => ?_) (fun h8 => ?_)
    · skip
      refine w_iconst rJ1_canEncode_9a6ad_15 (x := 0) (by decide) ?_
      exact j1 _ ((if_neg h1).trans (if_pos h8)).symm
    · skip
      refine w_iconst rJ1_canEncode_9a6ad_11 (x := 1) (by decide) ?_
      refine w_goto rJ1_canEncode_9a6ad_12 ?_
      exact j1 _ ((if_neg h1).trans (if_neg h8)).symm
theorem b01_J1_canEncode_9a6ad {ch : Int32} : (f_J1_canEncode_9a6ad ch) = 0 ∨ (f_J1_canEncode_9a6ad ch) = 1 := by
  unfold f_J1_canEncode_9a6ad
  repeat' first | refine b01_ite ?_ ?_ | exact Or.inl rfl | exact Or.inr rfl
def p_X0_letThrough (o : Nat) (hour : Int32) (inflow : UInt32) (asked : UInt32) (I : Nat → Nat → Int32) (F : Nat → Nat → UInt32) : Prop := vf_n32 (FP.fadd (F o 5) inflow) ∧ (vf_n32 (FP.fsub (FP.fadd (F o 5) inflow) (if 0 ≤ (Op.cmpValue (FP.fcmp asked 0) .g) then (if (Op.cmpValue (FP.fcmp asked (FP.fadd (F o 5) inflow)) .l) ≤ 0 then asked else (FP.fadd (F o 5) inflow) : UInt32) else 0 : UInt32)) ∧ (((¬ (Op.cmpValue (FP.fcmp (FP.fsub (FP.fadd (F o 5) inflow) (if 0 ≤ (Op.cmpValue (FP.fcmp asked 0) .g) then (if (Op.cmpValue (FP.fcmp asked (FP.fadd (F o 5) inflow)) .l) ≤ 0 then asked else (FP.fadd (F o 5) inflow) : UInt32) else 0 : UInt32)) (FP.i2f (I o 4))) .l) ≤ 0 → vf_n32 (FP.fsub (FP.fsub (FP.fadd (F o 5) inflow) (if 0 ≤ (Op.cmpValue (FP.fcmp asked 0) .g) then (if (Op.cmpValue (FP.fcmp asked (FP.fadd (F o 5) inflow)) .l) ≤ 0 then asked else (FP.fadd (F o 5) inflow) : UInt32) else 0 : UInt32)) (FP.i2f (I o 4))) ∧ (True))) ∧ (vf_n32 (FP.fsub (FP.fsub (FP.fadd (F o 5) inflow) (if 0 ≤ (Op.cmpValue (FP.fcmp asked 0) .g) then (if (Op.cmpValue (FP.fcmp asked (FP.fadd (F o 5) inflow)) .l) ≤ 0 then asked else (FP.fadd (F o 5) inflow) : UInt32) else 0 : UInt32)) (if (Op.cmpValue (FP.fcmp (FP.fsub (FP.fadd (F o 5) inflow) (if 0 ≤ (Op.cmpValue (FP.fcmp asked 0) .g) then (if (Op.cmpValue (FP.fcmp asked (FP.fadd (F o 5) inflow)) .l) ≤ 0 then asked else (FP.fadd (F o 5) inflow) : UInt32) else 0 : UInt32)) (FP.i2f (I o 4))) .l) ≤ 0 then 0 else (FP.fsub (FP.fsub (FP.fadd (F o 5) inflow) (if 0 ≤ (Op.cmpValue (FP.fcmp asked 0) .g) then (if (Op.cmpValue (FP.fcmp asked (FP.fadd (F o 5) inflow)) .l) ≤ 0 then asked else (FP.fadd (F o 5) inflow) : UInt32) else 0 : UInt32)) (FP.i2f (I o 4))) : UInt32)) ∧ (((¬ (f_X9_isHour hour) = 0 → vf_n32 (FP.fadd (if 0 ≤ (Op.cmpValue (FP.fcmp asked 0) .g) then (if (Op.cmpValue (FP.fcmp asked (FP.fadd (F o 5) inflow)) .l) ≤ 0 then asked else (FP.fadd (F o 5) inflow) : UInt32) else 0 : UInt32) (if (Op.cmpValue (FP.fcmp (FP.fsub (FP.fadd (F o 5) inflow) (if 0 ≤ (Op.cmpValue (FP.fcmp asked 0) .g) then (if (Op.cmpValue (FP.fcmp asked (FP.fadd (F o 5) inflow)) .l) ≤ 0 then asked else (FP.fadd (F o 5) inflow) : UInt32) else 0 : UInt32)) (FP.i2f (I o 4))) .l) ≤ 0 then 0 else (FP.fsub (FP.fsub (FP.fadd (F o 5) inflow) (if 0 ≤ (Op.cmpValue (FP.fcmp asked 0) .g) then (if (Op.cmpValue (FP.fcmp asked (FP.fadd (F o 5) inflow)) .l) ≤ 0 then asked else (FP.fadd (F o 5) inflow) : UInt32) else 0 : UInt32)) (FP.i2f (I o 4))) : UInt32)) ∧ (True))) ∧ (True)))))
def fF_X0_letThrough (o : Nat) (hour : Int32) (inflow : UInt32) (asked : UInt32) (I : Nat → Nat → Int32) (F : Nat → Nat → UInt32) : Nat → Nat → UInt32 := (if (f_X9_isHour hour) = 0 then (am_u F o 5 (FP.fsub (FP.fsub (FP.fadd (F o 5) inflow) (if 0 ≤ (Op.cmpValue (FP.fcmp asked 0) .g) then (if (Op.cmpValue (FP.fcmp asked (FP.fadd (F o 5) inflow)) .l) ≤ 0 then asked else (FP.fadd (F o 5) inflow) : UInt32) else 0 : UInt32)) (if (Op.cmpValue (FP.fcmp (FP.fsub (FP.fadd (F o 5) inflow) (if 0 ≤ (Op.cmpValue (FP.fcmp asked 0) .g) then (if (Op.cmpValue (FP.fcmp asked (FP.fadd (F o 5) inflow)) .l) ≤ 0 then asked else (FP.fadd (F o 5) inflow) : UInt32) else 0 : UInt32)) (FP.i2f (I o 4))) .l) ≤ 0 then 0 else (FP.fsub (FP.fsub (FP.fadd (F o 5) inflow) (if 0 ≤ (Op.cmpValue (FP.fcmp asked 0) .g) then (if (Op.cmpValue (FP.fcmp asked (FP.fadd (F o 5) inflow)) .l) ≤ 0 then asked else (FP.fadd (F o 5) inflow) : UInt32) else 0 : UInt32)) (FP.i2f (I o 4))) : UInt32))) else (am_u (am_u F o 5 (FP.fsub (FP.fsub (FP.fadd (F o 5) inflow) (if 0 ≤ (Op.cmpValue (FP.fcmp asked 0) .g) then (if (Op.cmpValue (FP.fcmp asked (FP.fadd (F o 5) inflow)) .l) ≤ 0 then asked else (FP.fadd (F o 5) inflow) : UInt32) else 0 : UInt32)) (if (Op.cmpValue (FP.fcmp (FP.fsub (FP.fadd (F o 5) inflow) (if 0 ≤ (Op.cmpValue (FP.fcmp asked 0) .g) then (if (Op.cmpValue (FP.fcmp asked (FP.fadd (F o 5) inflow)) .l) ≤ 0 then asked else (FP.fadd (F o 5) inflow) : UInt32) else 0 : UInt32)) (FP.i2f (I o 4))) .l) ≤ 0 then 0 else (FP.fsub (FP.fsub (FP.fadd (F o 5) inflow) (if 0 ≤ (Op.cmpValue (FP.fcmp asked 0) .g) then (if (Op.cmpValue (FP.fcmp asked (FP.fadd (F o 5) inflow)) .l) ≤ 0 then asked else (FP.fadd (F o 5) inflow) : UInt32) else 0 : UInt32)) (FP.i2f (I o 4))) : UInt32))) (o + 4) (Int32.toNatClampNeg hour) (FP.fadd (if 0 ≤ (Op.cmpValue (FP.fcmp asked 0) .g) then (if (Op.cmpValue (FP.fcmp asked (FP.fadd (F o 5) inflow)) .l) ≤ 0 then asked else (FP.fadd (F o 5) inflow) : UInt32) else 0 : UInt32) (if (Op.cmpValue (FP.fcmp (FP.fsub (FP.fadd (F o 5) inflow) (if 0 ≤ (Op.cmpValue (FP.fcmp asked 0) .g) then (if (Op.cmpValue (FP.fcmp asked (FP.fadd (F o 5) inflow)) .l) ≤ 0 then asked else (FP.fadd (F o 5) inflow) : UInt32) else 0 : UInt32)) (FP.i2f (I o 4))) .l) ≤ 0 then 0 else (FP.fsub (FP.fsub (FP.fadd (F o 5) inflow) (if 0 ≤ (Op.cmpValue (FP.fcmp asked 0) .g) then (if (Op.cmpValue (FP.fcmp asked (FP.fadd (F o 5) inflow)) .l) ≤ 0 then asked else (FP.fadd (F o 5) inflow) : UInt32) else 0 : UInt32)) (FP.i2f (I o 4))) : UInt32))) : Nat → Nat → UInt32)
theorem s_X0_letThrough {X : Nat × (Nat → Int32)} {I : Nat → Nat → Int32} {L : Nat → Nat → Int64} {F : Nat → Nat → UInt32} {Q : AQ} {o : Nat} {hour : Int32} {inflow : UInt32} {asked : UInt32} (ho : isDam o) (p : (p_X0_letThrough o hour inflow asked I F)) (q : Q (.inl none) (G X I L (fF_X0_letThrough o hour inflow asked I F))) : WP mX0_letThrough 0 (am_ent 8 [.ref o, .int hour, .float inflow, .float asked]) [] (G X I L F) 0 0 Q := by
  unfold fF_X0_letThrough at q
  unfold p_X0_letThrough at p
  have q0 := q
  clear q
  have q : vf_n32 (FP.fadd (F o 5) inflow) ∧ (vf_n32 (FP.fsub (FP.fadd (F o 5) inflow) (if 0 ≤ (Op.cmpValue (FP.fcmp asked 0) .g) then (if (Op.cmpValue (FP.fcmp asked (FP.fadd (F o 5) inflow)) .l) ≤ 0 then asked else (FP.fadd (F o 5) inflow) : UInt32) else 0 : UInt32)) ∧ (((¬ (Op.cmpValue (FP.fcmp (FP.fsub (FP.fadd (F o 5) inflow) (if 0 ≤ (Op.cmpValue (FP.fcmp asked 0) .g) then (if (Op.cmpValue (FP.fcmp asked (FP.fadd (F o 5) inflow)) .l) ≤ 0 then asked else (FP.fadd (F o 5) inflow) : UInt32) else 0 : UInt32)) (FP.i2f (I o 4))) .l) ≤ 0 → vf_n32 (FP.fsub (FP.fsub (FP.fadd (F o 5) inflow) (if 0 ≤ (Op.cmpValue (FP.fcmp asked 0) .g) then (if (Op.cmpValue (FP.fcmp asked (FP.fadd (F o 5) inflow)) .l) ≤ 0 then asked else (FP.fadd (F o 5) inflow) : UInt32) else 0 : UInt32)) (FP.i2f (I o 4))) ∧ (True))) ∧ (vf_n32 (FP.fsub (FP.fsub (FP.fadd (F o 5) inflow) (if 0 ≤ (Op.cmpValue (FP.fcmp asked 0) .g) then (if (Op.cmpValue (FP.fcmp asked (FP.fadd (F o 5) inflow)) .l) ≤ 0 then asked else (FP.fadd (F o 5) inflow) : UInt32) else 0 : UInt32)) (if (Op.cmpValue (FP.fcmp (FP.fsub (FP.fadd (F o 5) inflow) (if 0 ≤ (Op.cmpValue (FP.fcmp asked 0) .g) then (if (Op.cmpValue (FP.fcmp asked (FP.fadd (F o 5) inflow)) .l) ≤ 0 then asked else (FP.fadd (F o 5) inflow) : UInt32) else 0 : UInt32)) (FP.i2f (I o 4))) .l) ≤ 0 then 0 else (FP.fsub (FP.fsub (FP.fadd (F o 5) inflow) (if 0 ≤ (Op.cmpValue (FP.fcmp asked 0) .g) then (if (Op.cmpValue (FP.fcmp asked (FP.fadd (F o 5) inflow)) .l) ≤ 0 then asked else (FP.fadd (F o 5) inflow) : UInt32) else 0 : UInt32)) (FP.i2f (I o 4))) : UInt32)) ∧ (((¬ (f_X9_isHour hour) = 0 → vf_n32 (FP.fadd (if 0 ≤ (Op.cmpValue (FP.fcmp asked 0) .g) then (if (Op.cmpValue (FP.fcmp asked (FP.fadd (F o 5) inflow)) .l) ≤ 0 then asked else (FP.fadd (F o 5) inflow) : UInt32) else 0 : UInt32) (if (Op.cmpValue (FP.fcmp (FP.fsub (FP.fadd (F o 5) inflow) (if 0 ≤ (Op.cmpValue (FP.fcmp asked 0) .g) then (if (Op.cmpValue (FP.fcmp asked (FP.fadd (F o 5) inflow)) .l) ≤ 0 then asked else (FP.fadd (F o 5) inflow) : UInt32) else 0 : UInt32)) (FP.i2f (I o 4))) .l) ≤ 0 then 0 else (FP.fsub (FP.fsub (FP.fadd (F o 5) inflow) (if 0 ≤ (Op.cmpValue (FP.fcmp asked 0) .g) then (if (Op.cmpValue (FP.fcmp asked (FP.fadd (F o 5) inflow)) .l) ≤ 0 then asked else (FP.fadd (F o 5) inflow) : UInt32) else 0 : UInt32)) (FP.i2f (I o 4))) : UInt32)) ∧ (True))) ∧ (Q (.inl none) (G X I L (if (f_X9_isHour hour) = 0 then (am_u F o 5 (FP.fsub (FP.fsub (FP.fadd (F o 5) inflow) (if 0 ≤ (Op.cmpValue (FP.fcmp asked 0) .g) then (if (Op.cmpValue (FP.fcmp asked (FP.fadd (F o 5) inflow)) .l) ≤ 0 then asked else (FP.fadd (F o 5) inflow) : UInt32) else 0 : UInt32)) (if (Op.cmpValue (FP.fcmp (FP.fsub (FP.fadd (F o 5) inflow) (if 0 ≤ (Op.cmpValue (FP.fcmp asked 0) .g) then (if (Op.cmpValue (FP.fcmp asked (FP.fadd (F o 5) inflow)) .l) ≤ 0 then asked else (FP.fadd (F o 5) inflow) : UInt32) else 0 : UInt32)) (FP.i2f (I o 4))) .l) ≤ 0 then 0 else (FP.fsub (FP.fsub (FP.fadd (F o 5) inflow) (if 0 ≤ (Op.cmpValue (FP.fcmp asked 0) .g) then (if (Op.cmpValue (FP.fcmp asked (FP.fadd (F o 5) inflow)) .l) ≤ 0 then asked else (FP.fadd (F o 5) inflow) : UInt32) else 0 : UInt32)) (FP.i2f (I o 4))) : UInt32))) else (am_u (am_u F o 5 (FP.fsub (FP.fsub (FP.fadd (F o 5) inflow) (if 0 ≤ (Op.cmpValue (FP.fcmp asked 0) .g) then (if (Op.cmpValue (FP.fcmp asked (FP.fadd (F o 5) inflow)) .l) ≤ 0 then asked else (FP.fadd (F o 5) inflow) : UInt32) else 0 : UInt32)) (if (Op.cmpValue (FP.fcmp (FP.fsub (FP.fadd (F o 5) inflow) (if 0 ≤ (Op.cmpValue (FP.fcmp asked 0) .g) then (if (Op.cmpValue (FP.fcmp asked (FP.fadd (F o 5) inflow)) .l) ≤ 0 then asked else (FP.fadd (F o 5) inflow) : UInt32) else 0 : UInt32)) (FP.i2f (I o 4))) .l) ≤ 0 then 0 else (FP.fsub (FP.fsub (FP.fadd (F o 5) inflow) (if 0 ≤ (Op.cmpValue (FP.fcmp asked 0) .g) then (if (Op.cmpValue (FP.fcmp asked (FP.fadd (F o 5) inflow)) .l) ≤ 0 then asked else (FP.fadd (F o 5) inflow) : UInt32) else 0 : UInt32)) (FP.i2f (I o 4))) : UInt32))) (o + 4) (Int32.toNatClampNeg hour) (FP.fadd (if 0 ≤ (Op.cmpValue (FP.fcmp asked 0) .g) then (if (Op.cmpValue (FP.fcmp asked (FP.fadd (F o 5) inflow)) .l) ≤ 0 then asked else (FP.fadd (F o 5) inflow) : UInt32) else 0 : UInt32) (if (Op.cmpValue (FP.fcmp (FP.fsub (FP.fadd (F o 5) inflow) (if 0 ≤ (Op.cmpValue (FP.fcmp asked 0) .g) then (if (Op.cmpValue (FP.fcmp asked (FP.fadd (F o 5) inflow)) .l) ≤ 0 then asked else (FP.fadd (F o 5) inflow) : UInt32) else 0 : UInt32)) (FP.i2f (I o 4))) .l) ≤ 0 then 0 else (FP.fsub (FP.fsub (FP.fadd (F o 5) inflow) (if 0 ≤ (Op.cmpValue (FP.fcmp asked 0) .g) then (if (Op.cmpValue (FP.fcmp asked (FP.fadd (F o 5) inflow)) .l) ≤ 0 then asked else (FP.fadd (F o 5) inflow) : UInt32) else 0 : UInt32)) (FP.i2f (I o 4))) : UInt32))) : Nat → Nat → UInt32))))))) := by
    exact ⟨p.1, p.2.1, p.2.2.1, p.2.2.2.1, p.2.2.2.2.1, q0⟩
  clear p q0
  refine w_aload_n rX0_letThrough_0 rfl ?_
  refine x_getF rX0_letThrough_1 rfl rfl (G_isk ho.1) ?_
  refine w_fload_n rX0_letThrough_4 rfl ?_
  refine w_fadd rX0_letThrough_5 q.1 ?_
  replace q := q.2
  refine w_fstore rX0_letThrough_6 rfl trivial ?_
  refine w_fload_n rX0_letThrough_8 rfl ?_
  refine w_fconst rX0_letThrough_9 (x := 0) rfl ?_
  refine w_fcmp rX0_letThrough_10 ?_
  have j11 : ∀ s11_0 : UInt32, s11_0 = (if 0 ≤ (Op.cmpValue (FP.fcmp asked 0) .g) then (if (Op.cmpValue (FP.fcmp asked (FP.fadd (F o 5) inflow)) .l) ≤ 0 then asked else (FP.fadd (F o 5) inflow) : UInt32) else 0 : UInt32) → WP mX0_letThrough 31 [some (.ref o), some (.int hour), some (.float inflow), some (.float asked), some (.float (FP.fadd (F o 5) inflow)), none, none, none] [.float s11_0] (G X I L F) 0 0 Q := by
    intro s11_0 es11_0
    subst es11_0
    skip
    refine w_fstore rX0_letThrough_31 rfl trivial ?_
    refine w_fload rX0_letThrough_33 rfl ?_
    refine w_fload rX0_letThrough_35 rfl ?_
    refine w_fsub rX0_letThrough_37 q.1 ?_
    replace q := q.2
    refine w_fstore rX0_letThrough_38 rfl trivial ?_
    refine w_fload rX0_letThrough_40 rfl ?_
    refine w_aload_n rX0_letThrough_42 rfl ?_
    refine x_getI rX0_letThrough_43 rfl rfl (G_isk ho.1) ?_
    refine w_i2f rX0_letThrough_46 ?_
    refine w_fcmp rX0_letThrough_47 ?_
    have j48 : ∀ s48_0 : UInt32, s48_0 = (if (Op.cmpValue (FP.fcmp (FP.fsub (FP.fadd (F o 5) inflow) (if 0 ≤ (Op.cmpValue (FP.fcmp asked 0) .g) then (if (Op.cmpValue (FP.fcmp asked (FP.fadd (F o 5) inflow)) .l) ≤ 0 then asked else (FP.fadd (F o 5) inflow) : UInt32) else 0 : UInt32)) (FP.i2f (I o 4))) .l) ≤ 0 then 0 else (FP.fsub (FP.fsub (FP.fadd (F o 5) inflow) (if 0 ≤ (Op.cmpValue (FP.fcmp asked 0) .g) then (if (Op.cmpValue (FP.fcmp asked (FP.fadd (F o 5) inflow)) .l) ≤ 0 then asked else (FP.fadd (F o 5) inflow) : UInt32) else 0 : UInt32)) (FP.i2f (I o 4))) : UInt32) → WP mX0_letThrough 63 [some (.ref o), some (.int hour), some (.float inflow), some (.float asked), some (.float (FP.fadd (F o 5) inflow)), some (.float (if 0 ≤ (Op.cmpValue (FP.fcmp asked 0) .g) then (if (Op.cmpValue (FP.fcmp asked (FP.fadd (F o 5) inflow)) .l) ≤ 0 then asked else (FP.fadd (F o 5) inflow) : UInt32) else 0 : UInt32)), some (.float (FP.fsub (FP.fadd (F o 5) inflow) (if 0 ≤ (Op.cmpValue (FP.fcmp asked 0) .g) then (if (Op.cmpValue (FP.fcmp asked (FP.fadd (F o 5) inflow)) .l) ≤ 0 then asked else (FP.fadd (F o 5) inflow) : UInt32) else 0 : UInt32))), none] [.float s48_0] (G X I L F) 0 0 Q := by
      intro s48_0 es48_0
      subst es48_0
      skip
      replace q := q.2
      refine w_fstore rX0_letThrough_63 rfl trivial ?_
      refine w_aload_n rX0_letThrough_65 rfl ?_
      refine w_fload rX0_letThrough_66 rfl ?_
      refine w_fload rX0_letThrough_68 rfl ?_
      refine w_fsub rX0_letThrough_70 q.1 ?_
      replace q := q.2
      refine x_putF rX0_letThrough_71 rfl (G_isk ho.1) ?_
      refine w_iload_n rX0_letThrough_74 rfl ?_
      refine w_invokestatic rX0_letThrough_75 rfl rfl rfl (Nat.le_of_ble_eq_true rfl) ⟨trivial, trivial⟩ trivial (by decide) (by decide) ?_
      refine s_X9_isHour ?_
      show WP mX0_letThrough 78 _ _ _ 0 0 _
      have j78 : ∀ F78 : Nat → Nat → UInt32, F78 = (if (f_X9_isHour hour) = 0 then (am_u F o 5 (FP.fsub (FP.fsub (FP.fadd (F o 5) inflow) (if 0 ≤ (Op.cmpValue (FP.fcmp asked 0) .g) then (if (Op.cmpValue (FP.fcmp asked (FP.fadd (F o 5) inflow)) .l) ≤ 0 then asked else (FP.fadd (F o 5) inflow) : UInt32) else 0 : UInt32)) (if (Op.cmpValue (FP.fcmp (FP.fsub (FP.fadd (F o 5) inflow) (if 0 ≤ (Op.cmpValue (FP.fcmp asked 0) .g) then (if (Op.cmpValue (FP.fcmp asked (FP.fadd (F o 5) inflow)) .l) ≤ 0 then asked else (FP.fadd (F o 5) inflow) : UInt32) else 0 : UInt32)) (FP.i2f (I o 4))) .l) ≤ 0 then 0 else (FP.fsub (FP.fsub (FP.fadd (F o 5) inflow) (if 0 ≤ (Op.cmpValue (FP.fcmp asked 0) .g) then (if (Op.cmpValue (FP.fcmp asked (FP.fadd (F o 5) inflow)) .l) ≤ 0 then asked else (FP.fadd (F o 5) inflow) : UInt32) else 0 : UInt32)) (FP.i2f (I o 4))) : UInt32))) else (am_u (am_u F o 5 (FP.fsub (FP.fsub (FP.fadd (F o 5) inflow) (if 0 ≤ (Op.cmpValue (FP.fcmp asked 0) .g) then (if (Op.cmpValue (FP.fcmp asked (FP.fadd (F o 5) inflow)) .l) ≤ 0 then asked else (FP.fadd (F o 5) inflow) : UInt32) else 0 : UInt32)) (if (Op.cmpValue (FP.fcmp (FP.fsub (FP.fadd (F o 5) inflow) (if 0 ≤ (Op.cmpValue (FP.fcmp asked 0) .g) then (if (Op.cmpValue (FP.fcmp asked (FP.fadd (F o 5) inflow)) .l) ≤ 0 then asked else (FP.fadd (F o 5) inflow) : UInt32) else 0 : UInt32)) (FP.i2f (I o 4))) .l) ≤ 0 then 0 else (FP.fsub (FP.fsub (FP.fadd (F o 5) inflow) (if 0 ≤ (Op.cmpValue (FP.fcmp asked 0) .g) then (if (Op.cmpValue (FP.fcmp asked (FP.fadd (F o 5) inflow)) .l) ≤ 0 then asked else (FP.fadd (F o 5) inflow) : UInt32) else 0 : UInt32)) (FP.i2f (I o 4))) : UInt32))) (o + 4) (Int32.toNatClampNeg hour) (FP.fadd (if 0 ≤ (Op.cmpValue (FP.fcmp asked 0) .g) then (if (Op.cmpValue (FP.fcmp asked (FP.fadd (F o 5) inflow)) .l) ≤ 0 then asked else (FP.fadd (F o 5) inflow) : UInt32) else 0 : UInt32) (if (Op.cmpValue (FP.fcmp (FP.fsub (FP.fadd (F o 5) inflow) (if 0 ≤ (Op.cmpValue (FP.fcmp asked 0) .g) then (if (Op.cmpValue (FP.fcmp asked (FP.fadd (F o 5) inflow)) .l) ≤ 0 then asked else (FP.fadd (F o 5) inflow) : UInt32) else 0 : UInt32)) (FP.i2f (I o 4))) .l) ≤ 0 then 0 else (FP.fsub (FP.fsub (FP.fadd (F o 5) inflow) (if 0 ≤ (Op.cmpValue (FP.fcmp asked 0) .g) then (if (Op.cmpValue (FP.fcmp asked (FP.fadd (F o 5) inflow)) .l) ≤ 0 then asked else (FP.fadd (F o 5) inflow) : UInt32) else 0 : UInt32)) (FP.i2f (I o 4))) : UInt32))) : Nat → Nat → UInt32) → WP mX0_letThrough 92 [some (.ref o), some (.int hour), some (.float inflow), some (.float asked), some (.float (FP.fadd (F o 5) inflow)), some (.float (if 0 ≤ (Op.cmpValue (FP.fcmp asked 0) .g) then (if (Op.cmpValue (FP.fcmp asked (FP.fadd (F o 5) inflow)) .l) ≤ 0 then asked else (FP.fadd (F o 5) inflow) : UInt32) else 0 : UInt32)), some (.float (FP.fsub (FP.fadd (F o 5) inflow) (if 0 ≤ (Op.cmpValue (FP.fcmp asked 0) .g) then (if (Op.cmpValue (FP.fcmp asked (FP.fadd (F o 5) inflow)) .l) ≤ 0 then asked else (FP.fadd (F o 5) inflow) : UInt32) else 0 : UInt32))), some (.float (if (Op.cmpValue (FP.fcmp (FP.fsub (FP.fadd (F o 5) inflow) (if 0 ≤ (Op.cmpValue (FP.fcmp asked 0) .g) then (if (Op.cmpValue (FP.fcmp asked (FP.fadd (F o 5) inflow)) .l) ≤ 0 then asked else (FP.fadd (F o 5) inflow) : UInt32) else 0 : UInt32)) (FP.i2f (I o 4))) .l) ≤ 0 then 0 else (FP.fsub (FP.fsub (FP.fadd (F o 5) inflow) (if 0 ≤ (Op.cmpValue (FP.fcmp asked 0) .g) then (if (Op.cmpValue (FP.fcmp asked (FP.fadd (F o 5) inflow)) .l) ≤ 0 then asked else (FP.fadd (F o 5) inflow) : UInt32) else 0 : UInt32)) (FP.i2f (I o 4))) : UInt32))] [] (G X I L F78) 0 0 Q := by
        intro F78 eF78
        subst eF78
        skip
        replace q := q.2
        refine w_return rX0_letThrough_92 ?_
        exact q
      replace q := q.1
      refine w_ifeq rX0_letThrough_78 (fun h78 => ?_) (fun h78 => ?_)
      · skip
        exact j78 _ (if_pos h78).symm
      · replace q := q h78
        refine w_aload_n rX0_letThrough_81 rfl ?_
        refine w_getR rX0_letThrough_82 rfl rfl (G_isk ho.1) ho.2.2.1 ?_
        refine w_iload_n rX0_letThrough_85 rfl ?_
        refine w_fload rX0_letThrough_86 rfl ?_
        refine w_fload rX0_letThrough_88 rfl ?_
        refine w_fadd rX0_letThrough_90 q.1 ?_
        replace q := q.2
        refine x_fastore rX0_letThrough_91 (G_atk ho.2.2.2.2 (gd_X9_isHour h78)) ?_
        exact j78 _ (if_neg h78).symm
    replace q := q.1
    refine w_ifle rX0_letThrough_48 (fun h48 => ?_) (fun h48 => ?_)
    · skip
      refine w_fconst rX0_letThrough_62 (x := 0) rfl ?_
      exact j48 _ (if_pos h48).symm
    · replace q := q h48
      refine w_fload rX0_letThrough_51 rfl ?_
      refine w_aload_n rX0_letThrough_53 rfl ?_
      refine x_getI rX0_letThrough_54 rfl rfl (G_isk ho.1) ?_
      refine w_i2f rX0_letThrough_57 ?_
      refine w_fsub rX0_letThrough_58 q.1 ?_
      replace q := q.2
      refine w_goto rX0_letThrough_59 ?_
      exact j48 _ (if_neg h48).symm
  refine w_ifge rX0_letThrough_11 (fun h11 => ?_) (fun h11 => ?_)
  · skip
    refine w_fload_n rX0_letThrough_18 rfl ?_
    refine w_fload rX0_letThrough_19 rfl ?_
    refine w_fcmp rX0_letThrough_21 ?_
    refine w_ifle rX0_letThrough_22 (fun h22 => ?_) (fun h22 => ?_)
    · skip
      refine w_fload_n rX0_letThrough_30 rfl ?_
      exact j11 _ ((if_pos h11).trans (if_pos h22)).symm
    · skip
      refine w_fload rX0_letThrough_25 rfl ?_
      refine w_goto rX0_letThrough_27 ?_
      exact j11 _ ((if_pos h11).trans (if_neg h22)).symm
  · skip
    refine w_fconst rX0_letThrough_14 (x := 0) rfl ?_
    refine w_goto rX0_letThrough_15 ?_
    exact j11 _ (if_neg h11).symm
def f_X3_startsFunction (kind : Int32) (commas : Int32) (I : Nat → Nat → Int32) : Int32 := (f_X3_hold kind commas (am_u I 3 4 5))
def fI_X3_startsFunction (kind : Int32) (commas : Int32) (I : Nat → Nat → Int32) : Nat → Nat → Int32 := (fI_X3_hold kind commas (am_u I 3 4 5))
theorem s_X3_startsFunction {X : Nat × (Nat → Int32)} {I : Nat → Nat → Int32} {L : Nat → Nat → Int64} {F : Nat → Nat → UInt32} {Q : AQ} {kind : Int32} {commas : Int32} (q : Q (.inl (some (.int (f_X3_startsFunction kind commas I)))) (G X (fI_X3_startsFunction kind commas I) L F)) : WP mX3_startsFunction 0 (am_ent 3 [.ref 3, .int kind, .int commas]) [] (G X I L F) 0 0 Q := by
  unfold f_X3_startsFunction fI_X3_startsFunction at q
  refine w_aload_n rX3_startsFunction_0 rfl ?_
  refine w_iconst rX3_startsFunction_1 (x := 5) (by decide) ?_
  refine x_putI rX3_startsFunction_2 rfl (G_is (by decide) rfl) trivial ?_
  refine w_aload_n rX3_startsFunction_5 rfl ?_
  refine w_iload_n rX3_startsFunction_6 rfl ?_
  refine w_iload_n rX3_startsFunction_7 rfl ?_
  refine w_invokevirtual rX3_startsFunction_8 rfl rfl rfl (Nat.le_of_ble_eq_true rfl) ⟨trivial, trivial, trivial, trivial⟩ (G_is (by decide) rfl) (by decide) (by decide) ?_
  refine s_X3_hold ?_
  show WP mX3_startsFunction 11 _ _ _ 0 0 _
  refine w_ireturn rX3_startsFunction_11 b01_X3_hold ?_
  exact q
theorem b01_X3_startsFunction {kind : Int32} {commas : Int32} {I : Nat → Nat → Int32} : (f_X3_startsFunction kind commas I) = 0 ∨ (f_X3_startsFunction kind commas I) = 1 := by
  unfold f_X3_startsFunction
  repeat' first | refine b01_ite ?_ ?_ | exact Or.inl rfl | exact Or.inr rfl | exact b01_X3_hold
def p_X4_operate (kind : Int32) (I : Nat → Nat → Int32) (F : Nat → Nat → UInt32) : Prop := (p_X4_take I) ∧ (((kind = 6 → vf_n32 (FP.fsub 0 (f_X4_take I F)) ∧ (True)) ∧ (¬ kind = 6 → (kind = 7 → (p_X4_take (fI_X4_take I)) ∧ ((p_X4_join kind (f_X4_take (fI_X4_take I) F) (f_X4_take I F)) ∧ (True))) ∧ (¬ kind = 7 → (kind = 8 → (p_X4_take (fI_X4_take I)) ∧ ((p_X4_join kind (f_X4_take (fI_X4_take I) F) (f_X4_take I F)) ∧ (True))) ∧ (¬ kind = 8 → (kind = 9 → (p_X4_take (fI_X4_take I)) ∧ ((p_X4_take (fI_X4_take (fI_X4_take I))) ∧ (True))) ∧ (¬ kind = 9 → (¬ kind = 10 → (kind = 11 → ((¬ 0 ≤ (Op.cmpValue (FP.fcmp (f_X4_take I F) 0) .g) → vf_n32 (FP.fsub 0 (f_X4_take I F)) ∧ (True))) ∧ (True)) ∧ (¬ kind = 11 → (p_X4_take (fI_X4_take I)) ∧ ((p_X4_join kind (f_X4_take (fI_X4_take I) F) (f_X4_take I F)) ∧ (True))))))))) ∧ (True))
def fI_X4_operate (kind : Int32) (I : Nat → Nat → Int32) (F : Nat → Nat → UInt32) : Nat → Nat → Int32 := (if kind = 6 then (fI_X4_keep (FP.fsub 0 (f_X4_take I F)) (fI_X4_take I)) else (if kind = 7 then (fI_X4_keep (f_X4_join kind (f_X4_take (fI_X4_take I) F) (f_X4_take I F)) (fI_X4_take (fI_X4_take I))) else (if kind = 8 then (fI_X4_keep (f_X4_join kind (f_X4_take (fI_X4_take I) F) (f_X4_take I F)) (fI_X4_take (fI_X4_take I))) else (if kind = 9 then (fI_X4_keep (if (Op.cmpValue (FP.fcmp (f_X4_take (fI_X4_take (fI_X4_take I)) F) 0) .l) ≤ 0 then (f_X4_take I F) else (f_X4_take (fI_X4_take I) F) : UInt32) (fI_X4_take (fI_X4_take (fI_X4_take I)))) else (if kind = 10 then (fI_X4_keep (FP.i2f (FP.f2i (f_X4_take I F))) (fI_X4_take I)) else (if kind = 11 then (fI_X4_keep (if 0 ≤ (Op.cmpValue (FP.fcmp (f_X4_take I F) 0) .g) then (f_X4_take I F) else (FP.fsub 0 (f_X4_take I F)) : UInt32) (fI_X4_take I)) else (fI_X4_keep (f_X4_join kind (f_X4_take (fI_X4_take I) F) (f_X4_take I F)) (fI_X4_take (fI_X4_take I))) : Nat → Nat → Int32) : Nat → Nat → Int32) : Nat → Nat → Int32) : Nat → Nat → Int32) : Nat → Nat → Int32) : Nat → Nat → Int32)
def fF_X4_operate (kind : Int32) (I : Nat → Nat → Int32) (F : Nat → Nat → UInt32) : Nat → Nat → UInt32 := (if kind = 6 then (fF_X4_keep (FP.fsub 0 (f_X4_take I F)) (fI_X4_take I) F) else (if kind = 7 then (fF_X4_keep (f_X4_join kind (f_X4_take (fI_X4_take I) F) (f_X4_take I F)) (fI_X4_take (fI_X4_take I)) F) else (if kind = 8 then (fF_X4_keep (f_X4_join kind (f_X4_take (fI_X4_take I) F) (f_X4_take I F)) (fI_X4_take (fI_X4_take I)) F) else (if kind = 9 then (fF_X4_keep (if (Op.cmpValue (FP.fcmp (f_X4_take (fI_X4_take (fI_X4_take I)) F) 0) .l) ≤ 0 then (f_X4_take I F) else (f_X4_take (fI_X4_take I) F) : UInt32) (fI_X4_take (fI_X4_take (fI_X4_take I))) F) else (if kind = 10 then (fF_X4_keep (FP.i2f (FP.f2i (f_X4_take I F))) (fI_X4_take I) F) else (if kind = 11 then (fF_X4_keep (if 0 ≤ (Op.cmpValue (FP.fcmp (f_X4_take I F) 0) .g) then (f_X4_take I F) else (FP.fsub 0 (f_X4_take I F)) : UInt32) (fI_X4_take I) F) else (fF_X4_keep (f_X4_join kind (f_X4_take (fI_X4_take I) F) (f_X4_take I F)) (fI_X4_take (fI_X4_take I)) F) : Nat → Nat → UInt32) : Nat → Nat → UInt32) : Nat → Nat → UInt32) : Nat → Nat → UInt32) : Nat → Nat → UInt32) : Nat → Nat → UInt32)
theorem s_X4_operate {X : Nat × (Nat → Int32)} {I : Nat → Nat → Int32} {L : Nat → Nat → Int64} {F : Nat → Nat → UInt32} {Q : AQ} {kind : Int32} (p : (p_X4_operate kind I F)) (q : Q (.inl none) (G X (fI_X4_operate kind I F) L (fF_X4_operate kind I F))) : WP mX4_operate 0 (am_ent 4 [.ref 10, .int kind]) [] (G X I L F) 0 0 Q := by
  unfold fI_X4_operate fF_X4_operate at q
  unfold p_X4_operate at p
  have q0 := q
  clear q
  have q : (p_X4_take I) ∧ (((kind = 6 → vf_n32 (FP.fsub 0 (f_X4_take I F)) ∧ (True)) ∧ (¬ kind = 6 → (kind = 7 → (p_X4_take (fI_X4_take I)) ∧ ((p_X4_join kind (f_X4_take (fI_X4_take I) F) (f_X4_take I F)) ∧ (True))) ∧ (¬ kind = 7 → (kind = 8 → (p_X4_take (fI_X4_take I)) ∧ ((p_X4_join kind (f_X4_take (fI_X4_take I) F) (f_X4_take I F)) ∧ (True))) ∧ (¬ kind = 8 → (kind = 9 → (p_X4_take (fI_X4_take I)) ∧ ((p_X4_take (fI_X4_take (fI_X4_take I))) ∧ (True))) ∧ (¬ kind = 9 → (¬ kind = 10 → (kind = 11 → ((¬ 0 ≤ (Op.cmpValue (FP.fcmp (f_X4_take I F) 0) .g) → vf_n32 (FP.fsub 0 (f_X4_take I F)) ∧ (True))) ∧ (True)) ∧ (¬ kind = 11 → (p_X4_take (fI_X4_take I)) ∧ ((p_X4_join kind (f_X4_take (fI_X4_take I) F) (f_X4_take I F)) ∧ (True))))))))) ∧ (Q (.inl none) (G X (if kind = 6 then (fI_X4_keep (FP.fsub 0 (f_X4_take I F)) (fI_X4_take I)) else (if kind = 7 then (fI_X4_keep (f_X4_join kind (f_X4_take (fI_X4_take I) F) (f_X4_take I F)) (fI_X4_take (fI_X4_take I))) else (if kind = 8 then (fI_X4_keep (f_X4_join kind (f_X4_take (fI_X4_take I) F) (f_X4_take I F)) (fI_X4_take (fI_X4_take I))) else (if kind = 9 then (fI_X4_keep (if (Op.cmpValue (FP.fcmp (f_X4_take (fI_X4_take (fI_X4_take I)) F) 0) .l) ≤ 0 then (f_X4_take I F) else (f_X4_take (fI_X4_take I) F) : UInt32) (fI_X4_take (fI_X4_take (fI_X4_take I)))) else (if kind = 10 then (fI_X4_keep (FP.i2f (FP.f2i (f_X4_take I F))) (fI_X4_take I)) else (if kind = 11 then (fI_X4_keep (if 0 ≤ (Op.cmpValue (FP.fcmp (f_X4_take I F) 0) .g) then (f_X4_take I F) else (FP.fsub 0 (f_X4_take I F)) : UInt32) (fI_X4_take I)) else (fI_X4_keep (f_X4_join kind (f_X4_take (fI_X4_take I) F) (f_X4_take I F)) (fI_X4_take (fI_X4_take I))) : Nat → Nat → Int32) : Nat → Nat → Int32) : Nat → Nat → Int32) : Nat → Nat → Int32) : Nat → Nat → Int32) : Nat → Nat → Int32) L (if kind = 6 then (fF_X4_keep (FP.fsub 0 (f_X4_take I F)) (fI_X4_take I) F) else (if kind = 7 then (fF_X4_keep (f_X4_join kind (f_X4_take (fI_X4_take I) F) (f_X4_take I F)) (fI_X4_take (fI_X4_take I)) F) else (if kind = 8 then (fF_X4_keep (f_X4_join kind (f_X4_take (fI_X4_take I) F) (f_X4_take I F)) (fI_X4_take (fI_X4_take I)) F) else (if kind = 9 then (fF_X4_keep (if (Op.cmpValue (FP.fcmp (f_X4_take (fI_X4_take (fI_X4_take I)) F) 0) .l) ≤ 0 then (f_X4_take I F) else (f_X4_take (fI_X4_take I) F) : UInt32) (fI_X4_take (fI_X4_take (fI_X4_take I))) F) else (if kind = 10 then (fF_X4_keep (FP.i2f (FP.f2i (f_X4_take I F))) (fI_X4_take I) F) else (if kind = 11 then (fF_X4_keep (if 0 ≤ (Op.cmpValue (FP.fcmp (f_X4_take I F) 0) .g) then (f_X4_take I F) else (FP.fsub 0 (f_X4_take I F)) : UInt32) (fI_X4_take I) F) else (fF_X4_keep (f_X4_join kind (f_X4_take (fI_X4_take I) F) (f_X4_take I F)) (fI_X4_take (fI_X4_take I)) F) : Nat → Nat → UInt32) : Nat → Nat → UInt32) : Nat → Nat → UInt32) : Nat → Nat → UInt32) : Nat → Nat → UInt32) : Nat → Nat → UInt32)))) := by
    exact ⟨p.1, p.2.1, q0⟩
  clear p q0
  refine w_aload_n rX4_operate_0 rfl ?_
  refine w_invokevirtual rX4_operate_1 rfl rfl rfl (Nat.le_of_ble_eq_true rfl) ⟨trivial, trivial⟩ (G_is (by decide) rfl) (by decide) (by decide) ?_
  refine s_X4_take q.1 ?_
  replace q := q.2
  show WP mX4_operate 4 _ _ _ 0 0 _
  refine w_fstore_n rX4_operate_4 rfl trivial ?_
  refine w_iload_n rX4_operate_5 rfl ?_
  have j6 : ∀ I6 : Nat → Nat → Int32, I6 = (if kind = 6 then (fI_X4_keep (FP.fsub 0 (f_X4_take I F)) (fI_X4_take I)) else (if kind = 7 then (fI_X4_keep (f_X4_join kind (f_X4_take (fI_X4_take I) F) (f_X4_take I F)) (fI_X4_take (fI_X4_take I))) else (if kind = 8 then (fI_X4_keep (f_X4_join kind (f_X4_take (fI_X4_take I) F) (f_X4_take I F)) (fI_X4_take (fI_X4_take I))) else (if kind = 9 then (fI_X4_keep (if (Op.cmpValue (FP.fcmp (f_X4_take (fI_X4_take (fI_X4_take I)) F) 0) .l) ≤ 0 then (f_X4_take I F) else (f_X4_take (fI_X4_take I) F) : UInt32) (fI_X4_take (fI_X4_take (fI_X4_take I)))) else (if kind = 10 then (fI_X4_keep (FP.i2f (FP.f2i (f_X4_take I F))) (fI_X4_take I)) else (if kind = 11 then (fI_X4_keep (if 0 ≤ (Op.cmpValue (FP.fcmp (f_X4_take I F) 0) .g) then (f_X4_take I F) else (FP.fsub 0 (f_X4_take I F)) : UInt32) (fI_X4_take I)) else (fI_X4_keep (f_X4_join kind (f_X4_take (fI_X4_take I) F) (f_X4_take I F)) (fI_X4_take (fI_X4_take I))) : Nat → Nat → Int32) : Nat → Nat → Int32) : Nat → Nat → Int32) : Nat → Nat → Int32) : Nat → Nat → Int32) : Nat → Nat → Int32) → ∀ F6 : Nat → Nat → UInt32, F6 = (if kind = 6 then (fF_X4_keep (FP.fsub 0 (f_X4_take I F)) (fI_X4_take I) F) else (if kind = 7 then (fF_X4_keep (f_X4_join kind (f_X4_take (fI_X4_take I) F) (f_X4_take I F)) (fI_X4_take (fI_X4_take I)) F) else (if kind = 8 then (fF_X4_keep (f_X4_join kind (f_X4_take (fI_X4_take I) F) (f_X4_take I F)) (fI_X4_take (fI_X4_take I)) F) else (if kind = 9 then (fF_X4_keep (if (Op.cmpValue (FP.fcmp (f_X4_take (fI_X4_take (fI_X4_take I)) F) 0) .l) ≤ 0 then (f_X4_take I F) else (f_X4_take (fI_X4_take I) F) : UInt32) (fI_X4_take (fI_X4_take (fI_X4_take I))) F) else (if kind = 10 then (fF_X4_keep (FP.i2f (FP.f2i (f_X4_take I F))) (fI_X4_take I) F) else (if kind = 11 then (fF_X4_keep (if 0 ≤ (Op.cmpValue (FP.fcmp (f_X4_take I F) 0) .g) then (f_X4_take I F) else (FP.fsub 0 (f_X4_take I F)) : UInt32) (fI_X4_take I) F) else (fF_X4_keep (f_X4_join kind (f_X4_take (fI_X4_take I) F) (f_X4_take I F)) (fI_X4_take (fI_X4_take I)) F) : Nat → Nat → UInt32) : Nat → Nat → UInt32) : Nat → Nat → UInt32) : Nat → Nat → UInt32) : Nat → Nat → UInt32) : Nat → Nat → UInt32) → ∀ d6_3 : Option Value, am_nl [d6_3] 1 → WP mX4_operate 123 [some (.ref 10), some (.int kind), some (.float (f_X4_take I F)), d6_3] [] (G X I6 L F6) 0 0 Q := by
    intro I6 eI6 F6 eF6 d6_3 nd6_3
    subst eI6
    subst eF6
    skip
    replace q := q.2
    refine w_return rX4_operate_123 ?_
    exact q
  replace q := q.1
  refine w_tsw rX4_operate_6 ?_
  refine ⟨fun h6_0 => ?_, fun h6_0 => ?_⟩
  · replace q := q.1 h6_0
    refine w_aload_n rX4_operate_44 rfl ?_
    refine w_fconst rX4_operate_45 (x := 0) rfl ?_
    refine w_fload_n rX4_operate_46 rfl ?_
    refine w_fsub rX4_operate_47 q.1 ?_
    replace q := q.2
    refine w_invokevirtual rX4_operate_48 rfl rfl rfl (Nat.le_of_ble_eq_true rfl) ⟨trivial, trivial, trivial⟩ (G_is (by decide) rfl) (by decide) (by decide) ?_
    refine s_X4_keep ?_
    show WP mX4_operate 51 _ _ _ 0 0 _
    refine w_goto rX4_operate_51 ?_
    exact j6 _ (if_pos h6_0).symm _ (if_pos h6_0).symm (none) trivial
  · replace q := q.2 h6_0
    refine ⟨fun h6_1 => ?_, fun h6_1 => ?_⟩
    · replace q := q.1 h6_1
      refine w_aload_n rX4_operate_110 rfl ?_
      refine w_iload_n rX4_operate_111 rfl ?_
      refine w_aload_n rX4_operate_112 rfl ?_
      refine w_invokevirtual rX4_operate_113 rfl rfl rfl (Nat.le_of_ble_eq_true rfl) ⟨trivial, trivial⟩ (G_is (by decide) rfl) (by decide) (by decide) ?_
      refine s_X4_take q.1 ?_
      replace q := q.2
      show WP mX4_operate 116 _ _ _ 0 0 _
      refine w_fload_n rX4_operate_116 rfl ?_
      refine w_invokestatic rX4_operate_117 rfl rfl rfl (Nat.le_of_ble_eq_true rfl) ⟨trivial, trivial, trivial, trivial⟩ trivial (by decide) (by decide) ?_
      refine s_X4_join q.1 ?_
      replace q := q.2
      show WP mX4_operate 120 _ _ _ 0 0 _
      refine w_invokevirtual rX4_operate_120 rfl rfl rfl (Nat.le_of_ble_eq_true rfl) ⟨trivial, trivial, trivial⟩ (G_is (by decide) rfl) (by decide) (by decide) ?_
      refine s_X4_keep ?_
      show WP mX4_operate 123 _ _ _ 0 0 _
      exact j6 _ ((if_neg h6_0).trans (if_pos h6_1)).symm _ ((if_neg h6_0).trans (if_pos h6_1)).symm (none) trivial
    · replace q := q.2 h6_1
      refine ⟨fun h6_2 => ?_, fun h6_2 => ?_⟩
      · replace q := q.1 h6_2
        refine w_aload_n rX4_operate_110 rfl ?_
        refine w_iload_n rX4_operate_111 rfl ?_
        refine w_aload_n rX4_operate_112 rfl ?_
        refine w_invokevirtual rX4_operate_113 rfl rfl rfl (Nat.le_of_ble_eq_true rfl) ⟨trivial, trivial⟩ (G_is (by decide) rfl) (by decide) (by decide) ?_
        refine s_X4_take q.1 ?_
        replace q := q.2
        show WP mX4_operate 116 _ _ _ 0 0 _
        refine w_fload_n rX4_operate_116 rfl ?_
        refine w_invokestatic rX4_operate_117 rfl rfl rfl (Nat.le_of_ble_eq_true rfl) ⟨trivial, trivial, trivial, trivial⟩ trivial (by decide) (by decide) ?_
        refine s_X4_join q.1 ?_
        replace q := q.2
        show WP mX4_operate 120 _ _ _ 0 0 _
        refine w_invokevirtual rX4_operate_120 rfl rfl rfl (Nat.le_of_ble_eq_true rfl) ⟨trivial, trivial, trivial⟩ (G_is (by decide) rfl) (by decide) (by decide) ?_
        refine s_X4_keep ?_
        show WP mX4_operate 123 _ _ _ 0 0 _
        exact j6 _ (((if_neg h6_0).trans (if_neg h6_1)).trans (if_pos h6_2)).symm _ (((if_neg h6_0).trans (if_neg h6_1)).trans (if_pos h6_2)).symm (none) trivial
      · replace q := q.2 h6_2
        refine ⟨fun h6_3 => ?_, fun h6_3 => ?_⟩
        · replace q := q.1 h6_3
          refine w_aload_n rX4_operate_84 rfl ?_
          refine w_invokevirtual rX4_operate_85 rfl rfl rfl (Nat.le_of_ble_eq_true rfl) ⟨trivial, trivial⟩ (G_is (by decide) rfl) (by decide) (by decide) ?_
          refine s_X4_take q.1 ?_
          replace q := q.2
          show WP mX4_operate 88 _ _ _ 0 0 _
          refine w_fstore_n rX4_operate_88 rfl trivial ?_
          refine w_aload_n rX4_operate_89 rfl ?_
          refine w_aload_n rX4_operate_90 rfl ?_
          refine w_invokevirtual rX4_operate_91 rfl rfl rfl (Nat.le_of_ble_eq_true rfl) ⟨trivial, trivial⟩ (G_is (by decide) rfl) (by decide) (by decide) ?_
          refine s_X4_take q.1 ?_
          replace q := q.2
          show WP mX4_operate 94 _ _ _ 0 0 _
          refine w_fconst rX4_operate_94 (x := 0) rfl ?_
          refine w_fcmp rX4_operate_95 ?_
          have j96 : ∀ s96_1 : UInt32, s96_1 = (if (Op.cmpValue (FP.fcmp (f_X4_take (fI_X4_take (fI_X4_take I)) F) 0) .l) ≤ 0 then (f_X4_take I F) else (f_X4_take (fI_X4_take I) F) : UInt32) → WP mX4_operate 104 [some (.ref 10), some (.int kind), some (.float (f_X4_take I F)), some (.float (f_X4_take (fI_X4_take I) F))] [.float s96_1, .ref 10] (G X (fI_X4_take (fI_X4_take (fI_X4_take I))) L F) 0 0 Q := by
            intro s96_1 es96_1
            subst es96_1
            skip
            refine w_invokevirtual rX4_operate_104 rfl rfl rfl (Nat.le_of_ble_eq_true rfl) ⟨trivial, trivial, trivial⟩ (G_is (by decide) rfl) (by decide) (by decide) ?_
            refine s_X4_keep ?_
            show WP mX4_operate 107 _ _ _ 0 0 _
            refine w_goto rX4_operate_107 ?_
            exact j6 _ ((((if_neg h6_0).trans (if_neg h6_1)).trans (if_neg h6_2)).trans (if_pos h6_3)).symm _ ((((if_neg h6_0).trans (if_neg h6_1)).trans (if_neg h6_2)).trans (if_pos h6_3)).symm (some (.float (f_X4_take (fI_X4_take I) F))) trivial
          refine w_ifle rX4_operate_96 (fun h96 => ?_) (fun h96 => ?_)
          · skip
            refine w_fload_n rX4_operate_103 rfl ?_
            exact j96 _ (if_pos h96).symm
          · skip
            refine w_fload_n rX4_operate_99 rfl ?_
            refine w_goto rX4_operate_100 ?_
            exact j96 _ (if_neg h96).symm
        · replace q := q.2 h6_3
          refine ⟨fun h6_4 => ?_, fun h6_4 => ?_⟩
          · skip
            refine w_aload_n rX4_operate_54 rfl ?_
            refine w_fload_n rX4_operate_55 rfl ?_
            refine w_f2i rX4_operate_56 ?_
            refine w_i2f rX4_operate_57 ?_
            refine w_invokevirtual rX4_operate_58 rfl rfl rfl (Nat.le_of_ble_eq_true rfl) ⟨trivial, trivial, trivial⟩ (G_is (by decide) rfl) (by decide) (by decide) ?_
            refine s_X4_keep ?_
            show WP mX4_operate 61 _ _ _ 0 0 _
            refine w_goto rX4_operate_61 ?_
            exact j6 _ (((((if_neg h6_0).trans (if_neg h6_1)).trans (if_neg h6_2)).trans (if_neg h6_3)).trans (if_pos h6_4)).symm _ (((((if_neg h6_0).trans (if_neg h6_1)).trans (if_neg h6_2)).trans (if_neg h6_3)).trans (if_pos h6_4)).symm (none) trivial
          · replace q := q h6_4
            refine ⟨fun h6_5 => ?_, fun h6_5 => ?_⟩
            · replace q := q.1 h6_5
              refine w_aload_n rX4_operate_64 rfl ?_
              refine w_fload_n rX4_operate_65 rfl ?_
              refine w_fconst rX4_operate_66 (x := 0) rfl ?_
              refine w_fcmp rX4_operate_67 ?_
              have j68 : ∀ s68_1 : UInt32, s68_1 = (if 0 ≤ (Op.cmpValue (FP.fcmp (f_X4_take I F) 0) .g) then (f_X4_take I F) else (FP.fsub 0 (f_X4_take I F)) : UInt32) → WP mX4_operate 78 [some (.ref 10), some (.int kind), some (.float (f_X4_take I F)), none] [.float s68_1, .ref 10] (G X (fI_X4_take I) L F) 0 0 Q := by
                intro s68_1 es68_1
                subst es68_1
                skip
                replace q := q.2
                refine w_invokevirtual rX4_operate_78 rfl rfl rfl (Nat.le_of_ble_eq_true rfl) ⟨trivial, trivial, trivial⟩ (G_is (by decide) rfl) (by decide) (by decide) ?_
                refine s_X4_keep ?_
                show WP mX4_operate 81 _ _ _ 0 0 _
                refine w_goto rX4_operate_81 ?_
                exact j6 _ ((((((if_neg h6_0).trans (if_neg h6_1)).trans (if_neg h6_2)).trans (if_neg h6_3)).trans (if_neg h6_4)).trans (if_pos h6_5)).symm _ ((((((if_neg h6_0).trans (if_neg h6_1)).trans (if_neg h6_2)).trans (if_neg h6_3)).trans (if_neg h6_4)).trans (if_pos h6_5)).symm (none) trivial
              replace q := q.1
              refine w_ifge rX4_operate_68 (fun h68 => ?_) (fun h68 => ?_)
              · skip
                refine w_fload_n rX4_operate_77 rfl ?_
                exact j68 _ (if_pos h68).symm
              · replace q := q h68
                refine w_fconst rX4_operate_71 (x := 0) rfl ?_
                refine w_fload_n rX4_operate_72 rfl ?_
                refine w_fsub rX4_operate_73 q.1 ?_
                replace q := q.2
                refine w_goto rX4_operate_74 ?_
                exact j68 _ (if_neg h68).symm
            · replace q := q.2 h6_5
              refine w_aload_n rX4_operate_110 rfl ?_
              refine w_iload_n rX4_operate_111 rfl ?_
              refine w_aload_n rX4_operate_112 rfl ?_
              refine w_invokevirtual rX4_operate_113 rfl rfl rfl (Nat.le_of_ble_eq_true rfl) ⟨trivial, trivial⟩ (G_is (by decide) rfl) (by decide) (by decide) ?_
              refine s_X4_take q.1 ?_
              replace q := q.2
              show WP mX4_operate 116 _ _ _ 0 0 _
              refine w_fload_n rX4_operate_116 rfl ?_
              refine w_invokestatic rX4_operate_117 rfl rfl rfl (Nat.le_of_ble_eq_true rfl) ⟨trivial, trivial, trivial, trivial⟩ trivial (by decide) (by decide) ?_
              refine s_X4_join q.1 ?_
              replace q := q.2
              show WP mX4_operate 120 _ _ _ 0 0 _
              refine w_invokevirtual rX4_operate_120 rfl rfl rfl (Nat.le_of_ble_eq_true rfl) ⟨trivial, trivial, trivial⟩ (G_is (by decide) rfl) (by decide) (by decide) ?_
              refine s_X4_keep ?_
              show WP mX4_operate 123 _ _ _ 0 0 _
              exact j6 _ ((((((if_neg h6_0).trans (if_neg h6_1)).trans (if_neg h6_2)).trans (if_neg h6_3)).trans (if_neg h6_4)).trans (if_neg h6_5)).symm _ ((((((if_neg h6_0).trans (if_neg h6_1)).trans (if_neg h6_2)).trans (if_neg h6_3)).trans (if_neg h6_4)).trans (if_neg h6_5)).symm (none) trivial
def f_X6_pinOf (ver : Int32) (model : Int32) (I : Nat → Nat → Int32) : Int32 := (if (f_X6_has ver I) = 0 then (-1) else (if (f_X9_isModel model) = 0 then (-1) else (I ((19 + 6 * Int32.toNatClampNeg ver) + 4) (Int32.toNatClampNeg model)) : Int32) : Int32)
theorem s_X6_pinOf {X : Nat × (Nat → Int32)} {I : Nat → Nat → Int32} {L : Nat → Nat → Int64} {F : Nat → Nat → UInt32} {Q : AQ} {ver : Int32} {model : Int32} (q : Q (.inl (some (.int (f_X6_pinOf ver model I)))) (G X I L F)) : WP mX6_pinOf 0 (am_ent 3 [.ref 9, .int ver, .int model]) [] (G X I L F) 0 0 Q := by
  unfold f_X6_pinOf at q
  refine w_aload_n rX6_pinOf_0 rfl ?_
  refine w_iload_n rX6_pinOf_1 rfl ?_
  refine w_invokevirtual rX6_pinOf_2 rfl rfl rfl (Nat.le_of_ble_eq_true rfl) ⟨trivial, trivial, trivial⟩ (G_is (by decide) rfl) (by decide) (by decide) ?_
  refine s_X6_has ?_
  show WP mX6_pinOf 5 _ _ _ 0 0 _
  have j5 : ∀ s5_0 : Int32, s5_0 = (if (f_X6_has ver I) = 0 then (-1) else (if (f_X9_isModel model) = 0 then (-1) else (I ((19 + 6 * Int32.toNatClampNeg ver) + 4) (Int32.toNatClampNeg model)) : Int32) : Int32) → WP mX6_pinOf 30 [some (.ref 9), some (.int ver), some (.int model)] [.int s5_0] (G X I L F) 0 0 Q := by
    intro s5_0 es5_0
    subst es5_0
    skip
    refine w_ireturn rX6_pinOf_30 trivial ?_
    exact q
  refine w_ifeq rX6_pinOf_5 (fun h5 => ?_) (fun h5 => ?_)
  · skip
    refine w_iconst rX6_pinOf_29 (x := -1) (by decide) ?_
    exact j5 _ (if_pos h5).symm
  · skip
    refine w_iload_n rX6_pinOf_8 rfl ?_
    refine w_invokestatic rX6_pinOf_9 rfl rfl rfl (Nat.le_of_ble_eq_true rfl) ⟨trivial, trivial⟩ trivial (by decide) (by decide) ?_
    refine s_X9_isModel ?_
    show WP mX6_pinOf 12 _ _ _ 0 0 _
    refine w_ifeq rX6_pinOf_12 (fun h12 => ?_) (fun h12 => ?_)
    · skip
      refine w_iconst rX6_pinOf_29 (x := -1) (by decide) ?_
      exact j5 _ ((if_neg h5).trans (if_pos h12)).symm
    · skip
      refine w_aload_n rX6_pinOf_15 rfl ?_
      refine w_getR rX6_pinOf_16 rfl rfl (G_is (by decide) rfl) (x := 13) rfl ?_
      refine w_iload_n rX6_pinOf_19 rfl ?_
      refine w_aaload rX6_pinOf_20 (G_aa (by decide) rfl rfl (gd_X6_has h5)) (ga_ver (gd_X6_has h5)) ?_
      refine w_getR rX6_pinOf_21 rfl rfl (G_isk (gi_ver (gd_X6_has h5)).1) (gi_ver (gd_X6_has h5)).2.2.1 ?_
      refine w_iload_n rX6_pinOf_24 rfl ?_
      refine x_iaload rX6_pinOf_25 (G_atk (gi_ver (gd_X6_has h5)).2.2.2.2.2.1 (gd_X9_isModel h12)) ?_
      refine w_goto rX6_pinOf_26 ?_
      exact j5 _ ((if_neg h5).trans (if_neg h12)).symm
def f_X6_giveUp (model : Int32) (I : Nat → Nat → Int32) : Int32 := (f_X6_latestOf model I)
def fI_X6_giveUp (model : Int32) (I : Nat → Nat → Int32) : Nat → Nat → Int32 := (if (f_X9_isModel model) = 0 then I else (am_u I 14 (Int32.toNatClampNeg model) (-1)) : Nat → Nat → Int32)
theorem s_X6_giveUp {X : Nat × (Nat → Int32)} {I : Nat → Nat → Int32} {L : Nat → Nat → Int64} {F : Nat → Nat → UInt32} {Q : AQ} {model : Int32} (q : Q (.inl (some (.int (f_X6_giveUp model I)))) (G X (fI_X6_giveUp model I) L F)) : WP mX6_giveUp 0 (am_ent 3 [.ref 9, .int model]) [] (G X I L F) 0 0 Q := by
  unfold f_X6_giveUp fI_X6_giveUp at q
  refine w_aload_n rX6_giveUp_0 rfl ?_
  refine w_iload_n rX6_giveUp_1 rfl ?_
  refine w_invokevirtual rX6_giveUp_2 rfl rfl rfl (Nat.le_of_ble_eq_true rfl) ⟨trivial, trivial, trivial⟩ (G_is (by decide) rfl) (by decide) (by decide) ?_
  refine s_X6_latestOf ?_
  show WP mX6_giveUp 5 _ _ _ 0 0 _
  refine w_istore_n rX6_giveUp_5 rfl trivial ?_
  refine w_iload_n rX6_giveUp_6 rfl ?_
  refine w_invokestatic rX6_giveUp_7 rfl rfl rfl (Nat.le_of_ble_eq_true rfl) ⟨trivial, trivial⟩ trivial (by decide) (by decide) ?_
  refine s_X9_isModel ?_
  show WP mX6_giveUp 10 _ _ _ 0 0 _
  have j10 : ∀ I10 : Nat → Nat → Int32, I10 = (if (f_X9_isModel model) = 0 then I else (am_u I 14 (Int32.toNatClampNeg model) (-1)) : Nat → Nat → Int32) → WP mX6_giveUp 20 [some (.ref 9), some (.int model), some (.int (f_X6_latestOf model I))] [] (G X I10 L F) 0 0 Q := by
    intro I10 eI10
    subst eI10
    skip
    refine w_iload_n rX6_giveUp_20 rfl ?_
    refine w_ireturn rX6_giveUp_21 trivial ?_
    exact q
  refine w_ifeq rX6_giveUp_10 (fun h10 => ?_) (fun h10 => ?_)
  · skip
    exact j10 _ (if_pos h10).symm
  · skip
    refine w_aload_n rX6_giveUp_13 rfl ?_
    refine w_getR rX6_giveUp_14 rfl rfl (G_is (by decide) rfl) (x := 14) rfl ?_
    refine w_iload_n rX6_giveUp_17 rfl ?_
    refine w_iconst rX6_giveUp_18 (x := -1) (by decide) ?_
    refine x_iastore rX6_giveUp_19 (G_at (by decide) rfl rfl (gd_X9_isModel h10)) ?_
    exact j10 _ (if_neg h10).symm
def p_X10_peak (run : Int32) (I : Nat → Nat → Int32) : Prop := ((¬ (f_X10_holds (if (f_X10_isRun run I) = 0 then 1 else 0 : Int32)) = 0 → vp_in run 40 ∧ (True))) ∧ (True)
def f_X10_peak (run : Int32) (I : Nat → Nat → Int32) (F : Nat → Nat → UInt32) : Int32 := (if (f_X10_holds (if (f_X10_isRun run I) = 0 then 1 else 0 : Int32)) = 0 then 0 else (f_Jxf58ca_floatToIntBits_5c35a (F 514 (Int32.toNatClampNeg run))) : Int32)
def fI_X10_peak (run : Int32) (I : Nat → Nat → Int32) : Nat → Nat → Int32 := (fI_X10_holds (if (f_X10_isRun run I) = 0 then 1 else 0 : Int32) I)
theorem s_X10_peak {X : Nat × (Nat → Int32)} {I : Nat → Nat → Int32} {L : Nat → Nat → Int64} {F : Nat → Nat → UInt32} {Q : AQ} {run : Int32} (p : (p_X10_peak run I)) (q : Q (.inl (some (.int (f_X10_peak run I F)))) (G X (fI_X10_peak run I) L F)) : WP mX10_peak 0 (am_ent 2 [.ref 498, .int run]) [] (G X I L F) 0 0 Q := by
  unfold f_X10_peak fI_X10_peak at q
  unfold p_X10_peak at p
  have q0 := q
  clear q
  have q : ((¬ (f_X10_holds (if (f_X10_isRun run I) = 0 then 1 else 0 : Int32)) = 0 → vp_in run 40 ∧ (True))) ∧ (Q (.inl (some (.int (if (f_X10_holds (if (f_X10_isRun run I) = 0 then 1 else 0 : Int32)) = 0 then 0 else (f_Jxf58ca_floatToIntBits_5c35a (F 514 (Int32.toNatClampNeg run))) : Int32)))) (G X (fI_X10_holds (if (f_X10_isRun run I) = 0 then 1 else 0 : Int32) I) L F)) := by
    exact ⟨p.1, q0⟩
  clear p q0
  refine w_aload_n rX10_peak_0 rfl ?_
  refine w_aload_n rX10_peak_1 rfl ?_
  refine w_iload_n rX10_peak_2 rfl ?_
  refine w_invokevirtual rX10_peak_3 rfl rfl rfl (Nat.le_of_ble_eq_true rfl) ⟨trivial, trivial, trivial⟩ (G_is (by decide) rfl) (by decide) (by decide) ?_
  refine s_X10_isRun ?_
  show WP mX10_peak 6 _ _ _ 0 0 _
  have j6 : ∀ s6_1 : Int32, s6_1 = (if (f_X10_isRun run I) = 0 then 1 else 0 : Int32) → WP mX10_peak 14 [some (.ref 498), some (.int run)] [.int s6_1, .ref 498] (G X I L F) 0 0 Q := by
    intro s6_1 es6_1
    subst es6_1
    skip
    refine w_invokevirtual rX10_peak_14 rfl rfl rfl (Nat.le_of_ble_eq_true rfl) ⟨trivial, trivial, trivial⟩ (G_is (by decide) rfl) (by decide) (by decide) ?_
    refine s_X10_holds ?_
    show WP mX10_peak 17 _ _ _ 0 0 _
    have j17 : ∀ s17_0 : Int32, s17_0 = (if (f_X10_holds (if (f_X10_isRun run I) = 0 then 1 else 0 : Int32)) = 0 then 0 else (f_Jxf58ca_floatToIntBits_5c35a (F 514 (Int32.toNatClampNeg run))) : Int32) → WP mX10_peak 33 [some (.ref 498), some (.int run)] [.int s17_0] (G X (fI_X10_holds (if (f_X10_isRun run I) = 0 then 1 else 0 : Int32) I) L F) 0 0 Q := by
      intro s17_0 es17_0
      subst es17_0
      skip
      replace q := q.2
      refine w_ireturn rX10_peak_33 trivial ?_
      exact q
    replace q := q.1
    refine w_ifeq rX10_peak_17 (fun h17 => ?_) (fun h17 => ?_)
    · skip
      refine w_iconst rX10_peak_32 (x := 0) (by decide) ?_
      exact j17 _ (if_pos h17).symm
    · replace q := q h17
      refine w_aload_n rX10_peak_20 rfl ?_
      refine w_getR rX10_peak_21 rfl rfl (G_is (by decide) rfl) (x := 514) rfl ?_
      refine w_iload_n rX10_peak_24 rfl ?_
      have h25 := q.1
      replace q := q.2
      refine x_faload rX10_peak_25 (G_at (by decide) rfl rfl h25) ?_
      refine w_invokestatic rX10_peak_26 rfl rfl rfl (Nat.le_of_ble_eq_true rfl) ⟨trivial, trivial⟩ trivial (by decide) (by decide) ?_
      refine s_Jxf58ca_floatToIntBits_5c35a ?_
      show WP mX10_peak 29 _ _ _ 0 0 _
      refine w_goto rX10_peak_29 ?_
      exact j17 _ (if_neg h17).symm
  refine w_ifeq rX10_peak_6 (fun h6 => ?_) (fun h6 => ?_)
  · skip
    refine w_iconst rX10_peak_13 (x := 1) (by decide) ?_
    exact j6 _ (if_pos h6).symm
  · skip
    refine w_iconst rX10_peak_9 (x := 0) (by decide) ?_
    refine w_goto rX10_peak_10 ?_
    exact j6 _ (if_neg h6).symm
def p_X10_level (dam : Int32) : Prop := ((¬ (f_X10_holds (if (f_X10_isDam dam) = 0 then 1 else 0 : Int32)) = 0 → vp_in dam 3 ∧ (True))) ∧ (True)
def f_X10_level (dam : Int32) (F : Nat → Nat → UInt32) : Int32 := (if (f_X10_holds (if (f_X10_isDam dam) = 0 then 1 else 0 : Int32)) = 0 then 0 else (f_Jxf58ca_floatToIntBits_5c35a (F 520 (Int32.toNatClampNeg dam))) : Int32)
def fI_X10_level (dam : Int32) (I : Nat → Nat → Int32) : Nat → Nat → Int32 := (fI_X10_holds (if (f_X10_isDam dam) = 0 then 1 else 0 : Int32) I)
theorem s_X10_level {X : Nat × (Nat → Int32)} {I : Nat → Nat → Int32} {L : Nat → Nat → Int64} {F : Nat → Nat → UInt32} {Q : AQ} {dam : Int32} (p : (p_X10_level dam)) (q : Q (.inl (some (.int (f_X10_level dam F)))) (G X (fI_X10_level dam I) L F)) : WP mX10_level 0 (am_ent 2 [.ref 498, .int dam]) [] (G X I L F) 0 0 Q := by
  unfold f_X10_level fI_X10_level at q
  unfold p_X10_level at p
  have q0 := q
  clear q
  have q : ((¬ (f_X10_holds (if (f_X10_isDam dam) = 0 then 1 else 0 : Int32)) = 0 → vp_in dam 3 ∧ (True))) ∧ (Q (.inl (some (.int (if (f_X10_holds (if (f_X10_isDam dam) = 0 then 1 else 0 : Int32)) = 0 then 0 else (f_Jxf58ca_floatToIntBits_5c35a (F 520 (Int32.toNatClampNeg dam))) : Int32)))) (G X (fI_X10_holds (if (f_X10_isDam dam) = 0 then 1 else 0 : Int32) I) L F)) := by
    exact ⟨p.1, q0⟩
  clear p q0
  refine w_aload_n rX10_level_0 rfl ?_
  refine w_iload_n rX10_level_1 rfl ?_
  refine w_invokestatic rX10_level_2 rfl rfl rfl (Nat.le_of_ble_eq_true rfl) ⟨trivial, trivial⟩ trivial (by decide) (by decide) ?_
  refine s_X10_isDam ?_
  show WP mX10_level 5 _ _ _ 0 0 _
  have j5 : ∀ s5_1 : Int32, s5_1 = (if (f_X10_isDam dam) = 0 then 1 else 0 : Int32) → WP mX10_level 13 [some (.ref 498), some (.int dam)] [.int s5_1, .ref 498] (G X I L F) 0 0 Q := by
    intro s5_1 es5_1
    subst es5_1
    skip
    refine w_invokevirtual rX10_level_13 rfl rfl rfl (Nat.le_of_ble_eq_true rfl) ⟨trivial, trivial, trivial⟩ (G_is (by decide) rfl) (by decide) (by decide) ?_
    refine s_X10_holds ?_
    show WP mX10_level 16 _ _ _ 0 0 _
    have j16 : ∀ s16_0 : Int32, s16_0 = (if (f_X10_holds (if (f_X10_isDam dam) = 0 then 1 else 0 : Int32)) = 0 then 0 else (f_Jxf58ca_floatToIntBits_5c35a (F 520 (Int32.toNatClampNeg dam))) : Int32) → WP mX10_level 32 [some (.ref 498), some (.int dam)] [.int s16_0] (G X (fI_X10_holds (if (f_X10_isDam dam) = 0 then 1 else 0 : Int32) I) L F) 0 0 Q := by
      intro s16_0 es16_0
      subst es16_0
      skip
      replace q := q.2
      refine w_ireturn rX10_level_32 trivial ?_
      exact q
    replace q := q.1
    refine w_ifeq rX10_level_16 (fun h16 => ?_) (fun h16 => ?_)
    · skip
      refine w_iconst rX10_level_31 (x := 0) (by decide) ?_
      exact j16 _ (if_pos h16).symm
    · replace q := q h16
      refine w_aload_n rX10_level_19 rfl ?_
      refine w_getR rX10_level_20 rfl rfl (G_is (by decide) rfl) (x := 520) rfl ?_
      refine w_iload_n rX10_level_23 rfl ?_
      have h24 := q.1
      replace q := q.2
      refine x_faload rX10_level_24 (G_at (by decide) rfl rfl h24) ?_
      refine w_invokestatic rX10_level_25 rfl rfl rfl (Nat.le_of_ble_eq_true rfl) ⟨trivial, trivial⟩ trivial (by decide) (by decide) ?_
      refine s_Jxf58ca_floatToIntBits_5c35a ?_
      show WP mX10_level 28 _ _ _ 0 0 _
      refine w_goto rX10_level_28 ?_
      exact j16 _ (if_neg h16).symm
  refine w_ifeq rX10_level_5 (fun h5 => ?_) (fun h5 => ?_)
  · skip
    refine w_iconst rX10_level_12 (x := 1) (by decide) ?_
    exact j5 _ (if_pos h5).symm
  · skip
    refine w_iconst rX10_level_8 (x := 0) (by decide) ?_
    refine w_goto rX10_level_9 ?_
    exact j5 _ (if_neg h5).symm
def p_X10_below (dam : Int32) (hour : Int32) (I : Nat → Nat → Int32) : Prop := ((¬ (f_X10_holds (if (f_X10_isDam dam) = 0 then 1 else (if (f_X10_isIn hour 0 ((I 498 1) - 1)) = 0 then 2 else 0 : Int32) : Int32)) = 0 → vp_in ((201 * dam) + hour) 603 ∧ (True))) ∧ (True)
def f_X10_below (dam : Int32) (hour : Int32) (I : Nat → Nat → Int32) (F : Nat → Nat → UInt32) : Int32 := (if (f_X10_holds (if (f_X10_isDam dam) = 0 then 1 else (if (f_X10_isIn hour 0 ((I 498 1) - 1)) = 0 then 2 else 0 : Int32) : Int32)) = 0 then 0 else (f_Jxf58ca_floatToIntBits_5c35a (F 525 (Int32.toNatClampNeg ((201 * dam) + hour)))) : Int32)
def fI_X10_below (dam : Int32) (hour : Int32) (I : Nat → Nat → Int32) : Nat → Nat → Int32 := (fI_X10_holds (if (f_X10_isDam dam) = 0 then 1 else (if (f_X10_isIn hour 0 ((I 498 1) - 1)) = 0 then 2 else 0 : Int32) : Int32) I)
theorem s_X10_below {X : Nat × (Nat → Int32)} {I : Nat → Nat → Int32} {L : Nat → Nat → Int64} {F : Nat → Nat → UInt32} {Q : AQ} {dam : Int32} {hour : Int32} (p : (p_X10_below dam hour I)) (q : Q (.inl (some (.int (f_X10_below dam hour I F)))) (G X (fI_X10_below dam hour I) L F)) : WP mX10_below 0 (am_ent 3 [.ref 498, .int dam, .int hour]) [] (G X I L F) 0 0 Q := by
  unfold f_X10_below fI_X10_below at q
  unfold p_X10_below at p
  have q0 := q
  clear q
  have q : ((¬ (f_X10_holds (if (f_X10_isDam dam) = 0 then 1 else (if (f_X10_isIn hour 0 ((I 498 1) - 1)) = 0 then 2 else 0 : Int32) : Int32)) = 0 → vp_in ((201 * dam) + hour) 603 ∧ (True))) ∧ (Q (.inl (some (.int (if (f_X10_holds (if (f_X10_isDam dam) = 0 then 1 else (if (f_X10_isIn hour 0 ((I 498 1) - 1)) = 0 then 2 else 0 : Int32) : Int32)) = 0 then 0 else (f_Jxf58ca_floatToIntBits_5c35a (F 525 (Int32.toNatClampNeg ((201 * dam) + hour)))) : Int32)))) (G X (fI_X10_holds (if (f_X10_isDam dam) = 0 then 1 else (if (f_X10_isIn hour 0 ((I 498 1) - 1)) = 0 then 2 else 0 : Int32) : Int32) I) L F)) := by
    exact ⟨p.1, q0⟩
  clear p q0
  refine w_aload_n rX10_below_0 rfl ?_
  refine w_iload_n rX10_below_1 rfl ?_
  refine w_invokestatic rX10_below_2 rfl rfl rfl (Nat.le_of_ble_eq_true rfl) ⟨trivial, trivial⟩ trivial (by decide) (by decide) ?_
  refine s_X10_isDam ?_
  show WP mX10_below 5 _ _ _ 0 0 _
  have j5 : ∀ s5_1 : Int32, s5_1 = (if (f_X10_isDam dam) = 0 then 1 else (if (f_X10_isIn hour 0 ((I 498 1) - 1)) = 0 then 2 else 0 : Int32) : Int32) → WP mX10_below 31 [some (.ref 498), some (.int dam), some (.int hour)] [.int s5_1, .ref 498] (G X I L F) 0 0 Q := by
    intro s5_1 es5_1
    subst es5_1
    skip
    refine w_invokevirtual rX10_below_31 rfl rfl rfl (Nat.le_of_ble_eq_true rfl) ⟨trivial, trivial, trivial⟩ (G_is (by decide) rfl) (by decide) (by decide) ?_
    refine s_X10_holds ?_
    show WP mX10_below 34 _ _ _ 0 0 _
    have j34 : ∀ s34_0 : Int32, s34_0 = (if (f_X10_holds (if (f_X10_isDam dam) = 0 then 1 else (if (f_X10_isIn hour 0 ((I 498 1) - 1)) = 0 then 2 else 0 : Int32) : Int32)) = 0 then 0 else (f_Jxf58ca_floatToIntBits_5c35a (F 525 (Int32.toNatClampNeg ((201 * dam) + hour)))) : Int32) → WP mX10_below 56 [some (.ref 498), some (.int dam), some (.int hour)] [.int s34_0] (G X (fI_X10_holds (if (f_X10_isDam dam) = 0 then 1 else (if (f_X10_isIn hour 0 ((I 498 1) - 1)) = 0 then 2 else 0 : Int32) : Int32) I) L F) 0 0 Q := by
      intro s34_0 es34_0
      subst es34_0
      skip
      replace q := q.2
      refine w_ireturn rX10_below_56 trivial ?_
      exact q
    replace q := q.1
    refine w_ifeq rX10_below_34 (fun h34 => ?_) (fun h34 => ?_)
    · skip
      refine w_iconst rX10_below_55 (x := 0) (by decide) ?_
      exact j34 _ (if_pos h34).symm
    · replace q := q h34
      refine w_aload_n rX10_below_37 rfl ?_
      refine w_getR rX10_below_38 rfl rfl (G_is (by decide) rfl) (x := 525) rfl ?_
      refine w_sipush rX10_below_41 (x := 201) (by decide) ?_
      refine w_iload_n rX10_below_44 rfl ?_
      refine w_imul rX10_below_45 ?_
      refine w_iload_n rX10_below_46 rfl ?_
      refine w_iadd rX10_below_47 ?_
      have h48 := q.1
      replace q := q.2
      refine x_faload rX10_below_48 (G_at (by decide) rfl rfl h48) ?_
      refine w_invokestatic rX10_below_49 rfl rfl rfl (Nat.le_of_ble_eq_true rfl) ⟨trivial, trivial⟩ trivial (by decide) (by decide) ?_
      refine s_Jxf58ca_floatToIntBits_5c35a ?_
      show WP mX10_below 52 _ _ _ 0 0 _
      refine w_goto rX10_below_52 ?_
      exact j34 _ (if_neg h34).symm
  refine w_ifne rX10_below_5 (fun h5 => ?_) (fun h5 => ?_)
  · skip
    refine w_iload_n rX10_below_12 rfl ?_
    refine w_iconst rX10_below_13 (x := 0) (by decide) ?_
    refine w_aload_n rX10_below_14 rfl ?_
    refine x_getI rX10_below_15 rfl rfl (G_is (by decide) rfl) ?_
    refine w_iconst rX10_below_18 (x := 1) (by decide) ?_
    refine w_isub rX10_below_19 ?_
    refine w_invokestatic rX10_below_20 rfl rfl rfl (Nat.le_of_ble_eq_true rfl) ⟨trivial, trivial, trivial, trivial⟩ trivial (by decide) (by decide) ?_
    refine s_X10_isIn ?_
    show WP mX10_below 23 _ _ _ 0 0 _
    refine w_ifeq rX10_below_23 (fun h23 => ?_) (fun h23 => ?_)
    · skip
      refine w_iconst rX10_below_30 (x := 2) (by decide) ?_
      exact j5 _ ((if_neg h5).trans (if_pos h23)).symm
    · skip
      refine w_iconst rX10_below_26 (x := 0) (by decide) ?_
      refine w_goto rX10_below_27 ?_
      exact j5 _ ((if_neg h5).trans (if_neg h23)).symm
  · skip
    refine w_iconst rX10_below_8 (x := 1) (by decide) ?_
    refine w_goto rX10_below_9 ?_
    exact j5 _ (if_pos h5).symm
def p_X10_trust (dam : Int32) : Prop := ((¬ (f_X10_holds (if (f_X10_isDam dam) = 0 then 1 else 0 : Int32)) = 0 → vp_in dam 3 ∧ (True))) ∧ (True)
def f_X10_trust (dam : Int32) (F : Nat → Nat → UInt32) : Int32 := (if (f_X10_holds (if (f_X10_isDam dam) = 0 then 1 else 0 : Int32)) = 0 then 0 else (f_Jxf58ca_floatToIntBits_5c35a (F 530 (Int32.toNatClampNeg dam))) : Int32)
def fI_X10_trust (dam : Int32) (I : Nat → Nat → Int32) : Nat → Nat → Int32 := (fI_X10_holds (if (f_X10_isDam dam) = 0 then 1 else 0 : Int32) I)
theorem s_X10_trust {X : Nat × (Nat → Int32)} {I : Nat → Nat → Int32} {L : Nat → Nat → Int64} {F : Nat → Nat → UInt32} {Q : AQ} {dam : Int32} (p : (p_X10_trust dam)) (q : Q (.inl (some (.int (f_X10_trust dam F)))) (G X (fI_X10_trust dam I) L F)) : WP mX10_trust 0 (am_ent 2 [.ref 498, .int dam]) [] (G X I L F) 0 0 Q := by
  unfold f_X10_trust fI_X10_trust at q
  unfold p_X10_trust at p
  have q0 := q
  clear q
  have q : ((¬ (f_X10_holds (if (f_X10_isDam dam) = 0 then 1 else 0 : Int32)) = 0 → vp_in dam 3 ∧ (True))) ∧ (Q (.inl (some (.int (if (f_X10_holds (if (f_X10_isDam dam) = 0 then 1 else 0 : Int32)) = 0 then 0 else (f_Jxf58ca_floatToIntBits_5c35a (F 530 (Int32.toNatClampNeg dam))) : Int32)))) (G X (fI_X10_holds (if (f_X10_isDam dam) = 0 then 1 else 0 : Int32) I) L F)) := by
    exact ⟨p.1, q0⟩
  clear p q0
  refine w_aload_n rX10_trust_0 rfl ?_
  refine w_iload_n rX10_trust_1 rfl ?_
  refine w_invokestatic rX10_trust_2 rfl rfl rfl (Nat.le_of_ble_eq_true rfl) ⟨trivial, trivial⟩ trivial (by decide) (by decide) ?_
  refine s_X10_isDam ?_
  show WP mX10_trust 5 _ _ _ 0 0 _
  have j5 : ∀ s5_1 : Int32, s5_1 = (if (f_X10_isDam dam) = 0 then 1 else 0 : Int32) → WP mX10_trust 13 [some (.ref 498), some (.int dam)] [.int s5_1, .ref 498] (G X I L F) 0 0 Q := by
    intro s5_1 es5_1
    subst es5_1
    skip
    refine w_invokevirtual rX10_trust_13 rfl rfl rfl (Nat.le_of_ble_eq_true rfl) ⟨trivial, trivial, trivial⟩ (G_is (by decide) rfl) (by decide) (by decide) ?_
    refine s_X10_holds ?_
    show WP mX10_trust 16 _ _ _ 0 0 _
    have j16 : ∀ s16_0 : Int32, s16_0 = (if (f_X10_holds (if (f_X10_isDam dam) = 0 then 1 else 0 : Int32)) = 0 then 0 else (f_Jxf58ca_floatToIntBits_5c35a (F 530 (Int32.toNatClampNeg dam))) : Int32) → WP mX10_trust 32 [some (.ref 498), some (.int dam)] [.int s16_0] (G X (fI_X10_holds (if (f_X10_isDam dam) = 0 then 1 else 0 : Int32) I) L F) 0 0 Q := by
      intro s16_0 es16_0
      subst es16_0
      skip
      replace q := q.2
      refine w_ireturn rX10_trust_32 trivial ?_
      exact q
    replace q := q.1
    refine w_ifeq rX10_trust_16 (fun h16 => ?_) (fun h16 => ?_)
    · skip
      refine w_iconst rX10_trust_31 (x := 0) (by decide) ?_
      exact j16 _ (if_pos h16).symm
    · replace q := q h16
      refine w_aload_n rX10_trust_19 rfl ?_
      refine w_getR rX10_trust_20 rfl rfl (G_is (by decide) rfl) (x := 530) rfl ?_
      refine w_iload_n rX10_trust_23 rfl ?_
      have h24 := q.1
      replace q := q.2
      refine x_faload rX10_trust_24 (G_at (by decide) rfl rfl h24) ?_
      refine w_invokestatic rX10_trust_25 rfl rfl rfl (Nat.le_of_ble_eq_true rfl) ⟨trivial, trivial⟩ trivial (by decide) (by decide) ?_
      refine s_Jxf58ca_floatToIntBits_5c35a ?_
      show WP mX10_trust 28 _ _ _ 0 0 _
      refine w_goto rX10_trust_28 ?_
      exact j16 _ (if_neg h16).symm
  refine w_ifeq rX10_trust_5 (fun h5 => ?_) (fun h5 => ?_)
  · skip
    refine w_iconst rX10_trust_12 (x := 1) (by decide) ?_
    exact j5 _ (if_pos h5).symm
  · skip
    refine w_iconst rX10_trust_8 (x := 0) (by decide) ?_
    refine w_goto rX10_trust_9 ?_
    exact j5 _ (if_neg h5).symm
def f_J0_length_8abf5  : Int32 := ((8 : Int32) >>> (0 &&& 31 : Int32))
theorem s_J0_length_8abf5 {X : Nat × (Nat → Int32)} {I : Nat → Nat → Int32} {L : Nat → Nat → Int64} {F : Nat → Nat → UInt32} {Q : AQ}  (q : Q (.inl (some (.int f_J0_length_8abf5))) (G X I L F)) : WP mJ0_length_8abf5 0 (am_ent 1 [.ref 1000001]) [] (G X I L F) 0 0 Q := by
  unfold f_J0_length_8abf5 at q
  refine w_aload_n rJ0_length_8abf5_0 rfl ?_
  refine w_getSv rJ0_length_8abf5_1 ?_
  refine w_lenS rJ0_length_8abf5_4 ?_
  refine w_aload_n rJ0_length_8abf5_5 rfl ?_
  refine w_invokevirtual rJ0_length_8abf5_6 rfl rfl rfl (Nat.le_of_ble_eq_true rfl) ⟨trivial, trivial⟩ rfl (by decide) (by decide) ?_
  refine s_J0_coder_7d493 ?_
  show WP mJ0_length_8abf5 9 _ _ _ 0 0 _
  refine w_ishr rJ0_length_8abf5_9 ?_
  refine w_ireturn rJ0_length_8abf5_10 trivial ?_
  exact q
def f_X3_startsFactor (ch : Int32) (I : Nat → Nat → Int32) : Int32 := (if ch = 40 then (f_X3_hold 12 0 I) else (if ch = 45 then (f_X3_hold 6 0 I) else (if ch = 97 then (f_X3_startsFunction 11 0 I) else (if ch = 102 then (if (I 3 5) = 0 then 0 else 1 : Int32) else (if ch = 103 then (if (I 3 5) = 0 then 1 else 0 : Int32) else (if ch = 104 then 1 else (if ch = 105 then (f_X3_startsFunction 9 2 I) else (if ch = 108 then (if (I 3 5) = 0 then 0 else 1 : Int32) else (if ch = 109 then (if (I 3 5) = 0 then 1 else 0 : Int32) else (if ch = 110 then (f_X3_startsFunction 8 1 I) else (if ch = 112 then (if (I 3 5) = 0 then 1 else 0 : Int32) else (if ch = 113 then (if (I 3 5) = 0 then 1 else 0 : Int32) else (if ch = 114 then (if (I 3 5) = 0 then 0 else 1 : Int32) else (if ch = 116 then (f_X3_startsFunction 10 0 I) else (if ch = 120 then (f_X3_startsFunction 7 1 I) else 0 : Int32) : Int32) : Int32) : Int32) : Int32) : Int32) : Int32) : Int32) : Int32) : Int32) : Int32) : Int32) : Int32) : Int32) : Int32)
def fI_X3_startsFactor (ch : Int32) (I : Nat → Nat → Int32) : Nat → Nat → Int32 := (if ch = 40 then (fI_X3_hold 12 0 I) else (if ch = 45 then (fI_X3_hold 6 0 I) else (if ch = 97 then (fI_X3_startsFunction 11 0 I) else (if ch = 102 then (if (I 3 5) = 0 then I else (fI_X3_endsName 18 I) : Nat → Nat → Int32) else (if ch = 103 then (if (I 3 5) = 0 then (fI_X3_startsName 0 3 I) else I : Nat → Nat → Int32) else (if ch = 104 then (fI_X3_endsName 16 I) else (if ch = 105 then (fI_X3_startsFunction 9 2 I) else (if ch = 108 then (if (I 3 5) = 0 then I else (fI_X3_endsName 17 I) : Nat → Nat → Int32) else (if ch = 109 then (if (I 3 5) = 0 then (fI_X3_startsName 3 6 I) else I : Nat → Nat → Int32) else (if ch = 110 then (fI_X3_startsFunction 8 1 I) else (if ch = 112 then (if (I 3 5) = 0 then (fI_X3_endsName 15 I) else I : Nat → Nat → Int32) else (if ch = 113 then (if (I 3 5) = 0 then (fI_X3_startsName 9 6 I) else I : Nat → Nat → Int32) else (if ch = 114 then (if (I 3 5) = 0 then I else (fI_X3_endsName 19 I) : Nat → Nat → Int32) else (if ch = 116 then (fI_X3_startsFunction 10 0 I) else (if ch = 120 then (fI_X3_startsFunction 7 1 I) else I : Nat → Nat → Int32) : Nat → Nat → Int32) : Nat → Nat → Int32) : Nat → Nat → Int32) : Nat → Nat → Int32) : Nat → Nat → Int32) : Nat → Nat → Int32) : Nat → Nat → Int32) : Nat → Nat → Int32) : Nat → Nat → Int32) : Nat → Nat → Int32) : Nat → Nat → Int32) : Nat → Nat → Int32) : Nat → Nat → Int32) : Nat → Nat → Int32)
theorem s_X3_startsFactor {X : Nat × (Nat → Int32)} {I : Nat → Nat → Int32} {L : Nat → Nat → Int64} {F : Nat → Nat → UInt32} {Q : AQ} {ch : Int32} (q : Q (.inl (some (.int (f_X3_startsFactor ch I)))) (G X (fI_X3_startsFactor ch I) L F)) : WP mX3_startsFactor 0 (am_ent 2 [.ref 3, .int ch]) [] (G X I L F) 0 0 Q := by
  unfold f_X3_startsFactor fI_X3_startsFactor at q
  refine w_iload_n rX3_startsFactor_0 rfl ?_
  have j1 : ∀ I1 : Nat → Nat → Int32, I1 = (if ch = 40 then (fI_X3_hold 12 0 I) else (if ch = 45 then (fI_X3_hold 6 0 I) else (if ch = 97 then (fI_X3_startsFunction 11 0 I) else (if ch = 102 then (if (I 3 5) = 0 then I else (fI_X3_endsName 18 I) : Nat → Nat → Int32) else (if ch = 103 then (if (I 3 5) = 0 then (fI_X3_startsName 0 3 I) else I : Nat → Nat → Int32) else (if ch = 104 then (fI_X3_endsName 16 I) else (if ch = 105 then (fI_X3_startsFunction 9 2 I) else (if ch = 108 then (if (I 3 5) = 0 then I else (fI_X3_endsName 17 I) : Nat → Nat → Int32) else (if ch = 109 then (if (I 3 5) = 0 then (fI_X3_startsName 3 6 I) else I : Nat → Nat → Int32) else (if ch = 110 then (fI_X3_startsFunction 8 1 I) else (if ch = 112 then (if (I 3 5) = 0 then (fI_X3_endsName 15 I) else I : Nat → Nat → Int32) else (if ch = 113 then (if (I 3 5) = 0 then (fI_X3_startsName 9 6 I) else I : Nat → Nat → Int32) else (if ch = 114 then (if (I 3 5) = 0 then I else (fI_X3_endsName 19 I) : Nat → Nat → Int32) else (if ch = 116 then (fI_X3_startsFunction 10 0 I) else (if ch = 120 then (fI_X3_startsFunction 7 1 I) else I : Nat → Nat → Int32) : Nat → Nat → Int32) : Nat → Nat → Int32) : Nat → Nat → Int32) : Nat → Nat → Int32) : Nat → Nat → Int32) : Nat → Nat → Int32) : Nat → Nat → Int32) : Nat → Nat → Int32) : Nat → Nat → Int32) : Nat → Nat → Int32) : Nat → Nat → Int32) : Nat → Nat → Int32) : Nat → Nat → Int32) : Nat → Nat → Int32) → ∀ s1_0 : Int32, s1_0 = (if ch = 40 then (f_X3_hold 12 0 I) else (if ch = 45 then (f_X3_hold 6 0 I) else (if ch = 97 then (f_X3_startsFunction 11 0 I) else (if ch = 102 then (if (I 3 5) = 0 then 0 else 1 : Int32) else (if ch = 103 then (if (I 3 5) = 0 then 1 else 0 : Int32) else (if ch = 104 then 1 else (if ch = 105 then (f_X3_startsFunction 9 2 I) else (if ch = 108 then (if (I 3 5) = 0 then 0 else 1 : Int32) else (if ch = 109 then (if (I 3 5) = 0 then 1 else 0 : Int32) else (if ch = 110 then (f_X3_startsFunction 8 1 I) else (if ch = 112 then (if (I 3 5) = 0 then 1 else 0 : Int32) else (if ch = 113 then (if (I 3 5) = 0 then 1 else 0 : Int32) else (if ch = 114 then (if (I 3 5) = 0 then 0 else 1 : Int32) else (if ch = 116 then (f_X3_startsFunction 10 0 I) else (if ch = 120 then (f_X3_startsFunction 7 1 I) else 0 : Int32) : Int32) : Int32) : Int32) : Int32) : Int32) : Int32) : Int32) : Int32) : Int32) : Int32) : Int32) : Int32) : Int32) : Int32) → Q (.inl (some (.int s1_0))) (G X I1 L F) := by
    intro I1 eI1 s1_0 es1_0
    subst eI1
    subst es1_0
    skip
    exact q
  refine w_lsw rX3_startsFactor_1 ?_
  refine ⟨fun h1_0 => ?_, fun h1_0 => ?_⟩
  · skip
    refine w_aload_n rX3_startsFactor_140 rfl ?_
    refine w_bipush rX3_startsFactor_141 (x := 12) (by decide) ?_
    refine w_iconst rX3_startsFactor_143 (x := 0) (by decide) ?_
    refine w_invokevirtual rX3_startsFactor_144 rfl rfl rfl (Nat.le_of_ble_eq_true rfl) ⟨trivial, trivial, trivial, trivial⟩ (G_is (by decide) rfl) (by decide) (by decide) ?_
    refine s_X3_hold ?_
    show WP mX3_startsFactor 147 _ _ _ 0 0 _
    refine w_ireturn rX3_startsFactor_147 b01_X3_hold ?_
    exact j1 _ (if_pos h1_0).symm _ (if_pos h1_0).symm
  · skip
    refine ⟨fun h1_1 => ?_, fun h1_1 => ?_⟩
    · skip
      refine w_aload_n rX3_startsFactor_132 rfl ?_
      refine w_bipush rX3_startsFactor_133 (x := 6) (by decide) ?_
      refine w_iconst rX3_startsFactor_135 (x := 0) (by decide) ?_
      refine w_invokevirtual rX3_startsFactor_136 rfl rfl rfl (Nat.le_of_ble_eq_true rfl) ⟨trivial, trivial, trivial, trivial⟩ (G_is (by decide) rfl) (by decide) (by decide) ?_
      refine s_X3_hold ?_
      show WP mX3_startsFactor 139 _ _ _ 0 0 _
      refine w_ireturn rX3_startsFactor_139 b01_X3_hold ?_
      exact j1 _ ((if_neg h1_0).trans (if_pos h1_1)).symm _ ((if_neg h1_0).trans (if_pos h1_1)).symm
    · skip
      refine ⟨fun h1_2 => ?_, fun h1_2 => ?_⟩
      · skip
        refine w_aload_n rX3_startsFactor_180 rfl ?_
        refine w_bipush rX3_startsFactor_181 (x := 11) (by decide) ?_
        refine w_iconst rX3_startsFactor_183 (x := 0) (by decide) ?_
        refine w_invokevirtual rX3_startsFactor_184 rfl rfl rfl (Nat.le_of_ble_eq_true rfl) ⟨trivial, trivial, trivial, trivial⟩ (G_is (by decide) rfl) (by decide) (by decide) ?_
        refine s_X3_startsFunction ?_
        show WP mX3_startsFactor 187 _ _ _ 0 0 _
        refine w_ireturn rX3_startsFactor_187 b01_X3_startsFunction ?_
        exact j1 _ (((if_neg h1_0).trans (if_neg h1_1)).trans (if_pos h1_2)).symm _ (((if_neg h1_0).trans (if_neg h1_1)).trans (if_pos h1_2)).symm
      · skip
        refine ⟨fun h1_3 => ?_, fun h1_3 => ?_⟩
        · skip
          refine w_aload_n rX3_startsFactor_308 rfl ?_
          refine x_getI rX3_startsFactor_309 rfl rfl (G_is (by decide) rfl) ?_
          have j312 : ∀ I312 : Nat → Nat → Int32, I312 = (if (I 3 5) = 0 then I else (fI_X3_endsName 18 I) : Nat → Nat → Int32) → ∀ s312_0 : Int32, s312_0 = (if (I 3 5) = 0 then 0 else 1 : Int32) → WP mX3_startsFactor 329 [some (.ref 3), some (.int ch)] [.int s312_0] (G X I312 L F) 0 0 Q := by
            intro I312 eI312 s312_0 es312_0
            subst eI312
            subst es312_0
            skip
            refine w_ireturn rX3_startsFactor_329 (show (if (I 3 5) = 0 then 0 else 1 : Int32) = 0 ∨ (if (I 3 5) = 0 then 0 else 1 : Int32) = 1 from by repeat' first | refine b01_ite ?_ ?_ | exact Or.inl rfl | exact Or.inr rfl) ?_
            exact j1 _ ((((if_neg h1_0).trans (if_neg h1_1)).trans (if_neg h1_2)).trans (if_pos h1_3)).symm _ ((((if_neg h1_0).trans (if_neg h1_1)).trans (if_neg h1_2)).trans (if_pos h1_3)).symm
          refine w_ifeq rX3_startsFactor_312 (fun h312 => ?_) (fun h312 => ?_)
          · skip
            refine w_iconst rX3_startsFactor_328 (x := 0) (by decide) ?_
            exact j312 _ (if_pos h312).symm _ (if_pos h312).symm
          · skip
            refine w_aload_n rX3_startsFactor_315 rfl ?_
            refine w_bipush rX3_startsFactor_316 (x := 18) (by decide) ?_
            refine w_invokevirtual rX3_startsFactor_318 rfl rfl rfl (Nat.le_of_ble_eq_true rfl) ⟨trivial, trivial, trivial⟩ (G_is (by decide) rfl) (by decide) (by decide) ?_
            refine s_X3_endsName ?_
            show WP mX3_startsFactor 321 _ _ _ 0 0 _
            refine w_ifeq rX3_startsFactor_321 (fun h => absurd h (show ¬ (1 : Int32) = 0 from by decide)) (fun _ => ?_)
            refine w_iconst rX3_startsFactor_324 (x := 1) (by decide) ?_
            refine w_goto rX3_startsFactor_325 ?_
            exact j312 _ (if_neg h312).symm _ (if_neg h312).symm
        · skip
          refine ⟨fun h1_4 => ?_, fun h1_4 => ?_⟩
          · skip
            refine w_aload_n rX3_startsFactor_217 rfl ?_
            refine x_getI rX3_startsFactor_218 rfl rfl (G_is (by decide) rfl) ?_
            have j221 : ∀ I221 : Nat → Nat → Int32, I221 = (if (I 3 5) = 0 then (fI_X3_startsName 0 3 I) else I : Nat → Nat → Int32) → ∀ s221_0 : Int32, s221_0 = (if (I 3 5) = 0 then 1 else 0 : Int32) → WP mX3_startsFactor 238 [some (.ref 3), some (.int ch)] [.int s221_0] (G X I221 L F) 0 0 Q := by
              intro I221 eI221 s221_0 es221_0
              subst eI221
              subst es221_0
              skip
              refine w_ireturn rX3_startsFactor_238 (show (if (I 3 5) = 0 then 1 else 0 : Int32) = 0 ∨ (if (I 3 5) = 0 then 1 else 0 : Int32) = 1 from by repeat' first | refine b01_ite ?_ ?_ | exact Or.inl rfl | exact Or.inr rfl) ?_
              exact j1 _ (((((if_neg h1_0).trans (if_neg h1_1)).trans (if_neg h1_2)).trans (if_neg h1_3)).trans (if_pos h1_4)).symm _ (((((if_neg h1_0).trans (if_neg h1_1)).trans (if_neg h1_2)).trans (if_neg h1_3)).trans (if_pos h1_4)).symm
            refine w_ifne rX3_startsFactor_221 (fun h221 => ?_) (fun h221 => ?_)
            · skip
              refine w_iconst rX3_startsFactor_237 (x := 0) (by decide) ?_
              exact j221 _ (if_neg h221).symm _ (if_neg h221).symm
            · skip
              refine w_aload_n rX3_startsFactor_224 rfl ?_
              refine w_iconst rX3_startsFactor_225 (x := 0) (by decide) ?_
              refine w_iconst rX3_startsFactor_226 (x := 3) (by decide) ?_
              refine w_invokevirtual rX3_startsFactor_227 rfl rfl rfl (Nat.le_of_ble_eq_true rfl) ⟨trivial, trivial, trivial, trivial⟩ (G_is (by decide) rfl) (by decide) (by decide) ?_
              refine s_X3_startsName ?_
              show WP mX3_startsFactor 230 _ _ _ 0 0 _
              refine w_ifeq rX3_startsFactor_230 (fun h => absurd h (show ¬ (1 : Int32) = 0 from by decide)) (fun _ => ?_)
              refine w_iconst rX3_startsFactor_233 (x := 1) (by decide) ?_
              refine w_goto rX3_startsFactor_234 ?_
              exact j221 _ (if_pos h221).symm _ (if_pos h221).symm
          · skip
            refine ⟨fun h1_5 => ?_, fun h1_5 => ?_⟩
            · skip
              refine w_aload_n rX3_startsFactor_188 rfl ?_
              refine w_bipush rX3_startsFactor_189 (x := 16) (by decide) ?_
              refine w_invokevirtual rX3_startsFactor_191 rfl rfl rfl (Nat.le_of_ble_eq_true rfl) ⟨trivial, trivial, trivial⟩ (G_is (by decide) rfl) (by decide) (by decide) ?_
              refine s_X3_endsName ?_
              show WP mX3_startsFactor 194 _ _ _ 0 0 _
              refine w_ireturn rX3_startsFactor_194 (Or.inr rfl) ?_
              exact j1 _ ((((((if_neg h1_0).trans (if_neg h1_1)).trans (if_neg h1_2)).trans (if_neg h1_3)).trans (if_neg h1_4)).trans (if_pos h1_5)).symm _ ((((((if_neg h1_0).trans (if_neg h1_1)).trans (if_neg h1_2)).trans (if_neg h1_3)).trans (if_neg h1_4)).trans (if_pos h1_5)).symm
            · skip
              refine ⟨fun h1_6 => ?_, fun h1_6 => ?_⟩
              · skip
                refine w_aload_n rX3_startsFactor_164 rfl ?_
                refine w_bipush rX3_startsFactor_165 (x := 9) (by decide) ?_
                refine w_iconst rX3_startsFactor_167 (x := 2) (by decide) ?_
                refine w_invokevirtual rX3_startsFactor_168 rfl rfl rfl (Nat.le_of_ble_eq_true rfl) ⟨trivial, trivial, trivial, trivial⟩ (G_is (by decide) rfl) (by decide) (by decide) ?_
                refine s_X3_startsFunction ?_
                show WP mX3_startsFactor 171 _ _ _ 0 0 _
                refine w_ireturn rX3_startsFactor_171 b01_X3_startsFunction ?_
                exact j1 _ (((((((if_neg h1_0).trans (if_neg h1_1)).trans (if_neg h1_2)).trans (if_neg h1_3)).trans (if_neg h1_4)).trans (if_neg h1_5)).trans (if_pos h1_6)).symm _ (((((((if_neg h1_0).trans (if_neg h1_1)).trans (if_neg h1_2)).trans (if_neg h1_3)).trans (if_neg h1_4)).trans (if_neg h1_5)).trans (if_pos h1_6)).symm
              · skip
                refine ⟨fun h1_7 => ?_, fun h1_7 => ?_⟩
                · skip
                  refine w_aload_n rX3_startsFactor_286 rfl ?_
                  refine x_getI rX3_startsFactor_287 rfl rfl (G_is (by decide) rfl) ?_
                  have j290 : ∀ I290 : Nat → Nat → Int32, I290 = (if (I 3 5) = 0 then I else (fI_X3_endsName 17 I) : Nat → Nat → Int32) → ∀ s290_0 : Int32, s290_0 = (if (I 3 5) = 0 then 0 else 1 : Int32) → WP mX3_startsFactor 307 [some (.ref 3), some (.int ch)] [.int s290_0] (G X I290 L F) 0 0 Q := by
                    intro I290 eI290 s290_0 es290_0
                    subst eI290
                    subst es290_0
                    skip
                    refine w_ireturn rX3_startsFactor_307 (show (if (I 3 5) = 0 then 0 else 1 : Int32) = 0 ∨ (if (I 3 5) = 0 then 0 else 1 : Int32) = 1 from by repeat' first | refine b01_ite ?_ ?_ | exact Or.inl rfl | exact Or.inr rfl) ?_
                    exact j1 _ ((((((((if_neg h1_0).trans (if_neg h1_1)).trans (if_neg h1_2)).trans (if_neg h1_3)).trans (if_neg h1_4)).trans (if_neg h1_5)).trans (if_neg h1_6)).trans (if_pos h1_7)).symm _ ((((((((if_neg h1_0).trans (if_neg h1_1)).trans (if_neg h1_2)).trans (if_neg h1_3)).trans (if_neg h1_4)).trans (if_neg h1_5)).trans (if_neg h1_6)).trans (if_pos h1_7)).symm
                  refine w_ifeq rX3_startsFactor_290 (fun h290 => ?_) (fun h290 => ?_)
                  · skip
                    refine w_iconst rX3_startsFactor_306 (x := 0) (by decide) ?_
                    exact j290 _ (if_pos h290).symm _ (if_pos h290).symm
                  · skip
                    refine w_aload_n rX3_startsFactor_293 rfl ?_
                    refine w_bipush rX3_startsFactor_294 (x := 17) (by decide) ?_
                    refine w_invokevirtual rX3_startsFactor_296 rfl rfl rfl (Nat.le_of_ble_eq_true rfl) ⟨trivial, trivial, trivial⟩ (G_is (by decide) rfl) (by decide) (by decide) ?_
                    refine s_X3_endsName ?_
                    show WP mX3_startsFactor 299 _ _ _ 0 0 _
                    refine w_ifeq rX3_startsFactor_299 (fun h => absurd h (show ¬ (1 : Int32) = 0 from by decide)) (fun _ => ?_)
                    refine w_iconst rX3_startsFactor_302 (x := 1) (by decide) ?_
                    refine w_goto rX3_startsFactor_303 ?_
                    exact j290 _ (if_neg h290).symm _ (if_neg h290).symm
                · skip
                  refine ⟨fun h1_8 => ?_, fun h1_8 => ?_⟩
                  · skip
                    refine w_aload_n rX3_startsFactor_239 rfl ?_
                    refine x_getI rX3_startsFactor_240 rfl rfl (G_is (by decide) rfl) ?_
                    have j243 : ∀ I243 : Nat → Nat → Int32, I243 = (if (I 3 5) = 0 then (fI_X3_startsName 3 6 I) else I : Nat → Nat → Int32) → ∀ s243_0 : Int32, s243_0 = (if (I 3 5) = 0 then 1 else 0 : Int32) → WP mX3_startsFactor 261 [some (.ref 3), some (.int ch)] [.int s243_0] (G X I243 L F) 0 0 Q := by
                      intro I243 eI243 s243_0 es243_0
                      subst eI243
                      subst es243_0
                      skip
                      refine w_ireturn rX3_startsFactor_261 (show (if (I 3 5) = 0 then 1 else 0 : Int32) = 0 ∨ (if (I 3 5) = 0 then 1 else 0 : Int32) = 1 from by repeat' first | refine b01_ite ?_ ?_ | exact Or.inl rfl | exact Or.inr rfl) ?_
                      exact j1 _ (((((((((if_neg h1_0).trans (if_neg h1_1)).trans (if_neg h1_2)).trans (if_neg h1_3)).trans (if_neg h1_4)).trans (if_neg h1_5)).trans (if_neg h1_6)).trans (if_neg h1_7)).trans (if_pos h1_8)).symm _ (((((((((if_neg h1_0).trans (if_neg h1_1)).trans (if_neg h1_2)).trans (if_neg h1_3)).trans (if_neg h1_4)).trans (if_neg h1_5)).trans (if_neg h1_6)).trans (if_neg h1_7)).trans (if_pos h1_8)).symm
                    refine w_ifne rX3_startsFactor_243 (fun h243 => ?_) (fun h243 => ?_)
                    · skip
                      refine w_iconst rX3_startsFactor_260 (x := 0) (by decide) ?_
                      exact j243 _ (if_neg h243).symm _ (if_neg h243).symm
                    · skip
                      refine w_aload_n rX3_startsFactor_246 rfl ?_
                      refine w_iconst rX3_startsFactor_247 (x := 3) (by decide) ?_
                      refine w_bipush rX3_startsFactor_248 (x := 6) (by decide) ?_
                      refine w_invokevirtual rX3_startsFactor_250 rfl rfl rfl (Nat.le_of_ble_eq_true rfl) ⟨trivial, trivial, trivial, trivial⟩ (G_is (by decide) rfl) (by decide) (by decide) ?_
                      refine s_X3_startsName ?_
                      show WP mX3_startsFactor 253 _ _ _ 0 0 _
                      refine w_ifeq rX3_startsFactor_253 (fun h => absurd h (show ¬ (1 : Int32) = 0 from by decide)) (fun _ => ?_)
                      refine w_iconst rX3_startsFactor_256 (x := 1) (by decide) ?_
                      refine w_goto rX3_startsFactor_257 ?_
                      exact j243 _ (if_pos h243).symm _ (if_pos h243).symm
                  · skip
                    refine ⟨fun h1_9 => ?_, fun h1_9 => ?_⟩
                    · skip
                      refine w_aload_n rX3_startsFactor_156 rfl ?_
                      refine w_bipush rX3_startsFactor_157 (x := 8) (by decide) ?_
                      refine w_iconst rX3_startsFactor_159 (x := 1) (by decide) ?_
                      refine w_invokevirtual rX3_startsFactor_160 rfl rfl rfl (Nat.le_of_ble_eq_true rfl) ⟨trivial, trivial, trivial, trivial⟩ (G_is (by decide) rfl) (by decide) (by decide) ?_
                      refine s_X3_startsFunction ?_
                      show WP mX3_startsFactor 163 _ _ _ 0 0 _
                      refine w_ireturn rX3_startsFactor_163 b01_X3_startsFunction ?_
                      exact j1 _ ((((((((((if_neg h1_0).trans (if_neg h1_1)).trans (if_neg h1_2)).trans (if_neg h1_3)).trans (if_neg h1_4)).trans (if_neg h1_5)).trans (if_neg h1_6)).trans (if_neg h1_7)).trans (if_neg h1_8)).trans (if_pos h1_9)).symm _ ((((((((((if_neg h1_0).trans (if_neg h1_1)).trans (if_neg h1_2)).trans (if_neg h1_3)).trans (if_neg h1_4)).trans (if_neg h1_5)).trans (if_neg h1_6)).trans (if_neg h1_7)).trans (if_neg h1_8)).trans (if_pos h1_9)).symm
                    · skip
                      refine ⟨fun h1_10 => ?_, fun h1_10 => ?_⟩
                      · skip
                        refine w_aload_n rX3_startsFactor_195 rfl ?_
                        refine x_getI rX3_startsFactor_196 rfl rfl (G_is (by decide) rfl) ?_
                        have j199 : ∀ I199 : Nat → Nat → Int32, I199 = (if (I 3 5) = 0 then (fI_X3_endsName 15 I) else I : Nat → Nat → Int32) → ∀ s199_0 : Int32, s199_0 = (if (I 3 5) = 0 then 1 else 0 : Int32) → WP mX3_startsFactor 216 [some (.ref 3), some (.int ch)] [.int s199_0] (G X I199 L F) 0 0 Q := by
                          intro I199 eI199 s199_0 es199_0
                          subst eI199
                          subst es199_0
                          skip
                          refine w_ireturn rX3_startsFactor_216 (show (if (I 3 5) = 0 then 1 else 0 : Int32) = 0 ∨ (if (I 3 5) = 0 then 1 else 0 : Int32) = 1 from by repeat' first | refine b01_ite ?_ ?_ | exact Or.inl rfl | exact Or.inr rfl) ?_
                          exact j1 _ (((((((((((if_neg h1_0).trans (if_neg h1_1)).trans (if_neg h1_2)).trans (if_neg h1_3)).trans (if_neg h1_4)).trans (if_neg h1_5)).trans (if_neg h1_6)).trans (if_neg h1_7)).trans (if_neg h1_8)).trans (if_neg h1_9)).trans (if_pos h1_10)).symm _ (((((((((((if_neg h1_0).trans (if_neg h1_1)).trans (if_neg h1_2)).trans (if_neg h1_3)).trans (if_neg h1_4)).trans (if_neg h1_5)).trans (if_neg h1_6)).trans (if_neg h1_7)).trans (if_neg h1_8)).trans (if_neg h1_9)).trans (if_pos h1_10)).symm
                        refine w_ifne rX3_startsFactor_199 (fun h199 => ?_) (fun h199 => ?_)
                        · skip
                          refine w_iconst rX3_startsFactor_215 (x := 0) (by decide) ?_
                          exact j199 _ (if_neg h199).symm _ (if_neg h199).symm
                        · skip
                          refine w_aload_n rX3_startsFactor_202 rfl ?_
                          refine w_bipush rX3_startsFactor_203 (x := 15) (by decide) ?_
                          refine w_invokevirtual rX3_startsFactor_205 rfl rfl rfl (Nat.le_of_ble_eq_true rfl) ⟨trivial, trivial, trivial⟩ (G_is (by decide) rfl) (by decide) (by decide) ?_
                          refine s_X3_endsName ?_
                          show WP mX3_startsFactor 208 _ _ _ 0 0 _
                          refine w_ifeq rX3_startsFactor_208 (fun h => absurd h (show ¬ (1 : Int32) = 0 from by decide)) (fun _ => ?_)
                          refine w_iconst rX3_startsFactor_211 (x := 1) (by decide) ?_
                          refine w_goto rX3_startsFactor_212 ?_
                          exact j199 _ (if_pos h199).symm _ (if_pos h199).symm
                      · skip
                        refine ⟨fun h1_11 => ?_, fun h1_11 => ?_⟩
                        · skip
                          refine w_aload_n rX3_startsFactor_262 rfl ?_
                          refine x_getI rX3_startsFactor_263 rfl rfl (G_is (by decide) rfl) ?_
                          have j266 : ∀ I266 : Nat → Nat → Int32, I266 = (if (I 3 5) = 0 then (fI_X3_startsName 9 6 I) else I : Nat → Nat → Int32) → ∀ s266_0 : Int32, s266_0 = (if (I 3 5) = 0 then 1 else 0 : Int32) → WP mX3_startsFactor 285 [some (.ref 3), some (.int ch)] [.int s266_0] (G X I266 L F) 0 0 Q := by
                            intro I266 eI266 s266_0 es266_0
                            subst eI266
                            subst es266_0
                            skip
                            refine w_ireturn rX3_startsFactor_285 (show (if (I 3 5) = 0 then 1 else 0 : Int32) = 0 ∨ (if (I 3 5) = 0 then 1 else 0 : Int32) = 1 from by repeat' first | refine b01_ite ?_ ?_ | exact Or.inl rfl | exact Or.inr rfl) ?_
                            exact j1 _ ((((((((((((if_neg h1_0).trans (if_neg h1_1)).trans (if_neg h1_2)).trans (if_neg h1_3)).trans (if_neg h1_4)).trans (if_neg h1_5)).trans (if_neg h1_6)).trans (if_neg h1_7)).trans (if_neg h1_8)).trans (if_neg h1_9)).trans (if_neg h1_10)).trans (if_pos h1_11)).symm _ ((((((((((((if_neg h1_0).trans (if_neg h1_1)).trans (if_neg h1_2)).trans (if_neg h1_3)).trans (if_neg h1_4)).trans (if_neg h1_5)).trans (if_neg h1_6)).trans (if_neg h1_7)).trans (if_neg h1_8)).trans (if_neg h1_9)).trans (if_neg h1_10)).trans (if_pos h1_11)).symm
                          refine w_ifne rX3_startsFactor_266 (fun h266 => ?_) (fun h266 => ?_)
                          · skip
                            refine w_iconst rX3_startsFactor_284 (x := 0) (by decide) ?_
                            exact j266 _ (if_neg h266).symm _ (if_neg h266).symm
                          · skip
                            refine w_aload_n rX3_startsFactor_269 rfl ?_
                            refine w_bipush rX3_startsFactor_270 (x := 9) (by decide) ?_
                            refine w_bipush rX3_startsFactor_272 (x := 6) (by decide) ?_
                            refine w_invokevirtual rX3_startsFactor_274 rfl rfl rfl (Nat.le_of_ble_eq_true rfl) ⟨trivial, trivial, trivial, trivial⟩ (G_is (by decide) rfl) (by decide) (by decide) ?_
                            refine s_X3_startsName ?_
                            show WP mX3_startsFactor 277 _ _ _ 0 0 _
                            refine w_ifeq rX3_startsFactor_277 (fun h => absurd h (show ¬ (1 : Int32) = 0 from by decide)) (fun _ => ?_)
                            refine w_iconst rX3_startsFactor_280 (x := 1) (by decide) ?_
                            refine w_goto rX3_startsFactor_281 ?_
                            exact j266 _ (if_pos h266).symm _ (if_pos h266).symm
                        · skip
                          refine ⟨fun h1_12 => ?_, fun h1_12 => ?_⟩
                          · skip
                            refine w_aload_n rX3_startsFactor_330 rfl ?_
                            refine x_getI rX3_startsFactor_331 rfl rfl (G_is (by decide) rfl) ?_
                            have j334 : ∀ I334 : Nat → Nat → Int32, I334 = (if (I 3 5) = 0 then I else (fI_X3_endsName 19 I) : Nat → Nat → Int32) → ∀ s334_0 : Int32, s334_0 = (if (I 3 5) = 0 then 0 else 1 : Int32) → WP mX3_startsFactor 351 [some (.ref 3), some (.int ch)] [.int s334_0] (G X I334 L F) 0 0 Q := by
                              intro I334 eI334 s334_0 es334_0
                              subst eI334
                              subst es334_0
                              skip
                              refine w_ireturn rX3_startsFactor_351 (show (if (I 3 5) = 0 then 0 else 1 : Int32) = 0 ∨ (if (I 3 5) = 0 then 0 else 1 : Int32) = 1 from by repeat' first | refine b01_ite ?_ ?_ | exact Or.inl rfl | exact Or.inr rfl) ?_
                              exact j1 _ (((((((((((((if_neg h1_0).trans (if_neg h1_1)).trans (if_neg h1_2)).trans (if_neg h1_3)).trans (if_neg h1_4)).trans (if_neg h1_5)).trans (if_neg h1_6)).trans (if_neg h1_7)).trans (if_neg h1_8)).trans (if_neg h1_9)).trans (if_neg h1_10)).trans (if_neg h1_11)).trans (if_pos h1_12)).symm _ (((((((((((((if_neg h1_0).trans (if_neg h1_1)).trans (if_neg h1_2)).trans (if_neg h1_3)).trans (if_neg h1_4)).trans (if_neg h1_5)).trans (if_neg h1_6)).trans (if_neg h1_7)).trans (if_neg h1_8)).trans (if_neg h1_9)).trans (if_neg h1_10)).trans (if_neg h1_11)).trans (if_pos h1_12)).symm
                            refine w_ifeq rX3_startsFactor_334 (fun h334 => ?_) (fun h334 => ?_)
                            · skip
                              refine w_iconst rX3_startsFactor_350 (x := 0) (by decide) ?_
                              exact j334 _ (if_pos h334).symm _ (if_pos h334).symm
                            · skip
                              refine w_aload_n rX3_startsFactor_337 rfl ?_
                              refine w_bipush rX3_startsFactor_338 (x := 19) (by decide) ?_
                              refine w_invokevirtual rX3_startsFactor_340 rfl rfl rfl (Nat.le_of_ble_eq_true rfl) ⟨trivial, trivial, trivial⟩ (G_is (by decide) rfl) (by decide) (by decide) ?_
                              refine s_X3_endsName ?_
                              show WP mX3_startsFactor 343 _ _ _ 0 0 _
                              refine w_ifeq rX3_startsFactor_343 (fun h => absurd h (show ¬ (1 : Int32) = 0 from by decide)) (fun _ => ?_)
                              refine w_iconst rX3_startsFactor_346 (x := 1) (by decide) ?_
                              refine w_goto rX3_startsFactor_347 ?_
                              exact j334 _ (if_neg h334).symm _ (if_neg h334).symm
                          · skip
                            refine ⟨fun h1_13 => ?_, fun h1_13 => ?_⟩
                            · skip
                              refine w_aload_n rX3_startsFactor_172 rfl ?_
                              refine w_bipush rX3_startsFactor_173 (x := 10) (by decide) ?_
                              refine w_iconst rX3_startsFactor_175 (x := 0) (by decide) ?_
                              refine w_invokevirtual rX3_startsFactor_176 rfl rfl rfl (Nat.le_of_ble_eq_true rfl) ⟨trivial, trivial, trivial, trivial⟩ (G_is (by decide) rfl) (by decide) (by decide) ?_
                              refine s_X3_startsFunction ?_
                              show WP mX3_startsFactor 179 _ _ _ 0 0 _
                              refine w_ireturn rX3_startsFactor_179 b01_X3_startsFunction ?_
                              exact j1 _ ((((((((((((((if_neg h1_0).trans (if_neg h1_1)).trans (if_neg h1_2)).trans (if_neg h1_3)).trans (if_neg h1_4)).trans (if_neg h1_5)).trans (if_neg h1_6)).trans (if_neg h1_7)).trans (if_neg h1_8)).trans (if_neg h1_9)).trans (if_neg h1_10)).trans (if_neg h1_11)).trans (if_neg h1_12)).trans (if_pos h1_13)).symm _ ((((((((((((((if_neg h1_0).trans (if_neg h1_1)).trans (if_neg h1_2)).trans (if_neg h1_3)).trans (if_neg h1_4)).trans (if_neg h1_5)).trans (if_neg h1_6)).trans (if_neg h1_7)).trans (if_neg h1_8)).trans (if_neg h1_9)).trans (if_neg h1_10)).trans (if_neg h1_11)).trans (if_neg h1_12)).trans (if_pos h1_13)).symm
                            · skip
                              refine ⟨fun h1_14 => ?_, fun h1_14 => ?_⟩
                              · skip
                                refine w_aload_n rX3_startsFactor_148 rfl ?_
                                refine w_bipush rX3_startsFactor_149 (x := 7) (by decide) ?_
                                refine w_iconst rX3_startsFactor_151 (x := 1) (by decide) ?_
                                refine w_invokevirtual rX3_startsFactor_152 rfl rfl rfl (Nat.le_of_ble_eq_true rfl) ⟨trivial, trivial, trivial, trivial⟩ (G_is (by decide) rfl) (by decide) (by decide) ?_
                                refine s_X3_startsFunction ?_
                                show WP mX3_startsFactor 155 _ _ _ 0 0 _
                                refine w_ireturn rX3_startsFactor_155 b01_X3_startsFunction ?_
                                exact j1 _ (((((((((((((((if_neg h1_0).trans (if_neg h1_1)).trans (if_neg h1_2)).trans (if_neg h1_3)).trans (if_neg h1_4)).trans (if_neg h1_5)).trans (if_neg h1_6)).trans (if_neg h1_7)).trans (if_neg h1_8)).trans (if_neg h1_9)).trans (if_neg h1_10)).trans (if_neg h1_11)).trans (if_neg h1_12)).trans (if_neg h1_13)).trans (if_pos h1_14)).symm _ (((((((((((((((if_neg h1_0).trans (if_neg h1_1)).trans (if_neg h1_2)).trans (if_neg h1_3)).trans (if_neg h1_4)).trans (if_neg h1_5)).trans (if_neg h1_6)).trans (if_neg h1_7)).trans (if_neg h1_8)).trans (if_neg h1_9)).trans (if_neg h1_10)).trans (if_neg h1_11)).trans (if_neg h1_12)).trans (if_neg h1_13)).trans (if_pos h1_14)).symm
                              · skip
                                refine w_iconst rX3_startsFactor_352 (x := 0) (by decide) ?_
                                refine w_ireturn rX3_startsFactor_353 (Or.inl rfl) ?_
                                exact j1 _ (((((((((((((((if_neg h1_0).trans (if_neg h1_1)).trans (if_neg h1_2)).trans (if_neg h1_3)).trans (if_neg h1_4)).trans (if_neg h1_5)).trans (if_neg h1_6)).trans (if_neg h1_7)).trans (if_neg h1_8)).trans (if_neg h1_9)).trans (if_neg h1_10)).trans (if_neg h1_11)).trans (if_neg h1_12)).trans (if_neg h1_13)).trans (if_neg h1_14)).symm _ (((((((((((((((if_neg h1_0).trans (if_neg h1_1)).trans (if_neg h1_2)).trans (if_neg h1_3)).trans (if_neg h1_4)).trans (if_neg h1_5)).trans (if_neg h1_6)).trans (if_neg h1_7)).trans (if_neg h1_8)).trans (if_neg h1_9)).trans (if_neg h1_10)).trans (if_neg h1_11)).trans (if_neg h1_12)).trans (if_neg h1_13)).trans (if_neg h1_14)).symm
theorem b01_X3_startsFactor {ch : Int32} {I : Nat → Nat → Int32} : (f_X3_startsFactor ch I) = 0 ∨ (f_X3_startsFactor ch I) = 1 := by
  unfold f_X3_startsFactor
  repeat' first | refine b01_ite ?_ ?_ | exact Or.inl rfl | exact Or.inr rfl | exact b01_X3_endsName | exact b01_X3_startsName | exact b01_X3_hold | exact b01_X3_startsFunction
