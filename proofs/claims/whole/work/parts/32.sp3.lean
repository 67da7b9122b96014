/-! own: specs of the methods that answer a conjunction -/
set_option maxRecDepth 100000
theorem b2_qf {p : Prop} [Decidable p] {Q : AQ} {h : AH} (q : Q (.inl (some (.int (b2 p)))) h) (z : ¬ p) : Q (.inl (some (.int 0))) h := by rw [b2_f z] at q; exact q
theorem b2_qt {p : Prop} [Decidable p] {Q : AQ} {h : AH} (q : Q (.inl (some (.int (b2 p)))) h) (z : p) : Q (.inl (some (.int 1))) h := by rw [b2_t z] at q; exact q
section SP3
variable {X : Nat × (Nat → Int32)} {I : Nat → Nat → Int32} {L : Nat → Nat → Int64} {F : Nat → Nat → UInt32}
theorem s_X6_has {v : Int32} {Q : AQ} (q : Q (.inl (some (.int (b2 (¬ v < 0 ∧ ¬ I 9 4 ≤ v ∧ ¬ nI 60 ≤ v))))) (G X I L F)) : WP mX6_has 0 (am_ent 2 [.ref 9, .int v]) [] (G X I L F) 0 0 Q := by
  refine w_iload_n rX6_has_0 rfl ?_
  refine w_iflt rX6_has_1 (fun h1 => ?_) (fun h1 => ?_)
  · refine w_iconst rX6_has_25 (x := 0) (by decide) ?_
    refine w_ireturn rX6_has_26 (Or.inl rfl) ?_
    exact b2_qf q (fun z => z.1 h1)
  · refine w_iload_n rX6_has_4 rfl ?_
    refine w_aload_n rX6_has_5 rfl ?_
    refine w_getI rX6_has_6 rfl rfl (G_is (by decide) rfl) ?_
    refine w_icmpge rX6_has_9 (fun h9 => ?_) (fun h9 => ?_)
    · refine w_iconst rX6_has_25 (x := 0) (by decide) ?_
      refine w_ireturn rX6_has_26 (Or.inl rfl) ?_
      exact b2_qf q (fun z => z.2.1 h9)
    · refine w_iload_n rX6_has_12 rfl ?_
      refine w_aload_n rX6_has_13 rfl ?_
      refine w_getR rX6_has_14 rfl rfl (G_is (by decide) rfl) (x := 13) rfl ?_
      refine G_len rX6_has_17 (by decide) rfl (n := 60) rfl ?_
      refine w_icmpge rX6_has_18 (fun h18 => ?_) (fun h18 => ?_)
      · refine w_iconst rX6_has_25 (x := 0) (by decide) ?_
        refine w_ireturn rX6_has_26 (Or.inl rfl) ?_
        exact b2_qf q (fun z => z.2.2 h18)
      · refine w_iconst rX6_has_21 (x := 1) (by decide) ?_
        refine w_goto rX6_has_22 ?_
        refine w_ireturn rX6_has_26 (Or.inr rfl) ?_
        exact b2_qt q ⟨h1, h9, h18⟩
theorem s_X9_isHour {v : Int32} {Q : AQ} (q : Q (.inl (some (.int (b2 (¬ v < 0 ∧ ¬ 200 < v))))) (G X I L F)) : WP mX9_isHour 0 (am_ent 1 [.int v]) [] (G X I L F) 0 0 Q := by
  refine w_iload_n rX9_isHour_0 rfl ?_
  refine w_iflt rX9_isHour_1 (fun h1 => ?_) (fun h1 => ?_)
  · refine w_iconst rX9_isHour_15 (x := 0) (by decide) ?_
    refine w_ireturn rX9_isHour_16 (Or.inl rfl) ?_
    exact b2_qf q (fun z => z.1 h1)
  · refine w_iload_n rX9_isHour_4 rfl ?_
    refine w_sipush rX9_isHour_5 (x := 200) (by decide) ?_
    refine w_icmpgt rX9_isHour_8 (fun h8 => ?_) (fun h8 => ?_)
    · refine w_iconst rX9_isHour_15 (x := 0) (by decide) ?_
      refine w_ireturn rX9_isHour_16 (Or.inl rfl) ?_
      exact b2_qf q (fun z => z.2 h8)
    · refine w_iconst rX9_isHour_11 (x := 1) (by decide) ?_
      refine w_goto rX9_isHour_12 ?_
      refine w_ireturn rX9_isHour_16 (Or.inr rfl) ?_
      exact b2_qt q ⟨h1, h8⟩
theorem s_X9_isDam {v : Int32} {Q : AQ} (q : Q (.inl (some (.int (b2 (¬ v < 0 ∧ ¬ nI 3 ≤ v))))) (G X I L F)) : WP mX9_isDam 0 (am_ent 2 [.ref 0, .int v]) [] (G X I L F) 0 0 Q := by
  refine w_iload_n rX9_isDam_0 rfl ?_
  refine w_iflt rX9_isDam_1 (fun h1 => ?_) (fun h1 => ?_)
  · refine w_iconst rX9_isDam_17 (x := 0) (by decide) ?_
    refine w_ireturn rX9_isDam_18 (Or.inl rfl) ?_
    exact b2_qf q (fun z => z.1 h1)
  · refine w_iload_n rX9_isDam_4 rfl ?_
    refine w_aload_n rX9_isDam_5 rfl ?_
    refine w_getR rX9_isDam_6 rfl rfl (G_is (by decide) rfl) (x := 381) rfl ?_
    refine G_len rX9_isDam_9 (by decide) rfl (n := 3) rfl ?_
    refine w_icmpge rX9_isDam_10 (fun h10 => ?_) (fun h10 => ?_)
    · refine w_iconst rX9_isDam_17 (x := 0) (by decide) ?_
      refine w_ireturn rX9_isDam_18 (Or.inl rfl) ?_
      exact b2_qf q (fun z => z.2 h10)
    · refine w_iconst rX9_isDam_13 (x := 1) (by decide) ?_
      refine w_goto rX9_isDam_14 ?_
      refine w_ireturn rX9_isDam_18 (Or.inr rfl) ?_
      exact b2_qt q ⟨h1, h10⟩
theorem s_X9_isRun {v : Int32} {Q : AQ} (q : Q (.inl (some (.int (b2 (¬ v < 0 ∧ ¬ I 0 7 ≤ v ∧ ¬ nI 40 ≤ v))))) (G X I L F)) : WP mX9_isRun 0 (am_ent 2 [.ref 0, .int v]) [] (G X I L F) 0 0 Q := by
  refine w_iload_n rX9_isRun_0 rfl ?_
  refine w_iflt rX9_isRun_1 (fun h1 => ?_) (fun h1 => ?_)
  · refine w_iconst rX9_isRun_25 (x := 0) (by decide) ?_
    refine w_ireturn rX9_isRun_26 (Or.inl rfl) ?_
    exact b2_qf q (fun z => z.1 h1)
  · refine w_iload_n rX9_isRun_4 rfl ?_
    refine w_aload_n rX9_isRun_5 rfl ?_
    refine w_getI rX9_isRun_6 rfl rfl (G_is (by decide) rfl) ?_
    refine w_icmpge rX9_isRun_9 (fun h9 => ?_) (fun h9 => ?_)
    · refine w_iconst rX9_isRun_25 (x := 0) (by decide) ?_
      refine w_ireturn rX9_isRun_26 (Or.inl rfl) ?_
      exact b2_qf q (fun z => z.2.1 h9)
    · refine w_iload_n rX9_isRun_12 rfl ?_
      refine w_aload_n rX9_isRun_13 rfl ?_
      refine w_getR rX9_isRun_14 rfl rfl (G_is (by decide) rfl) (x := 379) rfl ?_
      refine G_len rX9_isRun_17 (by decide) rfl (n := 40) rfl ?_
      refine w_icmpge rX9_isRun_18 (fun h18 => ?_) (fun h18 => ?_)
      · refine w_iconst rX9_isRun_25 (x := 0) (by decide) ?_
        refine w_ireturn rX9_isRun_26 (Or.inl rfl) ?_
        exact b2_qf q (fun z => z.2.2 h18)
      · refine w_iconst rX9_isRun_21 (x := 1) (by decide) ?_
        refine w_goto rX9_isRun_22 ?_
        refine w_ireturn rX9_isRun_26 (Or.inr rfl) ?_
        exact b2_qt q ⟨h1, h9, h18⟩
theorem s_X9_isSiren {v : Int32} {Q : AQ} (q : Q (.inl (some (.int (b2 (¬ v < 0 ∧ ¬ I 0 8 ≤ v ∧ ¬ nI 60 ≤ v))))) (G X I L F)) : WP mX9_isSiren 0 (am_ent 2 [.ref 0, .int v]) [] (G X I L F) 0 0 Q := by
  refine w_iload_n rX9_isSiren_0 rfl ?_
  refine w_iflt rX9_isSiren_1 (fun h1 => ?_) (fun h1 => ?_)
  · refine w_iconst rX9_isSiren_25 (x := 0) (by decide) ?_
    refine w_ireturn rX9_isSiren_26 (Or.inl rfl) ?_
    exact b2_qf q (fun z => z.1 h1)
  · refine w_iload_n rX9_isSiren_4 rfl ?_
    refine w_aload_n rX9_isSiren_5 rfl ?_
    refine w_getI rX9_isSiren_6 rfl rfl (G_is (by decide) rfl) ?_
    refine w_icmpge rX9_isSiren_9 (fun h9 => ?_) (fun h9 => ?_)
    · refine w_iconst rX9_isSiren_25 (x := 0) (by decide) ?_
      refine w_ireturn rX9_isSiren_26 (Or.inl rfl) ?_
      exact b2_qf q (fun z => z.2.1 h9)
    · refine w_iload_n rX9_isSiren_12 rfl ?_
      refine w_aload_n rX9_isSiren_13 rfl ?_
      refine w_getR rX9_isSiren_14 rfl rfl (G_is (by decide) rfl) (x := 382) rfl ?_
      refine G_len rX9_isSiren_17 (by decide) rfl (n := 60) rfl ?_
      refine w_icmpge rX9_isSiren_18 (fun h18 => ?_) (fun h18 => ?_)
      · refine w_iconst rX9_isSiren_25 (x := 0) (by decide) ?_
        refine w_ireturn rX9_isSiren_26 (Or.inl rfl) ?_
        exact b2_qf q (fun z => z.2.2 h18)
      · refine w_iconst rX9_isSiren_21 (x := 1) (by decide) ?_
        refine w_goto rX9_isSiren_22 ?_
        refine w_ireturn rX9_isSiren_26 (Or.inr rfl) ?_
        exact b2_qt q ⟨h1, h9, h18⟩
theorem s_X10_isDam {v : Int32} {Q : AQ} (q : Q (.inl (some (.int (b2 (0 ≤ v ∧ v ≤ 2))))) (G X I L F)) : WP mX10_isDam 0 (am_ent 1 [.int v]) [] (G X I L F) 0 0 Q := by
  refine w_iload_n rX10_isDam_0 rfl ?_
  refine w_iconst rX10_isDam_1 (x := 0) (by decide) ?_
  refine w_iconst rX10_isDam_2 (x := 2) (by decide) ?_
  refine w_invokestatic rX10_isDam_3 rfl rfl rfl (by decide) ⟨trivial, trivial, trivial, trivial⟩ trivial (by decide) (by decide) ?_
  refine s_X10_isIn ?_
  show WP mX10_isDam 6 _ _ _ _ _ _
  refine w_ireturn rX10_isDam_6 b2_01 ?_
  exact q
theorem s_X10_isVersion {v : Int32} {Q : AQ} (q : Q (.inl (some (.int (b2 (0 ≤ v ∧ v ≤ I 498 5 - 1))))) (G X I L F)) : WP mX10_isVersion 0 (am_ent 2 [.ref 498, .int v]) [] (G X I L F) 0 0 Q := by
  refine w_iload_n rX10_isVersion_0 rfl ?_
  refine w_iconst rX10_isVersion_1 (x := 0) (by decide) ?_
  refine w_aload_n rX10_isVersion_2 rfl ?_
  refine w_getI rX10_isVersion_3 rfl rfl (G_is (by decide) rfl) ?_
  refine w_iconst rX10_isVersion_6 (x := 1) (by decide) ?_
  refine w_isub rX10_isVersion_7 ?_
  refine w_invokestatic rX10_isVersion_8 rfl rfl rfl (by decide) ⟨trivial, trivial, trivial, trivial⟩ trivial (by decide) (by decide) ?_
  refine s_X10_isIn ?_
  show WP mX10_isVersion 11 _ _ _ _ _ _
  refine w_ireturn rX10_isVersion_11 b2_01 ?_
  exact q
theorem s_X10_isRun {v : Int32} {Q : AQ} (q : Q (.inl (some (.int (b2 (0 ≤ v ∧ v ≤ I 498 17 - 1))))) (G X I L F)) : WP mX10_isRun 0 (am_ent 2 [.ref 498, .int v]) [] (G X I L F) 0 0 Q := by
  refine w_iload_n rX10_isRun_0 rfl ?_
  refine w_iconst rX10_isRun_1 (x := 0) (by decide) ?_
  refine w_aload_n rX10_isRun_2 rfl ?_
  refine w_getI rX10_isRun_3 rfl rfl (G_is (by decide) rfl) ?_
  refine w_iconst rX10_isRun_6 (x := 1) (by decide) ?_
  refine w_isub rX10_isRun_7 ?_
  refine w_invokestatic rX10_isRun_8 rfl rfl rfl (by decide) ⟨trivial, trivial, trivial, trivial⟩ trivial (by decide) (by decide) ?_
  refine s_X10_isIn ?_
  show WP mX10_isRun 11 _ _ _ _ _ _
  refine w_ireturn rX10_isRun_11 b2_01 ?_
  exact q
theorem s_X10_isFigure {v : Int32} {Q : AQ} (q : Q (.inl (some (.int (b2 (48 ≤ v ∧ v ≤ 57))))) (G X I L F)) : WP mX10_isFigure 0 (am_ent 1 [.int v]) [] (G X I L F) 0 0 Q := by
  refine w_iload_n rX10_isFigure_0 rfl ?_
  refine w_bipush rX10_isFigure_1 (x := 48) (by decide) ?_
  refine w_bipush rX10_isFigure_3 (x := 57) (by decide) ?_
  refine w_invokestatic rX10_isFigure_5 rfl rfl rfl (by decide) ⟨trivial, trivial, trivial, trivial⟩ trivial (by decide) (by decide) ?_
  refine s_X10_isIn ?_
  show WP mX10_isFigure 8 _ _ _ _ _ _
  refine w_ireturn rX10_isFigure_8 b2_01 ?_
  exact q
theorem s_X10_thrown {Q : AQ} (q : Q (.inl (some (.int (I 498 0)))) (G X I L F)) : WP mX10_thrown 0 (am_ent 1 [.ref 498]) [] (G X I L F) 0 0 Q := by
  refine w_aload_n rX10_thrown_0 rfl ?_
  refine w_getI rX10_thrown_1 rfl rfl (G_is (by decide) rfl) ?_
  refine w_ireturn rX10_thrown_4 trivial ?_
  exact q
end SP3
set_option maxRecDepth 100000 in
theorem g_ver {v : Nat} (h : v < 60) : gR 13 v = some (19 + 6 * v) ∧ gK (19 + 6 * v) = 8 ∧ gR (19 + 6 * v) 0 = some (20 + 6 * v) ∧ gR (19 + 6 * v) 1 = some (23 + 6 * v) ∧ gR (19 + 6 * v) 2 = some (24 + 6 * v) ∧ gK (20 + 6 * v) = 2 ∧ gR (20 + 6 * v) 0 = some (21 + 6 * v) ∧ gR (20 + 6 * v) 1 = some (22 + 6 * v) ∧ gK (21 + 6 * v) = 20 ∧ gN (21 + 6 * v) = 40 ∧ gK (22 + 6 * v) = 20 ∧ gN (22 + 6 * v) = 40 ∧ gK (23 + 6 * v) = 20 ∧ gN (23 + 6 * v) = 6 ∧ gK (24 + 6 * v) = 22 ∧ gN (24 + 6 * v) = 201 := by
  have h2 : ∀ v, v < 60 → gR 13 v = some (19 + 6 * v) ∧ gK (19 + 6 * v) = 8 ∧ gR (19 + 6 * v) 0 = some (20 + 6 * v) ∧ gR (19 + 6 * v) 1 = some (23 + 6 * v) ∧ gR (19 + 6 * v) 2 = some (24 + 6 * v) ∧ gK (20 + 6 * v) = 2 ∧ gR (20 + 6 * v) 0 = some (21 + 6 * v) ∧ gR (20 + 6 * v) 1 = some (22 + 6 * v) ∧ gK (21 + 6 * v) = 20 ∧ gN (21 + 6 * v) = 40 ∧ gK (22 + 6 * v) = 20 ∧ gN (22 + 6 * v) = 40 ∧ gK (23 + 6 * v) = 20 ∧ gN (23 + 6 * v) = 6 ∧ gK (24 + 6 * v) = 22 ∧ gN (24 + 6 * v) = 201 := by decide +kernel
  exact h2 v h
set_option maxRecDepth 100000 in
theorem g_run {r : Nat} (h : r < 40) : gR 379 r = some (383 + r) ∧ gK (383 + r) = 5 := by
  have h2 : ∀ r, r < 40 → gR 379 r = some (383 + r) ∧ gK (383 + r) = 5 := by decide +kernel
  exact h2 r h
set_option maxRecDepth 100000 in
theorem g_dam {d : Nat} (h : d < 3) : gR 381 d = some (423 + 5 * d) ∧ gK (423 + 5 * d) = 0 ∧ gR (423 + 5 * d) 0 = some (424 + 5 * d) ∧ gR (423 + 5 * d) 1 = some (427 + 5 * d) ∧ gK (424 + 5 * d) = 2 ∧ gR (424 + 5 * d) 0 = some (425 + 5 * d) ∧ gR (424 + 5 * d) 1 = some (426 + 5 * d) ∧ gK (425 + 5 * d) = 20 ∧ gN (425 + 5 * d) = 40 ∧ gK (426 + 5 * d) = 20 ∧ gN (426 + 5 * d) = 40 ∧ gK (427 + 5 * d) = 22 ∧ gN (427 + 5 * d) = 201 := by
  have h2 : ∀ d, d < 3 → gR 381 d = some (423 + 5 * d) ∧ gK (423 + 5 * d) = 0 ∧ gR (423 + 5 * d) 0 = some (424 + 5 * d) ∧ gR (423 + 5 * d) 1 = some (427 + 5 * d) ∧ gK (424 + 5 * d) = 2 ∧ gR (424 + 5 * d) 0 = some (425 + 5 * d) ∧ gR (424 + 5 * d) 1 = some (426 + 5 * d) ∧ gK (425 + 5 * d) = 20 ∧ gN (425 + 5 * d) = 40 ∧ gK (426 + 5 * d) = 20 ∧ gN (426 + 5 * d) = 40 ∧ gK (427 + 5 * d) = 22 ∧ gN (427 + 5 * d) = 201 := by decide +kernel
  exact h2 d h
set_option maxRecDepth 100000 in
theorem g_sir {s : Nat} (h : s < 60) : gR 382 s = some (438 + s) ∧ gK (438 + s) = 7 := by
  have h2 : ∀ s, s < 60 → gR 382 s = some (438 + s) ∧ gK (438 + s) = 7 := by decide +kernel
  exact h2 s h
