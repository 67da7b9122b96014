/-! own: specs of the methods that answer a conjunction -/
set_option maxRecDepth 100000
theorem b2_qf {p : Prop} [Decidable p] {Q : AQ} {h : AH} (q : Q (.inl (some (.int (b2 p)))) h) (z : ¬ p) : Q (.inl (some (.int 0))) h := by rw [b2_f z] at q; exact q
theorem b2_qt {p : Prop} [Decidable p] {Q : AQ} {h : AH} (q : Q (.inl (some (.int (b2 p)))) h) (z : p) : Q (.inl (some (.int 1))) h := by rw [b2_t z] at q; exact q
section SP3
variable {X : Nat × (Nat → Int32)} {I : Nat → Nat → Int32} {L : Nat → Nat → Int64} {F : Nat → Nat → UInt32}
theorem s_X6_has {v : Int32} {Q : AQ} (q : Q (.inl (some (.int (b2 (¬ v < 0 ∧ ¬ I 9 4 ≤ v ∧ ¬ nI 60 ≤ v))))) (G X I L F)) : WP mX6_has 0 (am_ent 2 [.ref 9, .int v]) [] (G X I L F) 0 0 Q := by
  refine w_iload_n rX6_has_0 rfl ?_
  refine w_iflt rX6_has_1 (fun h1 => ?_) (fun h1 => ?_)
  · refine w_iconst rX6_has_25 (x := 0) (by decide) ?_
    refine w_ireturn rX6_has_26 (Or.inl rfl) ?_
    exact b2_qf q (fun z => z.1 h1)
  · refine w_iload_n rX6_has_4 rfl ?_
    refine w_aload_n rX6_has_5 rfl ?_
    refine w_getI rX6_has_6 rfl rfl (G_is (by decide) rfl) ?_
    refine w_icmpge rX6_has_9 (fun h9 => ?_) (fun h9 => ?_)
    · refine w_iconst rX6_has_25 (x := 0) (by decide) ?_
      refine w_ireturn rX6_has_26 (Or.inl rfl) ?_
      exact b2_qf q (fun z => z.2.1 h9)
    · refine w_iload_n rX6_has_12 rfl ?_
      refine w_aload_n rX6_has_13 rfl ?_
      refine w_getR rX6_has_14 rfl rfl (G_is (by decide) rfl) (x := 13) rfl ?_
      refine G_len rX6_has_17 (by decide) rfl (n := 60) rfl ?_
      refine w_icmpge rX6_has_18 (fun h18 => ?_) (fun h18 => ?_)
      · refine w_iconst rX6_has_25 (x := 0) (by decide) ?_
        refine w_ireturn rX6_has_26 (Or.inl rfl) ?_
        exact b2_qf q (fun z => z.2.2 h18)
      · refine w_iconst rX6_has_21 (x := 1) (by decide) ?_
        refine w_goto rX6_has_22 ?_
        refine w_ireturn rX6_has_26 (Or.inr rfl) ?_
        exact b2_qt q ⟨h1, h9, h18⟩
theorem s_X9_isHour {v : Int32} {Q : AQ} (q : Q (.inl (some (.int (b2 (¬ v < 0 ∧ ¬ 200 < v))))) (G X I L F)) : WP mX9_isHour 0 (am_ent 1 [.int v]) [] (G X I L F) 0 0 Q := by
  refine w_iload_n rX9_isHour_0 rfl ?_
  refine w_iflt rX9_isHour_1 (fun h1 => ?_) (fun h1 => ?_)
  · refine w_iconst rX9_isHour_15 (x := 0) (by decide) ?_
    refine w_ireturn rX9_isHour_16 (Or.inl rfl) ?_
    exact b2_qf q (fun z => z.1 h1)
  · refine w_iload_n rX9_isHour_4 rfl ?_
    refine w_sipush rX9_isHour_5 (x := 200) (by decide) ?_
    refine w_icmpgt rX9_isHour_8 (fun h8 => ?_) (fun h8 => ?_)
    · refine w_iconst rX9_isHour_15 (x := 0) (by decide) ?_
      refine w_ireturn rX9_isHour_16 (Or.inl rfl) ?_
      exact b2_qf q (fun z => z.2 h8)
    · refine w_iconst rX9_isHour_11 (x := 1) (by decide) ?_
      refine w_goto rX9_isHour_12 ?_
      refine w_ireturn rX9_isHour_16 (Or.inr rfl) ?_
      exact b2_qt q ⟨h1, h8⟩
theorem s_X9_isDam {v : Int32} {Q : AQ} (q : Q (.inl (some (.int (b2 (¬ v < 0 ∧ ¬ nI 3 ≤ v))))) (G X I L F)) : WP mX9_isDam 0 (am_ent 2 [.ref 0, .int v]) [] (G X I L F) 0 0 Q := by
  refine w_iload_n rX9_isDam_0 rfl ?_
  refine w_iflt rX9_isDam_1 (fun h1 => ?_) (fun h1 => ?_)
  · refine w_iconst rX9_isDam_17 (x := 0) (by decide) ?_
    refine w_ireturn rX9_isDam_18 (Or.inl rfl) ?_
    exact b2_qf q (fun z => z.1 h1)
  · refine w_iload_n rX9_isDam_4 rfl ?_
    refine w_aload_n rX9_isDam_5 rfl ?_
    refine w_getR rX9_isDam_6 rfl rfl (G_is (by decide) rfl) (x := 381) rfl ?_
    refine G_len rX9_isDam_9 (by decide) rfl (n := 3) rfl ?_
    refine w_icmpge rX9_isDam_10 (fun h10 => ?_) (fun h10 => ?_)
    · refine w_iconst rX9_isDam_17 (x := 0) (by decide) ?_
      refine w_ireturn rX9_isDam_18 (Or.inl rfl) ?_
      exact b2_qf q (fun z => z.2 h10)
    · refine w_iconst rX9_isDam_13 (x := 1) (by decide) ?_
      refine w_goto rX9_isDam_14 ?_
      refine w_ireturn rX9_isDam_18 (Or.inr rfl) ?_
      exact b2_qt q ⟨h1, h10⟩
theorem s_X9_isRun {v : Int32} {Q : AQ} (q : Q (.inl (some (.int (b2 (¬ v < 0 ∧ ¬ I 0 7 ≤ v ∧ ¬ nI 40 ≤ v))))) (G X I L F)) : WP mX9_isRun 0 (am_ent 2 [.ref 0, .int v]) [] (G X I L F) 0 0 Q := by
  refine w_iload_n rX9_isRun_0 rfl ?_
  refine w_iflt rX9_isRun_1 (fun h1 => ?_) (fun h1 => ?_)
  · refine w_iconst rX9_isRun_25 (x := 0) (by decide) ?_
    refine w_ireturn rX9_isRun_26 (Or.inl rfl) ?_
    exact b2_qf q (fun z => z.1 h1)
  · refine w_iload_n rX9_isRun_4 rfl ?_
    refine w_aload_n rX9_isRun_5 rfl ?_
    refine w_getI rX9_isRun_6 rfl rfl (G_is (by decide) rfl) ?_
    refine w_icmpge rX9_isRun_9 (fun h9 => ?_) (fun h9 => ?_)
    · refine w_iconst rX9_isRun_25 (x := 0) (by decide) ?_
      refine w_ireturn rX9_isRun_26 (Or.inl rfl) ?_
      exact b2_qf q (fun z => z.2.1 h9)
    · refine w_iload_n rX9_isRun_12 rfl ?_
      refine w_aload_n rX9_isRun_13 rfl ?_
      refine w_getR rX9_isRun_14 rfl rfl (G_is (by decide) rfl) (x := 379) rfl ?_
      refine G_len rX9_isRun_17 (by decide) rfl (n := 40) rfl ?_
      refine w_icmpge rX9_isRun_18 (fun h18 => ?_) (fun h18 => ?_)
      · refine w_iconst rX9_isRun_25 (x := 0) (by decide) ?_
        refine w_ireturn rX9_isRun_26 (Or.inl rfl) ?_
        exact b2_qf q (fun z => z.2.2 h18)
      · refine w_iconst rX9_isRun_21 (x := 1) (by decide) ?_
        refine w_goto rX9_isRun_22 ?_
        refine w_ireturn rX9_isRun_26 (Or.inr rfl) ?_
        exact b2_qt q ⟨h1, h9, h18⟩
theorem s_X9_isSiren {v : Int32} {Q : AQ} (q : Q (.inl (some (.int (b2 (¬ v < 0 ∧ ¬ I 0 8 ≤ v ∧ ¬ nI 60 ≤ v))))) (G X I L F)) : WP mX9_isSiren 0 (am_ent 2 [.ref 0, .int v]) [] (G X I L F) 0 0 Q := by
  refine w_iload_n rX9_isSiren_0 rfl ?_
  refine w_iflt rX9_isSiren_1 (fun h1 => ?_) (fun h1 => ?_)
  · refine w_iconst rX9_isSiren_25 (x := 0) (by decide) ?_
    refine w_ireturn rX9_isSiren_26 (Or.inl rfl) ?_
    exact b2_qf q (fun z => z.1 h1)
  · refine w_iload_n rX9_isSiren_4 rfl ?_
    refine w_aload_n rX9_isSiren_5 rfl ?_
    refine w_getI rX9_isSiren_6 rfl rfl (G_is (by decide) rfl) ?_
    refine w_icmpge rX9_isSiren_9 (fun h9 => ?_) (fun h9 => ?_)
    · refine w_iconst rX9_isSiren_25 (x := 0) (by decide) ?_
      refine w_ireturn rX9_isSiren_26 (Or.inl rfl) ?_
      exact b2_qf q (fun z => z.2.1 h9)
    · refine w_iload_n rX9_isSiren_12 rfl ?_
      refine w_aload_n rX9_isSiren_13 rfl ?_
      refine w_getR rX9_isSiren_14 rfl rfl (G_is (by decide) rfl) (x := 382) rfl ?_
      refine G_len rX9_isSiren_17 (by decide) rfl (n := 60) rfl ?_
      refine w_icmpge rX9_isSiren_18 (fun h18 => ?_) (fun h18 => ?_)
      · refine w_iconst rX9_isSiren_25 (x := 0) (by decide) ?_
        refine w_ireturn rX9_isSiren_26 (Or.inl rfl) ?_
        exact b2_qf q (fun z => z.2.2 h18)
      · refine w_iconst rX9_isSiren_21 (x := 1) (by decide) ?_
        refine w_goto rX9_isSiren_22 ?_
        refine w_ireturn rX9_isSiren_26 (Or.inr rfl) ?_
        exact b2_qt q ⟨h1, h9, h18⟩
end SP3
