/-! own: specs of the draft's methods -/
set_option maxRecDepth 100000
theorem G_I {X : Nat × (Nat → Int32)} {I : Nat → Nat → Int32} {L : Nat → Nat → Int64} {F : Nat → Nat → UInt32} : hI (G X I L F) = I := rfl
theorem G_L {X : Nat × (Nat → Int32)} {I : Nat → Nat → Int32} {L : Nat → Nat → Int64} {F : Nat → Nat → UInt32} : hL (G X I L F) = L := rfl
theorem G_F {X : Nat × (Nat → Int32)} {I : Nat → Nat → Int32} {L : Nat → Nat → Int64} {F : Nat → Nat → UInt32} : hF (G X I L F) = F := rfl
section SP2
variable {X : Nat × (Nat → Int32)} {I : Nat → Nat → Int32} {L : Nat → Nat → Int64} {F : Nat → Nat → UInt32}
theorem s_X1_clear {Q : AQ} (q : Q (.inl (some (.int (I 1 1)))) (G X (am_u I 1 1 0) L F)) : WP mX1_clear 0 (am_ent 2 [.ref 1]) [] (G X I L F) 0 0 Q := by
  refine w_aload_n rX1_clear_0 rfl ?_
  refine w_getI rX1_clear_1 rfl rfl (G_is (by decide) rfl) ?_
  refine w_istore_n rX1_clear_4 rfl trivial ?_
  refine w_aload_n rX1_clear_5 rfl ?_
  refine w_iconst rX1_clear_6 (x := 0) (by decide) ?_
  refine w_putI rX1_clear_7 rfl (G_is (by decide) rfl) trivial ?_
  rw [G_sI]
  refine w_iload_n rX1_clear_10 rfl ?_
  refine w_ireturn rX1_clear_11 trivial ?_
  exact q
theorem s_X9_wipe {Q : AQ} (q : Q (.inl (some (.int (I 1 1)))) (G X (am_u I 1 1 0) L F)) : WP mX9_wipe 0 (am_ent 1 [.ref 0]) [] (G X I L F) 0 0 Q := by
  refine w_aload_n rX9_wipe_0 rfl ?_
  refine w_getR rX9_wipe_1 rfl rfl (G_is (by decide) rfl) (x := 1) rfl ?_
  refine w_invokevirtual rX9_wipe_4 rfl rfl rfl (by decide) ⟨trivial, trivial⟩ (G_is (by decide) rfl) (by decide) (by decide) ?_
  refine s_X1_clear ?_
  show WP mX9_wipe 7 _ _ _ _ _ _
  refine w_ireturn rX9_wipe_7 trivial ?_
  exact q
theorem s_X10_wipe {Q : AQ} (q : Q (.inl (some (.int (I 498 2)))) (G X (am_u (am_u I 498 0 0) 498 2 0) L F)) : WP mX10_wipe 0 (am_ent 2 [.ref 498]) [] (G X I L F) 0 0 Q := by
  refine w_aload_n rX10_wipe_0 rfl ?_
  refine w_iconst rX10_wipe_1 (x := 0) (by decide) ?_
  refine w_putI rX10_wipe_2 rfl (G_is (by decide) rfl) trivial ?_
  rw [G_sI]
  refine w_aload_n rX10_wipe_5 rfl ?_
  refine w_getI rX10_wipe_6 rfl rfl (G_is (by decide) rfl) ?_
  refine w_istore_n rX10_wipe_9 rfl trivial ?_
  refine w_aload_n rX10_wipe_10 rfl ?_
  refine w_iconst rX10_wipe_11 (x := 0) (by decide) ?_
  refine w_putI rX10_wipe_12 rfl (G_is (by decide) rfl) trivial ?_
  rw [G_sI]
  refine w_iload_n rX10_wipe_15 rfl ?_
  refine w_ireturn rX10_wipe_16 trivial ?_
  exact q
theorem s_X1_isFull {Q : AQ} (q : Q (.inl (some (.int (b2 (nI 40 ≤ I 1 1))))) (G X I L F)) : WP mX1_isFull 0 (am_ent 1 [.ref 1]) [] (G X I L F) 0 0 Q := by
  refine w_aload_n rX1_isFull_0 rfl ?_
  refine w_getI rX1_isFull_1 rfl rfl (G_is (by decide) rfl) ?_
  refine w_aload_n rX1_isFull_4 rfl ?_
  refine w_getR rX1_isFull_5 rfl rfl (G_is (by decide) rfl) (x := 2) rfl ?_
  refine G_len rX1_isFull_8 (by decide) rfl (n := 40) rfl ?_
  refine w_icmplt rX1_isFull_9 (fun h9 => ?_) (fun h9 => ?_)
  · refine w_iconst rX1_isFull_16 (x := 0) (by decide) ?_
    refine w_ireturn rX1_isFull_17 (Or.inl rfl) ?_
    rw [G_I] at h9
    rw [b2_f (Int32.not_le.mpr h9)] at q
    exact q
  · refine w_iconst rX1_isFull_12 (x := 1) (by decide) ?_
    refine w_goto rX1_isFull_13 ?_
    refine w_ireturn rX1_isFull_17 (Or.inr rfl) ?_
    rw [G_I] at h9
    rw [b2_t (Int32.not_lt.mp h9)] at q
    exact q
/-- a letter is put behind n others -/
theorem s_X1_add {v : Int32} {n : Nat} {Q : AQ} (hl : I 1 1 = nI n) (hn : n < 40) (q : Q (.inl (some (.int (nI (n + 1))))) (G X (am_u (am_u I 2 n (vp_nar .char v)) 1 1 (nI (n + 1))) L F)) : WP mX1_add 0 (am_ent 2 [.ref 1, .int v]) [] (G X I L F) 0 0 Q := by
  have h31 : n < 2 ^ 31 := by omega
  refine w_aload_n rX1_add_0 rfl ?_
  refine w_getI rX1_add_1 rfl rfl (G_is (by decide) rfl) ?_
  refine w_iflt rX1_add_4 (fun h4 => ?_) (fun h4 => ?_)
  · rw [G_I, hl] at h4
    exact absurd h4 (nI_pos h31)
  · refine w_aload_n rX1_add_7 rfl ?_
    refine w_getI rX1_add_8 rfl rfl (G_is (by decide) rfl) ?_
    refine w_aload_n rX1_add_11 rfl ?_
    refine w_getR rX1_add_12 rfl rfl (G_is (by decide) rfl) (x := 2) rfl ?_
    refine G_len rX1_add_15 (by decide) rfl (n := 40) rfl ?_
    refine w_icmpge rX1_add_16 (fun h16 => ?_) (fun h16 => ?_)
    · rw [G_I, hl] at h16
      exact absurd h16 (nI_ge hn (by decide))
    · refine w_aload_n rX1_add_19 rfl ?_
      refine w_getR rX1_add_20 rfl rfl (G_is (by decide) rfl) (x := 2) rfl ?_
      refine w_aload_n rX1_add_23 rfl ?_
      refine w_getI rX1_add_24 rfl rfl (G_is (by decide) rfl) ?_
      refine w_iload_n rX1_add_27 rfl ?_
      rw [G_I, hl]
      refine w_castore rX1_add_28 (G_at (n := 40) (by decide) rfl rfl (nI_in hn (by decide))) ?_
      rw [G_sI, nI_clamp h31]
      refine w_aload_n rX1_add_29 rfl ?_
      refine w_dup rX1_add_30 trivial ?_
      refine w_getI rX1_add_31 rfl rfl (G_is (by decide) rfl) ?_
      refine w_iconst rX1_add_34 (x := 1) (by decide) ?_
      refine w_iadd rX1_add_35 ?_
      rw [G_I, am_u_ne (Or.inl (by decide)), hl, nI_1]
      refine w_putI rX1_add_36 rfl (G_is (by decide) rfl) trivial ?_
      rw [G_sI]
      refine w_aload_n rX1_add_39 rfl ?_
      refine w_getI rX1_add_40 rfl rfl (G_is (by decide) rfl) ?_
      refine w_ireturn rX1_add_43 trivial ?_
      rw [G_I, am_u_eq]
      exact q
end SP2
