/-! own: the blocks of the methods that go round or call on, written by a program -/
set_option maxRecDepth 100000
theorem k_L_sound_0 {X : Nat × (Nat → Int32)} {I : Nat → Nat → Int32} {L : Nat → Nat → Int64} {F : Nat → Nat → UInt32} {Q : AQ} {p0 : Int32} {p1 : Int32} (q : WP mX9_sound 0 (am_ent 5 [.ref 0, .int p0, .int p1]) [] (G X I L F) 0 0 (am_kq mL_sound 5 [some (.ref 0), some (.int p0), some (.int p1), some (.ref 540), none] [.ref 540, .int 0] (0 + am_bc mX9_sound) (0 + am_bs mX9_sound) Q)) : WP mL_sound 0 (am_ent 5 [.ref 0, .int p0, .int p1, .ref 540]) [] (G X I L F) 0 0 Q := by
  refine w_aload_n rL_sound_0 rfl ?_
  refine w_iconst rL_sound_1 (x := 0) (by decide) ?_
  refine w_aload_n rL_sound_2 rfl ?_
  refine w_iload_n rL_sound_3 rfl ?_
  refine w_iload_n rL_sound_4 rfl ?_
  refine w_invokevirtual rL_sound_5 rfl rfl rfl (Nat.le_of_ble_eq_true rfl) ⟨trivial, trivial, trivial, trivial⟩ (G_is (by decide) rfl) (by decide) (by decide) ?_
  exact q
theorem k_L_sound_8 {X : Nat × (Nat → Int32)} {I : Nat → Nat → Int32} {L : Nat → Nat → Int64} {F : Nat → Nat → UInt32} {Q : AQ} {x1 : Int32} {x2 : Int32} {e1 : Int32} {e2 : Int32} (q : vp_in e1 1 ∧ (Q (.inl (some (.int 0))) (G X I (am_u L 540 (Int32.toNatClampNeg e1) (Int32.toInt64 e2)) F))) : WP mL_sound 8 [some (.ref 0), some (.int x1), some (.int x2), some (.ref 540), none] [.ref 540, .int e1, .int e2] (G X I L F) 1 6 Q := by
  refine w_i2l rL_sound_8 ?_
  have h9 := q.1
  replace q := q.2
  refine w_lastore rL_sound_9 (G_at (by decide) rfl rfl h9) ?_
  rw [G_sL]
  refine w_goto rL_sound_10 ?_
  refine w_iconst rL_sound_21 (x := 0) (by decide) ?_
  refine w_ireturn rL_sound_22 trivial ?_
  exact q
theorem k_L_sound_15 {X : Nat × (Nat → Int32)} {I : Nat → Nat → Int32} {L : Nat → Nat → Int64} {F : Nat → Nat → UInt32} {Q : AQ} {x1 : Int32} {x2 : Int32} (q : Q (.inl (some (.int 1))) (G X I L F)) : WP mL_sound 15 [some (.ref 0), some (.int x1), some (.int x2), some (.ref 540), none] [] (G X I L F) 1 6 Q := by
  refine w_iconst rL_sound_15 (x := 1) (by decide) ?_
  refine w_ireturn rL_sound_16 trivial ?_
  exact q
theorem k_L_sound_19 {X : Nat × (Nat → Int32)} {I : Nat → Nat → Int32} {L : Nat → Nat → Int64} {F : Nat → Nat → UInt32} {Q : AQ} {x1 : Int32} {x2 : Int32} (q : Q (.inl (some (.int 2))) (G X I L F)) : WP mL_sound 19 [some (.ref 0), some (.int x1), some (.int x2), some (.ref 540), none] [] (G X I L F) 1 6 Q := by
  refine w_iconst rL_sound_19 (x := 2) (by decide) ?_
  refine w_ireturn rL_sound_20 trivial ?_
  exact q
theorem k_L_siren_0 {X : Nat × (Nat → Int32)} {I : Nat → Nat → Int32} {L : Nat → Nat → Int64} {F : Nat → Nat → UInt32} {Q : AQ} {p0 : Int32} (q : WP mX9_siren 0 (am_ent 2 [.ref 0, .int p0]) [] (G X I L F) 0 0 (am_kq mL_siren 4 [some (.ref 0), some (.int p0), some (.ref 540), none] [.ref 540, .int 0] (0 + am_bc mX9_siren) (0 + am_bs mX9_siren) Q)) : WP mL_siren 0 (am_ent 4 [.ref 0, .int p0, .ref 540]) [] (G X I L F) 0 0 Q := by
  refine w_aload_n rL_siren_0 rfl ?_
  refine w_iconst rL_siren_1 (x := 0) (by decide) ?_
  refine w_aload_n rL_siren_2 rfl ?_
  refine w_iload_n rL_siren_3 rfl ?_
  refine w_invokevirtual rL_siren_4 rfl rfl rfl (Nat.le_of_ble_eq_true rfl) ⟨trivial, trivial, trivial⟩ (G_is (by decide) rfl) (by decide) (by decide) ?_
  exact q
theorem k_L_siren_7 {X : Nat × (Nat → Int32)} {I : Nat → Nat → Int32} {L : Nat → Nat → Int64} {F : Nat → Nat → UInt32} {Q : AQ} {x1 : Int32} {e1 : Int32} {e2 : Int32} (q : vp_in e1 1 ∧ (Q (.inl (some (.int 0))) (G X I (am_u L 540 (Int32.toNatClampNeg e1) (Int32.toInt64 e2)) F))) : WP mL_siren 7 [some (.ref 0), some (.int x1), some (.ref 540), none] [.ref 540, .int e1, .int e2] (G X I L F) 1 6 Q := by
  refine w_i2l rL_siren_7 ?_
  have h8 := q.1
  replace q := q.2
  refine w_lastore rL_siren_8 (G_at (by decide) rfl rfl h8) ?_
  rw [G_sL]
  refine w_goto rL_siren_9 ?_
  refine w_iconst rL_siren_15 (x := 0) (by decide) ?_
  refine w_ireturn rL_siren_16 trivial ?_
  exact q
theorem k_L_siren_13 {X : Nat × (Nat → Int32)} {I : Nat → Nat → Int32} {L : Nat → Nat → Int64} {F : Nat → Nat → UInt32} {Q : AQ} {x1 : Int32} (q : Q (.inl (some (.int 1))) (G X I L F)) : WP mL_siren 13 [some (.ref 0), some (.int x1), some (.ref 540), none] [] (G X I L F) 1 6 Q := by
  refine w_iconst rL_siren_13 (x := 1) (by decide) ?_
  refine w_ireturn rL_siren_14 trivial ?_
  exact q
theorem k_L_walkers_0 {X : Nat × (Nat → Int32)} {I : Nat → Nat → Int32} {L : Nat → Nat → Int64} {F : Nat → Nat → UInt32} {Q : AQ} {p0 : Int32} (q : WP mX9_walkers 0 (am_ent 2 [.ref 0, .int p0]) [] (G X I L F) 0 0 (am_kq mL_walkers 4 [some (.ref 0), some (.int p0), some (.ref 540), none] [.ref 540, .int 0] (0 + am_bc mX9_walkers) (0 + am_bs mX9_walkers) Q)) : WP mL_walkers 0 (am_ent 4 [.ref 0, .int p0, .ref 540]) [] (G X I L F) 0 0 Q := by
  refine w_aload_n rL_walkers_0 rfl ?_
  refine w_iconst rL_walkers_1 (x := 0) (by decide) ?_
  refine w_aload_n rL_walkers_2 rfl ?_
  refine w_iload_n rL_walkers_3 rfl ?_
  refine w_invokevirtual rL_walkers_4 rfl rfl rfl (Nat.le_of_ble_eq_true rfl) ⟨trivial, trivial, trivial⟩ (G_is (by decide) rfl) (by decide) (by decide) ?_
  exact q
theorem k_L_walkers_7 {X : Nat × (Nat → Int32)} {I : Nat → Nat → Int32} {L : Nat → Nat → Int64} {F : Nat → Nat → UInt32} {Q : AQ} {x1 : Int32} {e1 : Int32} {e2 : Int32} (q : vp_in e1 1 ∧ (Q (.inl (some (.int 0))) (G X I (am_u L 540 (Int32.toNatClampNeg e1) (Int32.toInt64 e2)) F))) : WP mL_walkers 7 [some (.ref 0), some (.int x1), some (.ref 540), none] [.ref 540, .int e1, .int e2] (G X I L F) 1 6 Q := by
  refine w_i2l rL_walkers_7 ?_
  have h8 := q.1
  replace q := q.2
  refine w_lastore rL_walkers_8 (G_at (by decide) rfl rfl h8) ?_
  rw [G_sL]
  refine w_goto rL_walkers_9 ?_
  refine w_iconst rL_walkers_15 (x := 0) (by decide) ?_
  refine w_ireturn rL_walkers_16 trivial ?_
  exact q
theorem k_L_walkers_13 {X : Nat × (Nat → Int32)} {I : Nat → Nat → Int32} {L : Nat → Nat → Int64} {F : Nat → Nat → UInt32} {Q : AQ} {x1 : Int32} (q : Q (.inl (some (.int 1))) (G X I L F)) : WP mL_walkers 13 [some (.ref 0), some (.int x1), some (.ref 540), none] [] (G X I L F) 1 6 Q := by
  refine w_iconst rL_walkers_13 (x := 1) (by decide) ?_
  refine w_ireturn rL_walkers_14 trivial ?_
  exact q
theorem k_L_trust_0 {X : Nat × (Nat → Int32)} {I : Nat → Nat → Int32} {L : Nat → Nat → Int64} {F : Nat → Nat → UInt32} {Q : AQ} {p0 : Int32} (q : WP mX9_trust 0 (am_ent 2 [.ref 0, .int p0]) [] (G X I L F) 0 0 (am_kq mL_trust 4 [some (.ref 0), some (.int p0), some (.ref 540), none] [.ref 540, .int 0] (0 + am_bc mX9_trust) (0 + am_bs mX9_trust) Q)) : WP mL_trust 0 (am_ent 4 [.ref 0, .int p0, .ref 540]) [] (G X I L F) 0 0 Q := by
  refine w_aload_n rL_trust_0 rfl ?_
  refine w_iconst rL_trust_1 (x := 0) (by decide) ?_
  refine w_aload_n rL_trust_2 rfl ?_
  refine w_iload_n rL_trust_3 rfl ?_
  refine w_invokevirtual rL_trust_4 rfl rfl rfl (Nat.le_of_ble_eq_true rfl) ⟨trivial, trivial, trivial⟩ (G_is (by decide) rfl) (by decide) (by decide) ?_
  exact q
theorem k_L_trust_7 {X : Nat × (Nat → Int32)} {I : Nat → Nat → Int32} {L : Nat → Nat → Int64} {F : Nat → Nat → UInt32} {Q : AQ} {x1 : Int32} {e1 : Int32} {e2 : Int32} (q : vp_in e1 1 ∧ (Q (.inl (some (.int 0))) (G X I (am_u L 540 (Int32.toNatClampNeg e1) (Int32.toInt64 e2)) F))) : WP mL_trust 7 [some (.ref 0), some (.int x1), some (.ref 540), none] [.ref 540, .int e1, .int e2] (G X I L F) 1 6 Q := by
  refine w_i2l rL_trust_7 ?_
  have h8 := q.1
  replace q := q.2
  refine w_lastore rL_trust_8 (G_at (by decide) rfl rfl h8) ?_
  rw [G_sL]
  refine w_goto rL_trust_9 ?_
  refine w_iconst rL_trust_15 (x := 0) (by decide) ?_
  refine w_ireturn rL_trust_16 trivial ?_
  exact q
theorem k_L_trust_13 {X : Nat × (Nat → Int32)} {I : Nat → Nat → Int32} {L : Nat → Nat → Int64} {F : Nat → Nat → UInt32} {Q : AQ} {x1 : Int32} (q : Q (.inl (some (.int 1))) (G X I L F)) : WP mL_trust 13 [some (.ref 0), some (.int x1), some (.ref 540), none] [] (G X I L F) 1 6 Q := by
  refine w_iconst rL_trust_13 (x := 1) (by decide) ?_
  refine w_ireturn rL_trust_14 trivial ?_
  exact q
theorem k_L_saved_0 {X : Nat × (Nat → Int32)} {I : Nat → Nat → Int32} {L : Nat → Nat → Int64} {F : Nat → Nat → UInt32} {Q : AQ} {p0 : Int32} (q : WP mX9_saved 0 (am_ent 2 [.ref 0, .int p0]) [] (G X I L F) 0 0 (am_kq mL_saved 4 [some (.ref 0), some (.int p0), some (.ref 540), none] [.ref 540, .int 0] (0 + am_bc mX9_saved) (0 + am_bs mX9_saved) Q)) : WP mL_saved 0 (am_ent 4 [.ref 0, .int p0, .ref 540]) [] (G X I L F) 0 0 Q := by
  refine w_aload_n rL_saved_0 rfl ?_
  refine w_iconst rL_saved_1 (x := 0) (by decide) ?_
  refine w_aload_n rL_saved_2 rfl ?_
  refine w_iload_n rL_saved_3 rfl ?_
  refine w_invokevirtual rL_saved_4 rfl rfl rfl (Nat.le_of_ble_eq_true rfl) ⟨trivial, trivial, trivial⟩ (G_is (by decide) rfl) (by decide) (by decide) ?_
  exact q
theorem k_L_saved_7 {X : Nat × (Nat → Int32)} {I : Nat → Nat → Int32} {L : Nat → Nat → Int64} {F : Nat → Nat → UInt32} {Q : AQ} {x1 : Int32} {e1 : Int32} {e2 : Int32} (q : vp_in e1 1 ∧ (Q (.inl (some (.int 0))) (G X I (am_u L 540 (Int32.toNatClampNeg e1) (Int32.toInt64 e2)) F))) : WP mL_saved 7 [some (.ref 0), some (.int x1), some (.ref 540), none] [.ref 540, .int e1, .int e2] (G X I L F) 1 6 Q := by
  refine w_i2l rL_saved_7 ?_
  have h8 := q.1
  replace q := q.2
  refine w_lastore rL_saved_8 (G_at (by decide) rfl rfl h8) ?_
  rw [G_sL]
  refine w_goto rL_saved_9 ?_
  refine w_iconst rL_saved_15 (x := 0) (by decide) ?_
  refine w_ireturn rL_saved_16 trivial ?_
  exact q
theorem k_L_saved_13 {X : Nat × (Nat → Int32)} {I : Nat → Nat → Int32} {L : Nat → Nat → Int64} {F : Nat → Nat → UInt32} {Q : AQ} {x1 : Int32} (q : Q (.inl (some (.int 1))) (G X I L F)) : WP mL_saved 13 [some (.ref 0), some (.int x1), some (.ref 540), none] [] (G X I L F) 1 6 Q := by
  refine w_iconst rL_saved_13 (x := 1) (by decide) ?_
  refine w_ireturn rL_saved_14 trivial ?_
  exact q
theorem k_L_pass_0 {X : Nat × (Nat → Int32)} {I : Nat → Nat → Int32} {L : Nat → Nat → Int64} {F : Nat → Nat → UInt32} {Q : AQ} {p0 : Int32} (q : WP mX9_pass 0 (am_ent 4 [.ref 0, .int p0]) [] (G X I L F) 0 0 (am_kq mL_pass 4 [some (.ref 0), some (.int p0), some (.ref 540), none] [.ref 540, .int 0] (0 + am_bc mX9_pass) (0 + am_bs mX9_pass) Q)) : WP mL_pass 0 (am_ent 4 [.ref 0, .int p0, .ref 540]) [] (G X I L F) 0 0 Q := by
  refine w_aload_n rL_pass_0 rfl ?_
  refine w_iconst rL_pass_1 (x := 0) (by decide) ?_
  refine w_aload_n rL_pass_2 rfl ?_
  refine w_iload_n rL_pass_3 rfl ?_
  refine w_invokevirtual rL_pass_4 rfl rfl rfl (Nat.le_of_ble_eq_true rfl) ⟨trivial, trivial, trivial⟩ (G_is (by decide) rfl) (by decide) (by decide) ?_
  exact q
theorem k_L_pass_7 {X : Nat × (Nat → Int32)} {I : Nat → Nat → Int32} {L : Nat → Nat → Int64} {F : Nat → Nat → UInt32} {Q : AQ} {x1 : Int32} {e1 : Int32} {e2 : Int32} (q : vp_in e1 1 ∧ (Q (.inl (some (.int 0))) (G X I (am_u L 540 (Int32.toNatClampNeg e1) (Int32.toInt64 e2)) F))) : WP mL_pass 7 [some (.ref 0), some (.int x1), some (.ref 540), none] [.ref 540, .int e1, .int e2] (G X I L F) 1 6 Q := by
  refine w_i2l rL_pass_7 ?_
  have h8 := q.1
  replace q := q.2
  refine w_lastore rL_pass_8 (G_at (by decide) rfl rfl h8) ?_
  rw [G_sL]
  refine w_goto rL_pass_9 ?_
  refine w_iconst rL_pass_18 (x := 0) (by decide) ?_
  refine w_ireturn rL_pass_19 trivial ?_
  exact q
theorem k_L_pass_13 {X : Nat × (Nat → Int32)} {I : Nat → Nat → Int32} {L : Nat → Nat → Int64} {F : Nat → Nat → UInt32} {Q : AQ} {x1 : Int32} (q : Q (.inl (some (.int 1))) (G X I L F)) : WP mL_pass 13 [some (.ref 0), some (.int x1), some (.ref 540), none] [] (G X I L F) 1 6 Q := by
  refine w_iconst rL_pass_13 (x := 1) (by decide) ?_
  refine w_ireturn rL_pass_14 trivial ?_
  exact q
theorem k_L_pass_16 {X : Nat × (Nat → Int32)} {I : Nat → Nat → Int32} {L : Nat → Nat → Int64} {F : Nat → Nat → UInt32} {Q : AQ} {x1 : Int32} (q : Q (.inl (some (.int 2))) (G X I L F)) : WP mL_pass 16 [some (.ref 0), some (.int x1), some (.ref 540), none] [] (G X I L F) 1 6 Q := by
  refine w_iconst rL_pass_16 (x := 2) (by decide) ?_
  refine w_ireturn rL_pass_17 trivial ?_
  exact q
theorem k_L_type_0 {X : Nat × (Nat → Int32)} {I : Nat → Nat → Int32} {L : Nat → Nat → Int64} {F : Nat → Nat → UInt32} {Q : AQ} {p0 : Int32} (q : WP mX9_type 0 (am_ent 2 [.ref 0, .int p0]) [] (G X I L F) 0 0 (am_kq mL_type 4 [some (.ref 0), some (.int p0), some (.ref 540), none] [.ref 540, .int 0] (0 + am_bc mX9_type) (0 + am_bs mX9_type) Q)) : WP mL_type 0 (am_ent 4 [.ref 0, .int p0, .ref 540]) [] (G X I L F) 0 0 Q := by
  refine w_aload_n rL_type_0 rfl ?_
  refine w_iconst rL_type_1 (x := 0) (by decide) ?_
  refine w_aload_n rL_type_2 rfl ?_
  refine w_iload_n rL_type_3 rfl ?_
  refine w_invokevirtual rL_type_4 rfl rfl rfl (Nat.le_of_ble_eq_true rfl) ⟨trivial, trivial, trivial⟩ (G_is (by decide) rfl) (by decide) (by decide) ?_
  exact q
theorem k_L_type_7 {X : Nat × (Nat → Int32)} {I : Nat → Nat → Int32} {L : Nat → Nat → Int64} {F : Nat → Nat → UInt32} {Q : AQ} {x1 : Int32} {e1 : Int32} {e2 : Int32} (q : vp_in e1 1 ∧ (Q (.inl (some (.int 0))) (G X I (am_u L 540 (Int32.toNatClampNeg e1) (Int32.toInt64 e2)) F))) : WP mL_type 7 [some (.ref 0), some (.int x1), some (.ref 540), none] [.ref 540, .int e1, .int e2] (G X I L F) 1 6 Q := by
  refine w_i2l rL_type_7 ?_
  have h8 := q.1
  replace q := q.2
  refine w_lastore rL_type_8 (G_at (by decide) rfl rfl h8) ?_
  rw [G_sL]
  refine w_goto rL_type_9 ?_
  refine w_iconst rL_type_18 (x := 0) (by decide) ?_
  refine w_ireturn rL_type_19 trivial ?_
  exact q
theorem k_L_type_13 {X : Nat × (Nat → Int32)} {I : Nat → Nat → Int32} {L : Nat → Nat → Int64} {F : Nat → Nat → UInt32} {Q : AQ} {x1 : Int32} (q : Q (.inl (some (.int 1))) (G X I L F)) : WP mL_type 13 [some (.ref 0), some (.int x1), some (.ref 540), none] [] (G X I L F) 1 6 Q := by
  refine w_iconst rL_type_13 (x := 1) (by decide) ?_
  refine w_ireturn rL_type_14 trivial ?_
  exact q
theorem k_L_type_16 {X : Nat × (Nat → Int32)} {I : Nat → Nat → Int32} {L : Nat → Nat → Int64} {F : Nat → Nat → UInt32} {Q : AQ} {x1 : Int32} (q : Q (.inl (some (.int 2))) (G X I L F)) : WP mL_type 16 [some (.ref 0), some (.int x1), some (.ref 540), none] [] (G X I L F) 1 6 Q := by
  refine w_iconst rL_type_16 (x := 2) (by decide) ?_
  refine w_ireturn rL_type_17 trivial ?_
  exact q
theorem k_L_publish_0 {X : Nat × (Nat → Int32)} {I : Nat → Nat → Int32} {L : Nat → Nat → Int64} {F : Nat → Nat → UInt32} {Q : AQ} {p0 : Int32} (q : WP mX9_publish 0 (am_ent 2 [.ref 0, .int p0]) [] (G X I L F) 0 0 (am_kq mL_publish 4 [some (.ref 0), some (.int p0), some (.ref 540), none] [.ref 540, .int 0] (0 + am_bc mX9_publish) (0 + am_bs mX9_publish) Q)) : WP mL_publish 0 (am_ent 4 [.ref 0, .int p0, .ref 540]) [] (G X I L F) 0 0 Q := by
  refine w_aload_n rL_publish_0 rfl ?_
  refine w_iconst rL_publish_1 (x := 0) (by decide) ?_
  refine w_aload_n rL_publish_2 rfl ?_
  refine w_iload_n rL_publish_3 rfl ?_
  refine w_invokevirtual rL_publish_4 rfl rfl rfl (Nat.le_of_ble_eq_true rfl) ⟨trivial, trivial, trivial⟩ (G_is (by decide) rfl) (by decide) (by decide) ?_
  exact q
theorem k_L_publish_7 {X : Nat × (Nat → Int32)} {I : Nat → Nat → Int32} {L : Nat → Nat → Int64} {F : Nat → Nat → UInt32} {Q : AQ} {x1 : Int32} {e1 : Int32} {e2 : Int32} (q : vp_in e1 1 ∧ (Q (.inl (some (.int 0))) (G X I (am_u L 540 (Int32.toNatClampNeg e1) (Int32.toInt64 e2)) F))) : WP mL_publish 7 [some (.ref 0), some (.int x1), some (.ref 540), none] [.ref 540, .int e1, .int e2] (G X I L F) 1 6 Q := by
  refine w_i2l rL_publish_7 ?_
  have h8 := q.1
  replace q := q.2
  refine w_lastore rL_publish_8 (G_at (by decide) rfl rfl h8) ?_
  rw [G_sL]
  refine w_goto rL_publish_9 ?_
  refine w_iconst rL_publish_21 (x := 0) (by decide) ?_
  refine w_ireturn rL_publish_22 trivial ?_
  exact q
theorem k_L_publish_13 {X : Nat × (Nat → Int32)} {I : Nat → Nat → Int32} {L : Nat → Nat → Int64} {F : Nat → Nat → UInt32} {Q : AQ} {x1 : Int32} (q : Q (.inl (some (.int 1))) (G X I L F)) : WP mL_publish 13 [some (.ref 0), some (.int x1), some (.ref 540), none] [] (G X I L F) 1 6 Q := by
  refine w_iconst rL_publish_13 (x := 1) (by decide) ?_
  refine w_ireturn rL_publish_14 trivial ?_
  exact q
theorem k_L_publish_16 {X : Nat × (Nat → Int32)} {I : Nat → Nat → Int32} {L : Nat → Nat → Int64} {F : Nat → Nat → UInt32} {Q : AQ} {x1 : Int32} (q : Q (.inl (some (.int 2))) (G X I L F)) : WP mL_publish 16 [some (.ref 0), some (.int x1), some (.ref 540), none] [] (G X I L F) 1 6 Q := by
  refine w_iconst rL_publish_16 (x := 2) (by decide) ?_
  refine w_ireturn rL_publish_17 trivial ?_
  exact q
theorem k_L_publish_19 {X : Nat × (Nat → Int32)} {I : Nat → Nat → Int32} {L : Nat → Nat → Int64} {F : Nat → Nat → UInt32} {Q : AQ} {x1 : Int32} (q : Q (.inl (some (.int 3))) (G X I L F)) : WP mL_publish 19 [some (.ref 0), some (.int x1), some (.ref 540), none] [] (G X I L F) 1 6 Q := by
  refine w_iconst rL_publish_19 (x := 3) (by decide) ?_
  refine w_ireturn rL_publish_20 trivial ?_
  exact q
theorem k_L_retire_0 {X : Nat × (Nat → Int32)} {I : Nat → Nat → Int32} {L : Nat → Nat → Int64} {F : Nat → Nat → UInt32} {Q : AQ} {p0 : Int32} (q : WP mX9_retire 0 (am_ent 2 [.ref 0, .int p0]) [] (G X I L F) 0 0 (am_kq mL_retire 4 [some (.ref 0), some (.int p0), some (.ref 540), none] [.ref 540, .int 0] (0 + am_bc mX9_retire) (0 + am_bs mX9_retire) Q)) : WP mL_retire 0 (am_ent 4 [.ref 0, .int p0, .ref 540]) [] (G X I L F) 0 0 Q := by
  refine w_aload_n rL_retire_0 rfl ?_
  refine w_iconst rL_retire_1 (x := 0) (by decide) ?_
  refine w_aload_n rL_retire_2 rfl ?_
  refine w_iload_n rL_retire_3 rfl ?_
  refine w_invokevirtual rL_retire_4 rfl rfl rfl (Nat.le_of_ble_eq_true rfl) ⟨trivial, trivial, trivial⟩ (G_is (by decide) rfl) (by decide) (by decide) ?_
  exact q
theorem k_L_retire_7 {X : Nat × (Nat → Int32)} {I : Nat → Nat → Int32} {L : Nat → Nat → Int64} {F : Nat → Nat → UInt32} {Q : AQ} {x1 : Int32} {e1 : Int32} {e2 : Int32} (q : vp_in e1 1 ∧ (Q (.inl (some (.int 0))) (G X I (am_u L 540 (Int32.toNatClampNeg e1) (Int32.toInt64 e2)) F))) : WP mL_retire 7 [some (.ref 0), some (.int x1), some (.ref 540), none] [.ref 540, .int e1, .int e2] (G X I L F) 1 6 Q := by
  refine w_i2l rL_retire_7 ?_
  have h8 := q.1
  replace q := q.2
  refine w_lastore rL_retire_8 (G_at (by decide) rfl rfl h8) ?_
  rw [G_sL]
  refine w_goto rL_retire_9 ?_
  refine w_iconst rL_retire_18 (x := 0) (by decide) ?_
  refine w_ireturn rL_retire_19 trivial ?_
  exact q
theorem k_L_retire_13 {X : Nat × (Nat → Int32)} {I : Nat → Nat → Int32} {L : Nat → Nat → Int64} {F : Nat → Nat → UInt32} {Q : AQ} {x1 : Int32} (q : Q (.inl (some (.int 1))) (G X I L F)) : WP mL_retire 13 [some (.ref 0), some (.int x1), some (.ref 540), none] [] (G X I L F) 1 6 Q := by
  refine w_iconst rL_retire_13 (x := 1) (by decide) ?_
  refine w_ireturn rL_retire_14 trivial ?_
  exact q
theorem k_L_retire_16 {X : Nat × (Nat → Int32)} {I : Nat → Nat → Int32} {L : Nat → Nat → Int64} {F : Nat → Nat → UInt32} {Q : AQ} {x1 : Int32} (q : Q (.inl (some (.int 2))) (G X I L F)) : WP mL_retire 16 [some (.ref 0), some (.int x1), some (.ref 540), none] [] (G X I L F) 1 6 Q := by
  refine w_iconst rL_retire_16 (x := 2) (by decide) ?_
  refine w_ireturn rL_retire_17 trivial ?_
  exact q
theorem k_L_latest_0 {X : Nat × (Nat → Int32)} {I : Nat → Nat → Int32} {L : Nat → Nat → Int64} {F : Nat → Nat → UInt32} {Q : AQ} {p0 : Int32} (q : WP mX9_latest 0 (am_ent 2 [.ref 0, .int p0]) [] (G X I L F) 0 0 (am_kq mL_latest 4 [some (.ref 0), some (.int p0), some (.ref 540), none] [.ref 540, .int 0] (0 + am_bc mX9_latest) (0 + am_bs mX9_latest) Q)) : WP mL_latest 0 (am_ent 4 [.ref 0, .int p0, .ref 540]) [] (G X I L F) 0 0 Q := by
  refine w_aload_n rL_latest_0 rfl ?_
  refine w_iconst rL_latest_1 (x := 0) (by decide) ?_
  refine w_aload_n rL_latest_2 rfl ?_
  refine w_iload_n rL_latest_3 rfl ?_
  refine w_invokevirtual rL_latest_4 rfl rfl rfl (Nat.le_of_ble_eq_true rfl) ⟨trivial, trivial, trivial⟩ (G_is (by decide) rfl) (by decide) (by decide) ?_
  exact q
theorem k_L_latest_7 {X : Nat × (Nat → Int32)} {I : Nat → Nat → Int32} {L : Nat → Nat → Int64} {F : Nat → Nat → UInt32} {Q : AQ} {x1 : Int32} {e1 : Int32} {e2 : Int32} (q : vp_in e1 1 ∧ (Q (.inl (some (.int 0))) (G X I (am_u L 540 (Int32.toNatClampNeg e1) (Int32.toInt64 e2)) F))) : WP mL_latest 7 [some (.ref 0), some (.int x1), some (.ref 540), none] [.ref 540, .int e1, .int e2] (G X I L F) 1 6 Q := by
  refine w_i2l rL_latest_7 ?_
  have h8 := q.1
  replace q := q.2
  refine w_lastore rL_latest_8 (G_at (by decide) rfl rfl h8) ?_
  rw [G_sL]
  refine w_goto rL_latest_9 ?_
  refine w_iconst rL_latest_15 (x := 0) (by decide) ?_
  refine w_ireturn rL_latest_16 trivial ?_
  exact q
theorem k_L_latest_13 {X : Nat × (Nat → Int32)} {I : Nat → Nat → Int32} {L : Nat → Nat → Int64} {F : Nat → Nat → UInt32} {Q : AQ} {x1 : Int32} (q : Q (.inl (some (.int 1))) (G X I L F)) : WP mL_latest 13 [some (.ref 0), some (.int x1), some (.ref 540), none] [] (G X I L F) 1 6 Q := by
  refine w_iconst rL_latest_13 (x := 1) (by decide) ?_
  refine w_ireturn rL_latest_14 trivial ?_
  exact q
theorem k_L_pin_0 {X : Nat × (Nat → Int32)} {I : Nat → Nat → Int32} {L : Nat → Nat → Int64} {F : Nat → Nat → UInt32} {Q : AQ} {p0 : Int32} {p1 : Int32} (q : WP mX9_pin 0 (am_ent 3 [.ref 0, .int p0, .int p1]) [] (G X I L F) 0 0 (am_kq mL_pin 5 [some (.ref 0), some (.int p0), some (.int p1), some (.ref 540), none] [.ref 540, .int 0] (0 + am_bc mX9_pin) (0 + am_bs mX9_pin) Q)) : WP mL_pin 0 (am_ent 5 [.ref 0, .int p0, .int p1, .ref 540]) [] (G X I L F) 0 0 Q := by
  refine w_aload_n rL_pin_0 rfl ?_
  refine w_iconst rL_pin_1 (x := 0) (by decide) ?_
  refine w_aload_n rL_pin_2 rfl ?_
  refine w_iload_n rL_pin_3 rfl ?_
  refine w_iload_n rL_pin_4 rfl ?_
  refine w_invokevirtual rL_pin_5 rfl rfl rfl (Nat.le_of_ble_eq_true rfl) ⟨trivial, trivial, trivial, trivial⟩ (G_is (by decide) rfl) (by decide) (by decide) ?_
  exact q
theorem k_L_pin_8 {X : Nat × (Nat → Int32)} {I : Nat → Nat → Int32} {L : Nat → Nat → Int64} {F : Nat → Nat → UInt32} {Q : AQ} {x1 : Int32} {x2 : Int32} {e1 : Int32} {e2 : Int32} (q : vp_in e1 1 ∧ (Q (.inl (some (.int 0))) (G X I (am_u L 540 (Int32.toNatClampNeg e1) (Int32.toInt64 e2)) F))) : WP mL_pin 8 [some (.ref 0), some (.int x1), some (.int x2), some (.ref 540), none] [.ref 540, .int e1, .int e2] (G X I L F) 1 6 Q := by
  refine w_i2l rL_pin_8 ?_
  have h9 := q.1
  replace q := q.2
  refine w_lastore rL_pin_9 (G_at (by decide) rfl rfl h9) ?_
  rw [G_sL]
  refine w_goto rL_pin_10 ?_
  refine w_iconst rL_pin_17 (x := 0) (by decide) ?_
  refine w_ireturn rL_pin_18 trivial ?_
  exact q
theorem k_L_pin_15 {X : Nat × (Nat → Int32)} {I : Nat → Nat → Int32} {L : Nat → Nat → Int64} {F : Nat → Nat → UInt32} {Q : AQ} {x1 : Int32} {x2 : Int32} (q : Q (.inl (some (.int 1))) (G X I L F)) : WP mL_pin 15 [some (.ref 0), some (.int x1), some (.int x2), some (.ref 540), none] [] (G X I L F) 1 6 Q := by
  refine w_iconst rL_pin_15 (x := 1) (by decide) ?_
  refine w_ireturn rL_pin_16 trivial ?_
  exact q
theorem k_L_rain_0 {X : Nat × (Nat → Int32)} {I : Nat → Nat → Int32} {L : Nat → Nat → Int64} {F : Nat → Nat → UInt32} {Q : AQ} {p0 : Int32} {p1 : Int32} {p2 : Int32} (q : WP mX9_rain 0 (am_ent 5 [.ref 0, .int p0, .int p1, .int p2]) [] (G X I L F) 0 0 (am_kq mL_rain 7 [some (.ref 0), some (.int p0), some (.int p1), some (.int p2), some (.ref 540), none] [.ref 540, .int 0] (0 + am_bc mX9_rain) (0 + am_bs mX9_rain) Q)) : WP mL_rain 0 (am_ent 6 [.ref 0, .int p0, .int p1, .int p2, .ref 540]) [] (G X I L F) 0 0 Q := by
  refine w_aload rL_rain_0 rfl ?_
  refine w_iconst rL_rain_2 (x := 0) (by decide) ?_
  refine w_aload_n rL_rain_3 rfl ?_
  refine w_iload_n rL_rain_4 rfl ?_
  refine w_iload_n rL_rain_5 rfl ?_
  refine w_iload_n rL_rain_6 rfl ?_
  refine w_invokevirtual rL_rain_7 rfl rfl rfl (Nat.le_of_ble_eq_true rfl) ⟨trivial, trivial, trivial, trivial, trivial⟩ (G_is (by decide) rfl) (by decide) (by decide) ?_
  exact q
theorem k_L_rain_10 {X : Nat × (Nat → Int32)} {I : Nat → Nat → Int32} {L : Nat → Nat → Int64} {F : Nat → Nat → UInt32} {Q : AQ} {x1 : Int32} {x2 : Int32} {x3 : Int32} {e1 : Int32} {e2 : Int32} (q : vp_in e1 1 ∧ (Q (.inl (some (.int 0))) (G X I (am_u L 540 (Int32.toNatClampNeg e1) (Int32.toInt64 e2)) F))) : WP mL_rain 10 [some (.ref 0), some (.int x1), some (.int x2), some (.int x3), some (.ref 540), none] [.ref 540, .int e1, .int e2] (G X I L F) 1 6 Q := by
  refine w_i2l rL_rain_10 ?_
  have h11 := q.1
  replace q := q.2
  refine w_lastore rL_rain_11 (G_at (by decide) rfl rfl h11) ?_
  rw [G_sL]
  refine w_goto rL_rain_12 ?_
  refine w_iconst rL_rain_23 (x := 0) (by decide) ?_
  refine w_ireturn rL_rain_24 trivial ?_
  exact q
theorem k_L_rain_17 {X : Nat × (Nat → Int32)} {I : Nat → Nat → Int32} {L : Nat → Nat → Int64} {F : Nat → Nat → UInt32} {Q : AQ} {x1 : Int32} {x2 : Int32} {x3 : Int32} (q : Q (.inl (some (.int 1))) (G X I L F)) : WP mL_rain 17 [some (.ref 0), some (.int x1), some (.int x2), some (.int x3), some (.ref 540), none] [] (G X I L F) 1 6 Q := by
  refine w_iconst rL_rain_17 (x := 1) (by decide) ?_
  refine w_ireturn rL_rain_18 trivial ?_
  exact q
theorem k_L_rain_21 {X : Nat × (Nat → Int32)} {I : Nat → Nat → Int32} {L : Nat → Nat → Int64} {F : Nat → Nat → UInt32} {Q : AQ} {x1 : Int32} {x2 : Int32} {x3 : Int32} (q : Q (.inl (some (.int 2))) (G X I L F)) : WP mL_rain 21 [some (.ref 0), some (.int x1), some (.int x2), some (.int x3), some (.ref 540), none] [] (G X I L F) 1 6 Q := by
  refine w_iconst rL_rain_21 (x := 2) (by decide) ?_
  refine w_ireturn rL_rain_22 trivial ?_
  exact q
theorem k_L_out_0 {X : Nat × (Nat → Int32)} {I : Nat → Nat → Int32} {L : Nat → Nat → Int64} {F : Nat → Nat → UInt32} {Q : AQ} {p0 : Int32} {p1 : Int32} (q : WP mX9_out 0 (am_ent 3 [.ref 0, .int p0, .int p1]) [] (G X I L F) 0 0 (am_kq mL_out 5 [some (.ref 0), some (.int p0), some (.int p1), some (.ref 540), none] [.ref 540, .int 0] (0 + am_bc mX9_out) (0 + am_bs mX9_out) Q)) : WP mL_out 0 (am_ent 5 [.ref 0, .int p0, .int p1, .ref 540]) [] (G X I L F) 0 0 Q := by
  refine w_aload_n rL_out_0 rfl ?_
  refine w_iconst rL_out_1 (x := 0) (by decide) ?_
  refine w_aload_n rL_out_2 rfl ?_
  refine w_iload_n rL_out_3 rfl ?_
  refine w_iload_n rL_out_4 rfl ?_
  refine w_invokevirtual rL_out_5 rfl rfl rfl (Nat.le_of_ble_eq_true rfl) ⟨trivial, trivial, trivial, trivial⟩ (G_is (by decide) rfl) (by decide) (by decide) ?_
  exact q
theorem k_L_out_8 {X : Nat × (Nat → Int32)} {I : Nat → Nat → Int32} {L : Nat → Nat → Int64} {F : Nat → Nat → UInt32} {Q : AQ} {x1 : Int32} {x2 : Int32} {e1 : Int32} {e2 : Int32} (q : vp_in e1 1 ∧ (Q (.inl (some (.int 0))) (G X I (am_u L 540 (Int32.toNatClampNeg e1) (Int32.toInt64 e2)) F))) : WP mL_out 8 [some (.ref 0), some (.int x1), some (.int x2), some (.ref 540), none] [.ref 540, .int e1, .int e2] (G X I L F) 1 6 Q := by
  refine w_i2l rL_out_8 ?_
  have h9 := q.1
  replace q := q.2
  refine w_lastore rL_out_9 (G_at (by decide) rfl rfl h9) ?_
  rw [G_sL]
  refine w_goto rL_out_10 ?_
  refine w_iconst rL_out_21 (x := 0) (by decide) ?_
  refine w_ireturn rL_out_22 trivial ?_
  exact q
theorem k_L_out_15 {X : Nat × (Nat → Int32)} {I : Nat → Nat → Int32} {L : Nat → Nat → Int64} {F : Nat → Nat → UInt32} {Q : AQ} {x1 : Int32} {x2 : Int32} (q : Q (.inl (some (.int 1))) (G X I L F)) : WP mL_out 15 [some (.ref 0), some (.int x1), some (.int x2), some (.ref 540), none] [] (G X I L F) 1 6 Q := by
  refine w_iconst rL_out_15 (x := 1) (by decide) ?_
  refine w_ireturn rL_out_16 trivial ?_
  exact q
theorem k_L_out_19 {X : Nat × (Nat → Int32)} {I : Nat → Nat → Int32} {L : Nat → Nat → Int64} {F : Nat → Nat → UInt32} {Q : AQ} {x1 : Int32} {x2 : Int32} (q : Q (.inl (some (.int 2))) (G X I L F)) : WP mL_out 19 [some (.ref 0), some (.int x1), some (.int x2), some (.ref 540), none] [] (G X I L F) 1 6 Q := by
  refine w_iconst rL_out_19 (x := 2) (by decide) ?_
  refine w_ireturn rL_out_20 trivial ?_
  exact q
theorem k_L_outAnew_0 {X : Nat × (Nat → Int32)} {I : Nat → Nat → Int32} {L : Nat → Nat → Int64} {F : Nat → Nat → UInt32} {Q : AQ} {p0 : Int32} {p1 : Int32} (q : WP mX9_outAnew 0 (am_ent 3 [.ref 0, .int p0, .int p1]) [] (G X I L F) 0 0 (am_kq mL_outAnew 5 [some (.ref 0), some (.int p0), some (.int p1), some (.ref 540), none] [.ref 540, .int 0] (0 + am_bc mX9_outAnew) (0 + am_bs mX9_outAnew) Q)) : WP mL_outAnew 0 (am_ent 5 [.ref 0, .int p0, .int p1, .ref 540]) [] (G X I L F) 0 0 Q := by
  refine w_aload_n rL_outAnew_0 rfl ?_
  refine w_iconst rL_outAnew_1 (x := 0) (by decide) ?_
  refine w_aload_n rL_outAnew_2 rfl ?_
  refine w_iload_n rL_outAnew_3 rfl ?_
  refine w_iload_n rL_outAnew_4 rfl ?_
  refine w_invokevirtual rL_outAnew_5 rfl rfl rfl (Nat.le_of_ble_eq_true rfl) ⟨trivial, trivial, trivial, trivial⟩ (G_is (by decide) rfl) (by decide) (by decide) ?_
  exact q
theorem k_L_outAnew_8 {X : Nat × (Nat → Int32)} {I : Nat → Nat → Int32} {L : Nat → Nat → Int64} {F : Nat → Nat → UInt32} {Q : AQ} {x1 : Int32} {x2 : Int32} {e1 : Int32} {e2 : Int32} (q : vp_in e1 1 ∧ (Q (.inl (some (.int 0))) (G X I (am_u L 540 (Int32.toNatClampNeg e1) (Int32.toInt64 e2)) F))) : WP mL_outAnew 8 [some (.ref 0), some (.int x1), some (.int x2), some (.ref 540), none] [.ref 540, .int e1, .int e2] (G X I L F) 1 6 Q := by
  refine w_i2l rL_outAnew_8 ?_
  have h9 := q.1
  replace q := q.2
  refine w_lastore rL_outAnew_9 (G_at (by decide) rfl rfl h9) ?_
  rw [G_sL]
  refine w_goto rL_outAnew_10 ?_
  refine w_iconst rL_outAnew_21 (x := 0) (by decide) ?_
  refine w_ireturn rL_outAnew_22 trivial ?_
  exact q
theorem k_L_outAnew_15 {X : Nat × (Nat → Int32)} {I : Nat → Nat → Int32} {L : Nat → Nat → Int64} {F : Nat → Nat → UInt32} {Q : AQ} {x1 : Int32} {x2 : Int32} (q : Q (.inl (some (.int 1))) (G X I L F)) : WP mL_outAnew 15 [some (.ref 0), some (.int x1), some (.int x2), some (.ref 540), none] [] (G X I L F) 1 6 Q := by
  refine w_iconst rL_outAnew_15 (x := 1) (by decide) ?_
  refine w_ireturn rL_outAnew_16 trivial ?_
  exact q
theorem k_L_outAnew_19 {X : Nat × (Nat → Int32)} {I : Nat → Nat → Int32} {L : Nat → Nat → Int64} {F : Nat → Nat → UInt32} {Q : AQ} {x1 : Int32} {x2 : Int32} (q : Q (.inl (some (.int 2))) (G X I L F)) : WP mL_outAnew 19 [some (.ref 0), some (.int x1), some (.int x2), some (.ref 540), none] [] (G X I L F) 1 6 Q := by
  refine w_iconst rL_outAnew_19 (x := 2) (by decide) ?_
  refine w_ireturn rL_outAnew_20 trivial ?_
  exact q
theorem k_L_run_0 {X : Nat × (Nat → Int32)} {I : Nat → Nat → Int32} {L : Nat → Nat → Int64} {F : Nat → Nat → UInt32} {Q : AQ} {p0 : Int32} {p1 : Int32} (q : WP mX9_run 0 (am_ent 4 [.ref 0, .int p0, .int p1]) [] (G X I L F) 0 0 (am_kq mL_run 5 [some (.ref 0), some (.int p0), some (.int p1), some (.ref 540), none] [.ref 540, .int 0] (0 + am_bc mX9_run) (0 + am_bs mX9_run) Q)) : WP mL_run 0 (am_ent 5 [.ref 0, .int p0, .int p1, .ref 540]) [] (G X I L F) 0 0 Q := by
  refine w_aload_n rL_run_0 rfl ?_
  refine w_iconst rL_run_1 (x := 0) (by decide) ?_
  refine w_aload_n rL_run_2 rfl ?_
  refine w_iload_n rL_run_3 rfl ?_
  refine w_iload_n rL_run_4 rfl ?_
  refine w_invokevirtual rL_run_5 rfl rfl rfl (Nat.le_of_ble_eq_true rfl) ⟨trivial, trivial, trivial, trivial⟩ (G_is (by decide) rfl) (by decide) (by decide) ?_
  exact q
theorem k_L_run_8 {X : Nat × (Nat → Int32)} {I : Nat → Nat → Int32} {L : Nat → Nat → Int64} {F : Nat → Nat → UInt32} {Q : AQ} {x1 : Int32} {x2 : Int32} {e1 : Int32} {e2 : Int32} (q : vp_in e1 1 ∧ (Q (.inl (some (.int 0))) (G X I (am_u L 540 (Int32.toNatClampNeg e1) (Int32.toInt64 e2)) F))) : WP mL_run 8 [some (.ref 0), some (.int x1), some (.int x2), some (.ref 540), none] [.ref 540, .int e1, .int e2] (G X I L F) 1 6 Q := by
  refine w_i2l rL_run_8 ?_
  have h9 := q.1
  replace q := q.2
  refine w_lastore rL_run_9 (G_at (by decide) rfl rfl h9) ?_
  rw [G_sL]
  refine w_goto rL_run_10 ?_
  refine w_iconst rL_run_25 (x := 0) (by decide) ?_
  refine w_ireturn rL_run_26 trivial ?_
  exact q
theorem k_L_run_15 {X : Nat × (Nat → Int32)} {I : Nat → Nat → Int32} {L : Nat → Nat → Int64} {F : Nat → Nat → UInt32} {Q : AQ} {x1 : Int32} {x2 : Int32} (q : Q (.inl (some (.int 1))) (G X I L F)) : WP mL_run 15 [some (.ref 0), some (.int x1), some (.int x2), some (.ref 540), none] [] (G X I L F) 1 6 Q := by
  refine w_iconst rL_run_15 (x := 1) (by decide) ?_
  refine w_ireturn rL_run_16 trivial ?_
  exact q
theorem k_L_run_19 {X : Nat × (Nat → Int32)} {I : Nat → Nat → Int32} {L : Nat → Nat → Int64} {F : Nat → Nat → UInt32} {Q : AQ} {x1 : Int32} {x2 : Int32} (q : Q (.inl (some (.int 2))) (G X I L F)) : WP mL_run 19 [some (.ref 0), some (.int x1), some (.int x2), some (.ref 540), none] [] (G X I L F) 1 6 Q := by
  refine w_iconst rL_run_19 (x := 2) (by decide) ?_
  refine w_ireturn rL_run_20 trivial ?_
  exact q
theorem k_L_run_23 {X : Nat × (Nat → Int32)} {I : Nat → Nat → Int32} {L : Nat → Nat → Int64} {F : Nat → Nat → UInt32} {Q : AQ} {x1 : Int32} {x2 : Int32} (q : Q (.inl (some (.int 3))) (G X I L F)) : WP mL_run 23 [some (.ref 0), some (.int x1), some (.int x2), some (.ref 540), none] [] (G X I L F) 1 6 Q := by
  refine w_iconst rL_run_23 (x := 3) (by decide) ?_
  refine w_ireturn rL_run_24 trivial ?_
  exact q
theorem k_L_why_0 {X : Nat × (Nat → Int32)} {I : Nat → Nat → Int32} {L : Nat → Nat → Int64} {F : Nat → Nat → UInt32} {Q : AQ} {p0 : Int32} (q : WP mX9_why 0 (am_ent 2 [.ref 0, .int p0]) [] (G X I L F) 0 0 (am_kq mL_why 4 [some (.ref 0), some (.int p0), some (.ref 540), none] [.ref 540, .int 0] (0 + am_bc mX9_why) (0 + am_bs mX9_why) Q)) : WP mL_why 0 (am_ent 4 [.ref 0, .int p0, .ref 540]) [] (G X I L F) 0 0 Q := by
  refine w_aload_n rL_why_0 rfl ?_
  refine w_iconst rL_why_1 (x := 0) (by decide) ?_
  refine w_aload_n rL_why_2 rfl ?_
  refine w_iload_n rL_why_3 rfl ?_
  refine w_invokevirtual rL_why_4 rfl rfl rfl (Nat.le_of_ble_eq_true rfl) ⟨trivial, trivial, trivial⟩ (G_is (by decide) rfl) (by decide) (by decide) ?_
  exact q
theorem k_L_why_7 {X : Nat × (Nat → Int32)} {I : Nat → Nat → Int32} {L : Nat → Nat → Int64} {F : Nat → Nat → UInt32} {Q : AQ} {x1 : Int32} {e1 : Int32} {e2 : Int32} (q : vp_in e1 1 ∧ (Q (.inl (some (.int 0))) (G X I (am_u L 540 (Int32.toNatClampNeg e1) (Int32.toInt64 e2)) F))) : WP mL_why 7 [some (.ref 0), some (.int x1), some (.ref 540), none] [.ref 540, .int e1, .int e2] (G X I L F) 1 6 Q := by
  refine w_i2l rL_why_7 ?_
  have h8 := q.1
  replace q := q.2
  refine w_lastore rL_why_8 (G_at (by decide) rfl rfl h8) ?_
  rw [G_sL]
  refine w_goto rL_why_9 ?_
  refine w_iconst rL_why_15 (x := 0) (by decide) ?_
  refine w_ireturn rL_why_16 trivial ?_
  exact q
theorem k_L_why_13 {X : Nat × (Nat → Int32)} {I : Nat → Nat → Int32} {L : Nat → Nat → Int64} {F : Nat → Nat → UInt32} {Q : AQ} {x1 : Int32} (q : Q (.inl (some (.int 1))) (G X I L F)) : WP mL_why 13 [some (.ref 0), some (.int x1), some (.ref 540), none] [] (G X I L F) 1 6 Q := by
  refine w_iconst rL_why_13 (x := 1) (by decide) ?_
  refine w_ireturn rL_why_14 trivial ?_
  exact q
theorem k_L_peak_0 {X : Nat × (Nat → Int32)} {I : Nat → Nat → Int32} {L : Nat → Nat → Int64} {F : Nat → Nat → UInt32} {Q : AQ} {p0 : Int32} (q : WP mX9_peak 0 (am_ent 2 [.ref 0, .int p0]) [] (G X I L F) 0 0 (am_kq mL_peak 4 [some (.ref 0), some (.int p0), some (.ref 540), none] [.ref 540, .int 0] (0 + am_bc mX9_peak) (0 + am_bs mX9_peak) Q)) : WP mL_peak 0 (am_ent 4 [.ref 0, .int p0, .ref 540]) [] (G X I L F) 0 0 Q := by
  refine w_aload_n rL_peak_0 rfl ?_
  refine w_iconst rL_peak_1 (x := 0) (by decide) ?_
  refine w_aload_n rL_peak_2 rfl ?_
  refine w_iload_n rL_peak_3 rfl ?_
  refine w_invokevirtual rL_peak_4 rfl rfl rfl (Nat.le_of_ble_eq_true rfl) ⟨trivial, trivial, trivial⟩ (G_is (by decide) rfl) (by decide) (by decide) ?_
  exact q
theorem k_L_peak_7 {X : Nat × (Nat → Int32)} {I : Nat → Nat → Int32} {L : Nat → Nat → Int64} {F : Nat → Nat → UInt32} {Q : AQ} {x1 : Int32} {e1 : Int32} {e2 : Int32} (q : vp_in e1 1 ∧ (Q (.inl (some (.int 0))) (G X I (am_u L 540 (Int32.toNatClampNeg e1) (Int32.toInt64 e2)) F))) : WP mL_peak 7 [some (.ref 0), some (.int x1), some (.ref 540), none] [.ref 540, .int e1, .int e2] (G X I L F) 1 6 Q := by
  refine w_i2l rL_peak_7 ?_
  have h8 := q.1
  replace q := q.2
  refine w_lastore rL_peak_8 (G_at (by decide) rfl rfl h8) ?_
  rw [G_sL]
  refine w_goto rL_peak_9 ?_
  refine w_iconst rL_peak_15 (x := 0) (by decide) ?_
  refine w_ireturn rL_peak_16 trivial ?_
  exact q
theorem k_L_peak_13 {X : Nat × (Nat → Int32)} {I : Nat → Nat → Int32} {L : Nat → Nat → Int64} {F : Nat → Nat → UInt32} {Q : AQ} {x1 : Int32} (q : Q (.inl (some (.int 1))) (G X I L F)) : WP mL_peak 13 [some (.ref 0), some (.int x1), some (.ref 540), none] [] (G X I L F) 1 6 Q := by
  refine w_iconst rL_peak_13 (x := 1) (by decide) ?_
  refine w_ireturn rL_peak_14 trivial ?_
  exact q
theorem k_L_peakHour_0 {X : Nat × (Nat → Int32)} {I : Nat → Nat → Int32} {L : Nat → Nat → Int64} {F : Nat → Nat → UInt32} {Q : AQ} {p0 : Int32} (q : WP mX9_peakHour 0 (am_ent 2 [.ref 0, .int p0]) [] (G X I L F) 0 0 (am_kq mL_peakHour 4 [some (.ref 0), some (.int p0), some (.ref 540), none] [.ref 540, .int 0] (0 + am_bc mX9_peakHour) (0 + am_bs mX9_peakHour) Q)) : WP mL_peakHour 0 (am_ent 4 [.ref 0, .int p0, .ref 540]) [] (G X I L F) 0 0 Q := by
  refine w_aload_n rL_peakHour_0 rfl ?_
  refine w_iconst rL_peakHour_1 (x := 0) (by decide) ?_
  refine w_aload_n rL_peakHour_2 rfl ?_
  refine w_iload_n rL_peakHour_3 rfl ?_
  refine w_invokevirtual rL_peakHour_4 rfl rfl rfl (Nat.le_of_ble_eq_true rfl) ⟨trivial, trivial, trivial⟩ (G_is (by decide) rfl) (by decide) (by decide) ?_
  exact q
theorem k_L_peakHour_7 {X : Nat × (Nat → Int32)} {I : Nat → Nat → Int32} {L : Nat → Nat → Int64} {F : Nat → Nat → UInt32} {Q : AQ} {x1 : Int32} {e1 : Int32} {e2 : Int32} (q : vp_in e1 1 ∧ (Q (.inl (some (.int 0))) (G X I (am_u L 540 (Int32.toNatClampNeg e1) (Int32.toInt64 e2)) F))) : WP mL_peakHour 7 [some (.ref 0), some (.int x1), some (.ref 540), none] [.ref 540, .int e1, .int e2] (G X I L F) 1 6 Q := by
  refine w_i2l rL_peakHour_7 ?_
  have h8 := q.1
  replace q := q.2
  refine w_lastore rL_peakHour_8 (G_at (by decide) rfl rfl h8) ?_
  rw [G_sL]
  refine w_goto rL_peakHour_9 ?_
  refine w_iconst rL_peakHour_15 (x := 0) (by decide) ?_
  refine w_ireturn rL_peakHour_16 trivial ?_
  exact q
theorem k_L_peakHour_13 {X : Nat × (Nat → Int32)} {I : Nat → Nat → Int32} {L : Nat → Nat → Int64} {F : Nat → Nat → UInt32} {Q : AQ} {x1 : Int32} (q : Q (.inl (some (.int 1))) (G X I L F)) : WP mL_peakHour 13 [some (.ref 0), some (.int x1), some (.ref 540), none] [] (G X I L F) 1 6 Q := by
  refine w_iconst rL_peakHour_13 (x := 1) (by decide) ?_
  refine w_ireturn rL_peakHour_14 trivial ?_
  exact q
theorem k_L_peakAnew_0 {X : Nat × (Nat → Int32)} {I : Nat → Nat → Int32} {L : Nat → Nat → Int64} {F : Nat → Nat → UInt32} {Q : AQ} {p0 : Int32} (q : WP mX9_peakAnew 0 (am_ent 3 [.ref 0, .int p0]) [] (G X I L F) 0 0 (am_kq mL_peakAnew 4 [some (.ref 0), some (.int p0), some (.ref 540), none] [.ref 540, .int 0] (0 + am_bc mX9_peakAnew) (0 + am_bs mX9_peakAnew) Q)) : WP mL_peakAnew 0 (am_ent 4 [.ref 0, .int p0, .ref 540]) [] (G X I L F) 0 0 Q := by
  refine w_aload_n rL_peakAnew_0 rfl ?_
  refine w_iconst rL_peakAnew_1 (x := 0) (by decide) ?_
  refine w_aload_n rL_peakAnew_2 rfl ?_
  refine w_iload_n rL_peakAnew_3 rfl ?_
  refine w_invokevirtual rL_peakAnew_4 rfl rfl rfl (Nat.le_of_ble_eq_true rfl) ⟨trivial, trivial, trivial⟩ (G_is (by decide) rfl) (by decide) (by decide) ?_
  exact q
theorem k_L_peakAnew_7 {X : Nat × (Nat → Int32)} {I : Nat → Nat → Int32} {L : Nat → Nat → Int64} {F : Nat → Nat → UInt32} {Q : AQ} {x1 : Int32} {e1 : Int32} {e2 : Int32} (q : vp_in e1 1 ∧ (Q (.inl (some (.int 0))) (G X I (am_u L 540 (Int32.toNatClampNeg e1) (Int32.toInt64 e2)) F))) : WP mL_peakAnew 7 [some (.ref 0), some (.int x1), some (.ref 540), none] [.ref 540, .int e1, .int e2] (G X I L F) 1 6 Q := by
  refine w_i2l rL_peakAnew_7 ?_
  have h8 := q.1
  replace q := q.2
  refine w_lastore rL_peakAnew_8 (G_at (by decide) rfl rfl h8) ?_
  rw [G_sL]
  refine w_goto rL_peakAnew_9 ?_
  refine w_iconst rL_peakAnew_15 (x := 0) (by decide) ?_
  refine w_ireturn rL_peakAnew_16 trivial ?_
  exact q
theorem k_L_peakAnew_13 {X : Nat × (Nat → Int32)} {I : Nat → Nat → Int32} {L : Nat → Nat → Int64} {F : Nat → Nat → UInt32} {Q : AQ} {x1 : Int32} (q : Q (.inl (some (.int 1))) (G X I L F)) : WP mL_peakAnew 13 [some (.ref 0), some (.int x1), some (.ref 540), none] [] (G X I L F) 1 6 Q := by
  refine w_iconst rL_peakAnew_13 (x := 1) (by decide) ?_
  refine w_ireturn rL_peakAnew_14 trivial ?_
  exact q
theorem k_L_build_0 {X : Nat × (Nat → Int32)} {I : Nat → Nat → Int32} {L : Nat → Nat → Int64} {F : Nat → Nat → UInt32} {Q : AQ} {p0 : Int32} {p1 : Int32} {p2 : Int32} (q : WP mX9_build 0 (am_ent 5 [.ref 0, .int p0, .int p1, .int p2]) [] (G X I L F) 0 0 (am_kq mL_build 4 [some (.ref 0), some (.int p0), some (.int p1), some (.int p2), none] [] (0 + am_bc mX9_build) (0 + am_bs mX9_build) Q)) : WP mL_build 0 (am_ent 5 [.ref 0, .int p0, .int p1, .int p2]) [] (G X I L F) 0 0 Q := by
  refine w_aload_n rL_build_0 rfl ?_
  refine w_iload_n rL_build_1 rfl ?_
  refine w_iload_n rL_build_2 rfl ?_
  refine w_iload_n rL_build_3 rfl ?_
  refine w_invokevirtual rL_build_4 rfl rfl rfl (Nat.le_of_ble_eq_true rfl) ⟨trivial, trivial, trivial, trivial, trivial⟩ (G_is (by decide) rfl) (by decide) (by decide) ?_
  exact q
theorem k_L_build_7 {X : Nat × (Nat → Int32)} {I : Nat → Nat → Int32} {L : Nat → Nat → Int64} {F : Nat → Nat → UInt32} {Q : AQ} {x1 : Int32} {x2 : Int32} {x3 : Int32} (q : Q (.inl (some (.int 0))) (G X I L F)) : WP mL_build 7 [some (.ref 0), some (.int x1), some (.int x2), some (.int x3), none] [] (G X I L F) 1 6 Q := by
  refine w_goto rL_build_7 ?_
  refine w_iconst rL_build_22 (x := 0) (by decide) ?_
  refine w_ireturn rL_build_23 trivial ?_
  exact q
theorem k_L_build_12 {X : Nat × (Nat → Int32)} {I : Nat → Nat → Int32} {L : Nat → Nat → Int64} {F : Nat → Nat → UInt32} {Q : AQ} {x1 : Int32} {x2 : Int32} {x3 : Int32} (q : Q (.inl (some (.int 1))) (G X I L F)) : WP mL_build 12 [some (.ref 0), some (.int x1), some (.int x2), some (.int x3), none] [] (G X I L F) 1 6 Q := by
  refine w_iconst rL_build_12 (x := 1) (by decide) ?_
  refine w_ireturn rL_build_13 trivial ?_
  exact q
theorem k_L_build_16 {X : Nat × (Nat → Int32)} {I : Nat → Nat → Int32} {L : Nat → Nat → Int64} {F : Nat → Nat → UInt32} {Q : AQ} {x1 : Int32} {x2 : Int32} {x3 : Int32} (q : Q (.inl (some (.int 2))) (G X I L F)) : WP mL_build 16 [some (.ref 0), some (.int x1), some (.int x2), some (.int x3), none] [] (G X I L F) 1 6 Q := by
  refine w_iconst rL_build_16 (x := 2) (by decide) ?_
  refine w_ireturn rL_build_17 trivial ?_
  exact q
theorem k_L_build_20 {X : Nat × (Nat → Int32)} {I : Nat → Nat → Int32} {L : Nat → Nat → Int64} {F : Nat → Nat → UInt32} {Q : AQ} {x1 : Int32} {x2 : Int32} {x3 : Int32} (q : Q (.inl (some (.int 3))) (G X I L F)) : WP mL_build 20 [some (.ref 0), some (.int x1), some (.int x2), some (.int x3), none] [] (G X I L F) 1 6 Q := by
  refine w_iconst rL_build_20 (x := 3) (by decide) ?_
  refine w_ireturn rL_build_21 trivial ?_
  exact q
theorem k_L_rule_0 {X : Nat × (Nat → Int32)} {I : Nat → Nat → Int32} {L : Nat → Nat → Int64} {F : Nat → Nat → UInt32} {Q : AQ} {p0 : Int32} (q : WP mX9_rule 0 (am_ent 3 [.ref 0, .int p0]) [] (G X I L F) 0 0 (am_kq mL_rule 2 [some (.ref 0), some (.int p0), none] [] (0 + am_bc mX9_rule) (0 + am_bs mX9_rule) Q)) : WP mL_rule 0 (am_ent 3 [.ref 0, .int p0]) [] (G X I L F) 0 0 Q := by
  refine w_aload_n rL_rule_0 rfl ?_
  refine w_iload_n rL_rule_1 rfl ?_
  refine w_invokevirtual rL_rule_2 rfl rfl rfl (Nat.le_of_ble_eq_true rfl) ⟨trivial, trivial, trivial⟩ (G_is (by decide) rfl) (by decide) (by decide) ?_
  exact q
theorem k_L_rule_5 {X : Nat × (Nat → Int32)} {I : Nat → Nat → Int32} {L : Nat → Nat → Int64} {F : Nat → Nat → UInt32} {Q : AQ} {x1 : Int32} (q : Q (.inl (some (.int 0))) (G X I L F)) : WP mL_rule 5 [some (.ref 0), some (.int x1), none] [] (G X I L F) 1 6 Q := by
  refine w_goto rL_rule_5 ?_
  refine w_iconst rL_rule_17 (x := 0) (by decide) ?_
  refine w_ireturn rL_rule_18 trivial ?_
  exact q
theorem k_L_rule_9 {X : Nat × (Nat → Int32)} {I : Nat → Nat → Int32} {L : Nat → Nat → Int64} {F : Nat → Nat → UInt32} {Q : AQ} {x1 : Int32} (q : Q (.inl (some (.int 1))) (G X I L F)) : WP mL_rule 9 [some (.ref 0), some (.int x1), none] [] (G X I L F) 1 6 Q := by
  refine w_iconst rL_rule_9 (x := 1) (by decide) ?_
  refine w_ireturn rL_rule_10 trivial ?_
  exact q
theorem k_L_rule_12 {X : Nat × (Nat → Int32)} {I : Nat → Nat → Int32} {L : Nat → Nat → Int64} {F : Nat → Nat → UInt32} {Q : AQ} {x1 : Int32} (q : Q (.inl (some (.int 2))) (G X I L F)) : WP mL_rule 12 [some (.ref 0), some (.int x1), none] [] (G X I L F) 1 6 Q := by
  refine w_iconst rL_rule_12 (x := 2) (by decide) ?_
  refine w_ireturn rL_rule_13 trivial ?_
  exact q
theorem k_L_rule_15 {X : Nat × (Nat → Int32)} {I : Nat → Nat → Int32} {L : Nat → Nat → Int64} {F : Nat → Nat → UInt32} {Q : AQ} {x1 : Int32} (q : Q (.inl (some (.int 3))) (G X I L F)) : WP mL_rule 15 [some (.ref 0), some (.int x1), none] [] (G X I L F) 1 6 Q := by
  refine w_iconst rL_rule_15 (x := 3) (by decide) ?_
  refine w_ireturn rL_rule_16 trivial ?_
  exact q
theorem k_L_goBy_0 {X : Nat × (Nat → Int32)} {I : Nat → Nat → Int32} {L : Nat → Nat → Int64} {F : Nat → Nat → UInt32} {Q : AQ} {p0 : Int32} {p1 : Int32} (q : WP mX9_goBy 0 (am_ent 4 [.ref 0, .int p0, .int p1]) [] (G X I L F) 0 0 (am_kq mL_goBy 3 [some (.ref 0), some (.int p0), some (.int p1), none] [] (0 + am_bc mX9_goBy) (0 + am_bs mX9_goBy) Q)) : WP mL_goBy 0 (am_ent 4 [.ref 0, .int p0, .int p1]) [] (G X I L F) 0 0 Q := by
  refine w_aload_n rL_goBy_0 rfl ?_
  refine w_iload_n rL_goBy_1 rfl ?_
  refine w_iload_n rL_goBy_2 rfl ?_
  refine w_invokevirtual rL_goBy_3 rfl rfl rfl (Nat.le_of_ble_eq_true rfl) ⟨trivial, trivial, trivial, trivial⟩ (G_is (by decide) rfl) (by decide) (by decide) ?_
  exact q
theorem k_L_goBy_6 {X : Nat × (Nat → Int32)} {I : Nat → Nat → Int32} {L : Nat → Nat → Int64} {F : Nat → Nat → UInt32} {Q : AQ} {x1 : Int32} {x2 : Int32} (q : Q (.inl (some (.int 0))) (G X I L F)) : WP mL_goBy 6 [some (.ref 0), some (.int x1), some (.int x2), none] [] (G X I L F) 1 6 Q := by
  refine w_goto rL_goBy_6 ?_
  refine w_iconst rL_goBy_15 (x := 0) (by decide) ?_
  refine w_ireturn rL_goBy_16 trivial ?_
  exact q
theorem k_L_goBy_10 {X : Nat × (Nat → Int32)} {I : Nat → Nat → Int32} {L : Nat → Nat → Int64} {F : Nat → Nat → UInt32} {Q : AQ} {x1 : Int32} {x2 : Int32} (q : Q (.inl (some (.int 1))) (G X I L F)) : WP mL_goBy 10 [some (.ref 0), some (.int x1), some (.int x2), none] [] (G X I L F) 1 6 Q := by
  refine w_iconst rL_goBy_10 (x := 1) (by decide) ?_
  refine w_ireturn rL_goBy_11 trivial ?_
  exact q
theorem k_L_goBy_13 {X : Nat × (Nat → Int32)} {I : Nat → Nat → Int32} {L : Nat → Nat → Int64} {F : Nat → Nat → UInt32} {Q : AQ} {x1 : Int32} {x2 : Int32} (q : Q (.inl (some (.int 2))) (G X I L F)) : WP mL_goBy 13 [some (.ref 0), some (.int x1), some (.int x2), none] [] (G X I L F) 1 6 Q := by
  refine w_iconst rL_goBy_13 (x := 2) (by decide) ?_
  refine w_ireturn rL_goBy_14 trivial ?_
  exact q
theorem k_L_level_0 {X : Nat × (Nat → Int32)} {I : Nat → Nat → Int32} {L : Nat → Nat → Int64} {F : Nat → Nat → UInt32} {Q : AQ} {p0 : Int32} (q : WP mX9_level 0 (am_ent 2 [.ref 0, .int p0]) [] (G X I L F) 0 0 (am_kq mL_level 4 [some (.ref 0), some (.int p0), some (.ref 540), none] [.ref 540, .int 0] (0 + am_bc mX9_level) (0 + am_bs mX9_level) Q)) : WP mL_level 0 (am_ent 4 [.ref 0, .int p0, .ref 540]) [] (G X I L F) 0 0 Q := by
  refine w_aload_n rL_level_0 rfl ?_
  refine w_iconst rL_level_1 (x := 0) (by decide) ?_
  refine w_aload_n rL_level_2 rfl ?_
  refine w_iload_n rL_level_3 rfl ?_
  refine w_invokevirtual rL_level_4 rfl rfl rfl (Nat.le_of_ble_eq_true rfl) ⟨trivial, trivial, trivial⟩ (G_is (by decide) rfl) (by decide) (by decide) ?_
  exact q
theorem k_L_level_7 {X : Nat × (Nat → Int32)} {I : Nat → Nat → Int32} {L : Nat → Nat → Int64} {F : Nat → Nat → UInt32} {Q : AQ} {x1 : Int32} {e1 : Int32} {e2 : Int32} (q : vp_in e1 1 ∧ (Q (.inl (some (.int 0))) (G X I (am_u L 540 (Int32.toNatClampNeg e1) (Int32.toInt64 e2)) F))) : WP mL_level 7 [some (.ref 0), some (.int x1), some (.ref 540), none] [.ref 540, .int e1, .int e2] (G X I L F) 1 6 Q := by
  refine w_i2l rL_level_7 ?_
  have h8 := q.1
  replace q := q.2
  refine w_lastore rL_level_8 (G_at (by decide) rfl rfl h8) ?_
  rw [G_sL]
  refine w_goto rL_level_9 ?_
  refine w_iconst rL_level_15 (x := 0) (by decide) ?_
  refine w_ireturn rL_level_16 trivial ?_
  exact q
theorem k_L_level_13 {X : Nat × (Nat → Int32)} {I : Nat → Nat → Int32} {L : Nat → Nat → Int64} {F : Nat → Nat → UInt32} {Q : AQ} {x1 : Int32} (q : Q (.inl (some (.int 1))) (G X I L F)) : WP mL_level 13 [some (.ref 0), some (.int x1), some (.ref 540), none] [] (G X I L F) 1 6 Q := by
  refine w_iconst rL_level_13 (x := 1) (by decide) ?_
  refine w_ireturn rL_level_14 trivial ?_
  exact q
theorem k_L_below_0 {X : Nat × (Nat → Int32)} {I : Nat → Nat → Int32} {L : Nat → Nat → Int64} {F : Nat → Nat → UInt32} {Q : AQ} {p0 : Int32} {p1 : Int32} (q : WP mX9_below 0 (am_ent 3 [.ref 0, .int p0, .int p1]) [] (G X I L F) 0 0 (am_kq mL_below 5 [some (.ref 0), some (.int p0), some (.int p1), some (.ref 540), none] [.ref 540, .int 0] (0 + am_bc mX9_below) (0 + am_bs mX9_below) Q)) : WP mL_below 0 (am_ent 5 [.ref 0, .int p0, .int p1, .ref 540]) [] (G X I L F) 0 0 Q := by
  refine w_aload_n rL_below_0 rfl ?_
  refine w_iconst rL_below_1 (x := 0) (by decide) ?_
  refine w_aload_n rL_below_2 rfl ?_
  refine w_iload_n rL_below_3 rfl ?_
  refine w_iload_n rL_below_4 rfl ?_
  refine w_invokevirtual rL_below_5 rfl rfl rfl (Nat.le_of_ble_eq_true rfl) ⟨trivial, trivial, trivial, trivial⟩ (G_is (by decide) rfl) (by decide) (by decide) ?_
  exact q
theorem k_L_below_8 {X : Nat × (Nat → Int32)} {I : Nat → Nat → Int32} {L : Nat → Nat → Int64} {F : Nat → Nat → UInt32} {Q : AQ} {x1 : Int32} {x2 : Int32} {e1 : Int32} {e2 : Int32} (q : vp_in e1 1 ∧ (Q (.inl (some (.int 0))) (G X I (am_u L 540 (Int32.toNatClampNeg e1) (Int32.toInt64 e2)) F))) : WP mL_below 8 [some (.ref 0), some (.int x1), some (.int x2), some (.ref 540), none] [.ref 540, .int e1, .int e2] (G X I L F) 1 6 Q := by
  refine w_i2l rL_below_8 ?_
  have h9 := q.1
  replace q := q.2
  refine w_lastore rL_below_9 (G_at (by decide) rfl rfl h9) ?_
  rw [G_sL]
  refine w_goto rL_below_10 ?_
  refine w_iconst rL_below_21 (x := 0) (by decide) ?_
  refine w_ireturn rL_below_22 trivial ?_
  exact q
theorem k_L_below_15 {X : Nat × (Nat → Int32)} {I : Nat → Nat → Int32} {L : Nat → Nat → Int64} {F : Nat → Nat → UInt32} {Q : AQ} {x1 : Int32} {x2 : Int32} (q : Q (.inl (some (.int 1))) (G X I L F)) : WP mL_below 15 [some (.ref 0), some (.int x1), some (.int x2), some (.ref 540), none] [] (G X I L F) 1 6 Q := by
  refine w_iconst rL_below_15 (x := 1) (by decide) ?_
  refine w_ireturn rL_below_16 trivial ?_
  exact q
theorem k_L_below_19 {X : Nat × (Nat → Int32)} {I : Nat → Nat → Int32} {L : Nat → Nat → Int64} {F : Nat → Nat → UInt32} {Q : AQ} {x1 : Int32} {x2 : Int32} (q : Q (.inl (some (.int 2))) (G X I L F)) : WP mL_below 19 [some (.ref 0), some (.int x1), some (.int x2), some (.ref 540), none] [] (G X I L F) 1 6 Q := by
  refine w_iconst rL_below_19 (x := 2) (by decide) ?_
  refine w_ireturn rL_below_20 trivial ?_
  exact q
theorem k_L_valley_0 {X : Nat × (Nat → Int32)} {I : Nat → Nat → Int32} {L : Nat → Nat → Int64} {F : Nat → Nat → UInt32} {Q : AQ} {p0 : Int32} {p1 : Int32} {p2 : Int32} {p3 : Int32} (q : WP mX9_valley 0 (am_ent 6 [.ref 0, .int p0, .int p1, .int p2, .int p3]) [] (G X I L F) 0 0 (am_kq mL_valley 6 [some (.ref 0), some (.int p0), some (.int p1), some (.int p2), some (.int p3), none] [] (0 + am_bc mX9_valley) (0 + am_bs mX9_valley) Q)) : WP mL_valley 0 (am_ent 6 [.ref 0, .int p0, .int p1, .int p2, .int p3]) [] (G X I L F) 0 0 Q := by
  refine w_aload_n rL_valley_0 rfl ?_
  refine w_iload_n rL_valley_1 rfl ?_
  refine w_iload_n rL_valley_2 rfl ?_
  refine w_iload_n rL_valley_3 rfl ?_
  refine w_iload rL_valley_4 rfl ?_
  refine w_invokevirtual rL_valley_6 rfl rfl rfl (Nat.le_of_ble_eq_true rfl) ⟨trivial, trivial, trivial, trivial, trivial, trivial⟩ (G_is (by decide) rfl) (by decide) (by decide) ?_
  exact q
theorem k_L_valley_9 {X : Nat × (Nat → Int32)} {I : Nat → Nat → Int32} {L : Nat → Nat → Int64} {F : Nat → Nat → UInt32} {Q : AQ} {x1 : Int32} {x2 : Int32} {x3 : Int32} {x4 : Int32} (q : Q (.inl (some (.int 0))) (G X I L F)) : WP mL_valley 9 [some (.ref 0), some (.int x1), some (.int x2), some (.int x3), some (.int x4), none] [] (G X I L F) 1 6 Q := by
  refine w_goto rL_valley_9 ?_
  refine w_iconst rL_valley_24 (x := 0) (by decide) ?_
  refine w_ireturn rL_valley_25 trivial ?_
  exact q
theorem k_L_valley_14 {X : Nat × (Nat → Int32)} {I : Nat → Nat → Int32} {L : Nat → Nat → Int64} {F : Nat → Nat → UInt32} {Q : AQ} {x1 : Int32} {x2 : Int32} {x3 : Int32} {x4 : Int32} (q : Q (.inl (some (.int 1))) (G X I L F)) : WP mL_valley 14 [some (.ref 0), some (.int x1), some (.int x2), some (.int x3), some (.int x4), none] [] (G X I L F) 1 6 Q := by
  refine w_iconst rL_valley_14 (x := 1) (by decide) ?_
  refine w_ireturn rL_valley_15 trivial ?_
  exact q
theorem k_L_valley_18 {X : Nat × (Nat → Int32)} {I : Nat → Nat → Int32} {L : Nat → Nat → Int64} {F : Nat → Nat → UInt32} {Q : AQ} {x1 : Int32} {x2 : Int32} {x3 : Int32} {x4 : Int32} (q : Q (.inl (some (.int 2))) (G X I L F)) : WP mL_valley 18 [some (.ref 0), some (.int x1), some (.int x2), some (.int x3), some (.int x4), none] [] (G X I L F) 1 6 Q := by
  refine w_iconst rL_valley_18 (x := 2) (by decide) ?_
  refine w_ireturn rL_valley_19 trivial ?_
  exact q
theorem k_L_valley_22 {X : Nat × (Nat → Int32)} {I : Nat → Nat → Int32} {L : Nat → Nat → Int64} {F : Nat → Nat → UInt32} {Q : AQ} {x1 : Int32} {x2 : Int32} {x3 : Int32} {x4 : Int32} (q : Q (.inl (some (.int 3))) (G X I L F)) : WP mL_valley 22 [some (.ref 0), some (.int x1), some (.int x2), some (.int x3), some (.int x4), none] [] (G X I L F) 1 6 Q := by
  refine w_iconst rL_valley_22 (x := 3) (by decide) ?_
  refine w_ireturn rL_valley_23 trivial ?_
  exact q
theorem k_L_sound_0 {X : Nat × (Nat → Int32)} {I : Nat → Nat → Int32} {L : Nat → Nat → Int64} {F : Nat → Nat → UInt32} {Q : AQ} {p0 : Int32} {p1 : Int32} (q : WP mX9_sound 0 (am_ent 5 [.ref 0, .int p0, .int p1]) [] (G X I L F) 0 0 (am_kq mL_sound 5 [some (.ref 0), some (.int p0), some (.int p1), some (.ref 540), none] [.ref 540, .int 0] (0 + am_bc mX9_sound) (0 + am_bs mX9_sound) Q)) : WP mL_sound 0 (am_ent 5 [.ref 0, .int p0, .int p1, .ref 540]) [] (G X I L F) 0 0 Q := by
  refine w_aload_n rL_sound_0 rfl ?_
  refine w_iconst rL_sound_1 (x := 0) (by decide) ?_
  refine w_aload_n rL_sound_2 rfl ?_
  refine w_iload_n rL_sound_3 rfl ?_
  refine w_iload_n rL_sound_4 rfl ?_
  refine w_invokevirtual rL_sound_5 rfl rfl rfl (Nat.le_of_ble_eq_true rfl) ⟨trivial, trivial, trivial, trivial⟩ (G_is (by decide) rfl) (by decide) (by decide) ?_
  exact q
theorem k_L_sound_8 {X : Nat × (Nat → Int32)} {I : Nat → Nat → Int32} {L : Nat → Nat → Int64} {F : Nat → Nat → UInt32} {Q : AQ} {x1 : Int32} {x2 : Int32} {e1 : Int32} {e2 : Int32} (q : vp_in e1 1 ∧ (Q (.inl (some (.int 0))) (G X I (am_u L 540 (Int32.toNatClampNeg e1) (Int32.toInt64 e2)) F))) : WP mL_sound 8 [some (.ref 0), some (.int x1), some (.int x2), some (.ref 540), none] [.ref 540, .int e1, .int e2] (G X I L F) 1 6 Q := by
  refine w_i2l rL_sound_8 ?_
  have h9 := q.1
  replace q := q.2
  refine w_lastore rL_sound_9 (G_at (by decide) rfl rfl h9) ?_
  rw [G_sL]
  refine w_goto rL_sound_10 ?_
  refine w_iconst rL_sound_21 (x := 0) (by decide) ?_
  refine w_ireturn rL_sound_22 trivial ?_
  exact q
theorem k_L_sound_15 {X : Nat × (Nat → Int32)} {I : Nat → Nat → Int32} {L : Nat → Nat → Int64} {F : Nat → Nat → UInt32} {Q : AQ} {x1 : Int32} {x2 : Int32} (q : Q (.inl (some (.int 1))) (G X I L F)) : WP mL_sound 15 [some (.ref 0), some (.int x1), some (.int x2), some (.ref 540), none] [] (G X I L F) 1 6 Q := by
  refine w_iconst rL_sound_15 (x := 1) (by decide) ?_
  refine w_ireturn rL_sound_16 trivial ?_
  exact q
theorem k_L_sound_19 {X : Nat × (Nat → Int32)} {I : Nat → Nat → Int32} {L : Nat → Nat → Int64} {F : Nat → Nat → UInt32} {Q : AQ} {x1 : Int32} {x2 : Int32} (q : Q (.inl (some (.int 2))) (G X I L F)) : WP mL_sound 19 [some (.ref 0), some (.int x1), some (.int x2), some (.ref 540), none] [] (G X I L F) 1 6 Q := by
  refine w_iconst rL_sound_19 (x := 2) (by decide) ?_
  refine w_ireturn rL_sound_20 trivial ?_
  exact q
theorem k_L_siren_0 {X : Nat × (Nat → Int32)} {I : Nat → Nat → Int32} {L : Nat → Nat → Int64} {F : Nat → Nat → UInt32} {Q : AQ} {p0 : Int32} (q : WP mX9_siren 0 (am_ent 2 [.ref 0, .int p0]) [] (G X I L F) 0 0 (am_kq mL_siren 4 [some (.ref 0), some (.int p0), some (.ref 540), none] [.ref 540, .int 0] (0 + am_bc mX9_siren) (0 + am_bs mX9_siren) Q)) : WP mL_siren 0 (am_ent 4 [.ref 0, .int p0, .ref 540]) [] (G X I L F) 0 0 Q := by
  refine w_aload_n rL_siren_0 rfl ?_
  refine w_iconst rL_siren_1 (x := 0) (by decide) ?_
  refine w_aload_n rL_siren_2 rfl ?_
  refine w_iload_n rL_siren_3 rfl ?_
  refine w_invokevirtual rL_siren_4 rfl rfl rfl (Nat.le_of_ble_eq_true rfl) ⟨trivial, trivial, trivial⟩ (G_is (by decide) rfl) (by decide) (by decide) ?_
  exact q
theorem k_L_siren_7 {X : Nat × (Nat → Int32)} {I : Nat → Nat → Int32} {L : Nat → Nat → Int64} {F : Nat → Nat → UInt32} {Q : AQ} {x1 : Int32} {e1 : Int32} {e2 : Int32} (q : vp_in e1 1 ∧ (Q (.inl (some (.int 0))) (G X I (am_u L 540 (Int32.toNatClampNeg e1) (Int32.toInt64 e2)) F))) : WP mL_siren 7 [some (.ref 0), some (.int x1), some (.ref 540), none] [.ref 540, .int e1, .int e2] (G X I L F) 1 6 Q := by
  refine w_i2l rL_siren_7 ?_
  have h8 := q.1
  replace q := q.2
  refine w_lastore rL_siren_8 (G_at (by decide) rfl rfl h8) ?_
  rw [G_sL]
  refine w_goto rL_siren_9 ?_
  refine w_iconst rL_siren_15 (x := 0) (by decide) ?_
  refine w_ireturn rL_siren_16 trivial ?_
  exact q
theorem k_L_siren_13 {X : Nat × (Nat → Int32)} {I : Nat → Nat → Int32} {L : Nat → Nat → Int64} {F : Nat → Nat → UInt32} {Q : AQ} {x1 : Int32} (q : Q (.inl (some (.int 1))) (G X I L F)) : WP mL_siren 13 [some (.ref 0), some (.int x1), some (.ref 540), none] [] (G X I L F) 1 6 Q := by
  refine w_iconst rL_siren_13 (x := 1) (by decide) ?_
  refine w_ireturn rL_siren_14 trivial ?_
  exact q
theorem k_L_walkers_0 {X : Nat × (Nat → Int32)} {I : Nat → Nat → Int32} {L : Nat → Nat → Int64} {F : Nat → Nat → UInt32} {Q : AQ} {p0 : Int32} (q : WP mX9_walkers 0 (am_ent 2 [.ref 0, .int p0]) [] (G X I L F) 0 0 (am_kq mL_walkers 4 [some (.ref 0), some (.int p0), some (.ref 540), none] [.ref 540, .int 0] (0 + am_bc mX9_walkers) (0 + am_bs mX9_walkers) Q)) : WP mL_walkers 0 (am_ent 4 [.ref 0, .int p0, .ref 540]) [] (G X I L F) 0 0 Q := by
  refine w_aload_n rL_walkers_0 rfl ?_
  refine w_iconst rL_walkers_1 (x := 0) (by decide) ?_
  refine w_aload_n rL_walkers_2 rfl ?_
  refine w_iload_n rL_walkers_3 rfl ?_
  refine w_invokevirtual rL_walkers_4 rfl rfl rfl (Nat.le_of_ble_eq_true rfl) ⟨trivial, trivial, trivial⟩ (G_is (by decide) rfl) (by decide) (by decide) ?_
  exact q
theorem k_L_walkers_7 {X : Nat × (Nat → Int32)} {I : Nat → Nat → Int32} {L : Nat → Nat → Int64} {F : Nat → Nat → UInt32} {Q : AQ} {x1 : Int32} {e1 : Int32} {e2 : Int32} (q : vp_in e1 1 ∧ (Q (.inl (some (.int 0))) (G X I (am_u L 540 (Int32.toNatClampNeg e1) (Int32.toInt64 e2)) F))) : WP mL_walkers 7 [some (.ref 0), some (.int x1), some (.ref 540), none] [.ref 540, .int e1, .int e2] (G X I L F) 1 6 Q := by
  refine w_i2l rL_walkers_7 ?_
  have h8 := q.1
  replace q := q.2
  refine w_lastore rL_walkers_8 (G_at (by decide) rfl rfl h8) ?_
  rw [G_sL]
  refine w_goto rL_walkers_9 ?_
  refine w_iconst rL_walkers_15 (x := 0) (by decide) ?_
  refine w_ireturn rL_walkers_16 trivial ?_
  exact q
theorem k_L_walkers_13 {X : Nat × (Nat → Int32)} {I : Nat → Nat → Int32} {L : Nat → Nat → Int64} {F : Nat → Nat → UInt32} {Q : AQ} {x1 : Int32} (q : Q (.inl (some (.int 1))) (G X I L F)) : WP mL_walkers 13 [some (.ref 0), some (.int x1), some (.ref 540), none] [] (G X I L F) 1 6 Q := by
  refine w_iconst rL_walkers_13 (x := 1) (by decide) ?_
  refine w_ireturn rL_walkers_14 trivial ?_
  exact q
theorem k_L_trust_0 {X : Nat × (Nat → Int32)} {I : Nat → Nat → Int32} {L : Nat → Nat → Int64} {F : Nat → Nat → UInt32} {Q : AQ} {p0 : Int32} (q : WP mX9_trust 0 (am_ent 2 [.ref 0, .int p0]) [] (G X I L F) 0 0 (am_kq mL_trust 4 [some (.ref 0), some (.int p0), some (.ref 540), none] [.ref 540, .int 0] (0 + am_bc mX9_trust) (0 + am_bs mX9_trust) Q)) : WP mL_trust 0 (am_ent 4 [.ref 0, .int p0, .ref 540]) [] (G X I L F) 0 0 Q := by
  refine w_aload_n rL_trust_0 rfl ?_
  refine w_iconst rL_trust_1 (x := 0) (by decide) ?_
  refine w_aload_n rL_trust_2 rfl ?_
  refine w_iload_n rL_trust_3 rfl ?_
  refine w_invokevirtual rL_trust_4 rfl rfl rfl (Nat.le_of_ble_eq_true rfl) ⟨trivial, trivial, trivial⟩ (G_is (by decide) rfl) (by decide) (by decide) ?_
  exact q
theorem k_L_trust_7 {X : Nat × (Nat → Int32)} {I : Nat → Nat → Int32} {L : Nat → Nat → Int64} {F : Nat → Nat → UInt32} {Q : AQ} {x1 : Int32} {e1 : Int32} {e2 : Int32} (q : vp_in e1 1 ∧ (Q (.inl (some (.int 0))) (G X I (am_u L 540 (Int32.toNatClampNeg e1) (Int32.toInt64 e2)) F))) : WP mL_trust 7 [some (.ref 0), some (.int x1), some (.ref 540), none] [.ref 540, .int e1, .int e2] (G X I L F) 1 6 Q := by
  refine w_i2l rL_trust_7 ?_
  have h8 := q.1
  replace q := q.2
  refine w_lastore rL_trust_8 (G_at (by decide) rfl rfl h8) ?_
  rw [G_sL]
  refine w_goto rL_trust_9 ?_
  refine w_iconst rL_trust_15 (x := 0) (by decide) ?_
  refine w_ireturn rL_trust_16 trivial ?_
  exact q
theorem k_L_trust_13 {X : Nat × (Nat → Int32)} {I : Nat → Nat → Int32} {L : Nat → Nat → Int64} {F : Nat → Nat → UInt32} {Q : AQ} {x1 : Int32} (q : Q (.inl (some (.int 1))) (G X I L F)) : WP mL_trust 13 [some (.ref 0), some (.int x1), some (.ref 540), none] [] (G X I L F) 1 6 Q := by
  refine w_iconst rL_trust_13 (x := 1) (by decide) ?_
  refine w_ireturn rL_trust_14 trivial ?_
  exact q
theorem k_L_saved_0 {X : Nat × (Nat → Int32)} {I : Nat → Nat → Int32} {L : Nat → Nat → Int64} {F : Nat → Nat → UInt32} {Q : AQ} {p0 : Int32} (q : WP mX9_saved 0 (am_ent 2 [.ref 0, .int p0]) [] (G X I L F) 0 0 (am_kq mL_saved 4 [some (.ref 0), some (.int p0), some (.ref 540), none] [.ref 540, .int 0] (0 + am_bc mX9_saved) (0 + am_bs mX9_saved) Q)) : WP mL_saved 0 (am_ent 4 [.ref 0, .int p0, .ref 540]) [] (G X I L F) 0 0 Q := by
  refine w_aload_n rL_saved_0 rfl ?_
  refine w_iconst rL_saved_1 (x := 0) (by decide) ?_
  refine w_aload_n rL_saved_2 rfl ?_
  refine w_iload_n rL_saved_3 rfl ?_
  refine w_invokevirtual rL_saved_4 rfl rfl rfl (Nat.le_of_ble_eq_true rfl) ⟨trivial, trivial, trivial⟩ (G_is (by decide) rfl) (by decide) (by decide) ?_
  exact q
theorem k_L_saved_7 {X : Nat × (Nat → Int32)} {I : Nat → Nat → Int32} {L : Nat → Nat → Int64} {F : Nat → Nat → UInt32} {Q : AQ} {x1 : Int32} {e1 : Int32} {e2 : Int32} (q : vp_in e1 1 ∧ (Q (.inl (some (.int 0))) (G X I (am_u L 540 (Int32.toNatClampNeg e1) (Int32.toInt64 e2)) F))) : WP mL_saved 7 [some (.ref 0), some (.int x1), some (.ref 540), none] [.ref 540, .int e1, .int e2] (G X I L F) 1 6 Q := by
  refine w_i2l rL_saved_7 ?_
  have h8 := q.1
  replace q := q.2
  refine w_lastore rL_saved_8 (G_at (by decide) rfl rfl h8) ?_
  rw [G_sL]
  refine w_goto rL_saved_9 ?_
  refine w_iconst rL_saved_15 (x := 0) (by decide) ?_
  refine w_ireturn rL_saved_16 trivial ?_
  exact q
theorem k_L_saved_13 {X : Nat × (Nat → Int32)} {I : Nat → Nat → Int32} {L : Nat → Nat → Int64} {F : Nat → Nat → UInt32} {Q : AQ} {x1 : Int32} (q : Q (.inl (some (.int 1))) (G X I L F)) : WP mL_saved 13 [some (.ref 0), some (.int x1), some (.ref 540), none] [] (G X I L F) 1 6 Q := by
  refine w_iconst rL_saved_13 (x := 1) (by decide) ?_
  refine w_ireturn rL_saved_14 trivial ?_
  exact q
theorem k_L_pass_0 {X : Nat × (Nat → Int32)} {I : Nat → Nat → Int32} {L : Nat → Nat → Int64} {F : Nat → Nat → UInt32} {Q : AQ} {p0 : Int32} (q : WP mX9_pass 0 (am_ent 4 [.ref 0, .int p0]) [] (G X I L F) 0 0 (am_kq mL_pass 4 [some (.ref 0), some (.int p0), some (.ref 540), none] [.ref 540, .int 0] (0 + am_bc mX9_pass) (0 + am_bs mX9_pass) Q)) : WP mL_pass 0 (am_ent 4 [.ref 0, .int p0, .ref 540]) [] (G X I L F) 0 0 Q := by
  refine w_aload_n rL_pass_0 rfl ?_
  refine w_iconst rL_pass_1 (x := 0) (by decide) ?_
  refine w_aload_n rL_pass_2 rfl ?_
  refine w_iload_n rL_pass_3 rfl ?_
  refine w_invokevirtual rL_pass_4 rfl rfl rfl (Nat.le_of_ble_eq_true rfl) ⟨trivial, trivial, trivial⟩ (G_is (by decide) rfl) (by decide) (by decide) ?_
  exact q
theorem k_L_pass_7 {X : Nat × (Nat → Int32)} {I : Nat → Nat → Int32} {L : Nat → Nat → Int64} {F : Nat → Nat → UInt32} {Q : AQ} {x1 : Int32} {e1 : Int32} {e2 : Int32} (q : vp_in e1 1 ∧ (Q (.inl (some (.int 0))) (G X I (am_u L 540 (Int32.toNatClampNeg e1) (Int32.toInt64 e2)) F))) : WP mL_pass 7 [some (.ref 0), some (.int x1), some (.ref 540), none] [.ref 540, .int e1, .int e2] (G X I L F) 1 6 Q := by
  refine w_i2l rL_pass_7 ?_
  have h8 := q.1
  replace q := q.2
  refine w_lastore rL_pass_8 (G_at (by decide) rfl rfl h8) ?_
  rw [G_sL]
  refine w_goto rL_pass_9 ?_
  refine w_iconst rL_pass_18 (x := 0) (by decide) ?_
  refine w_ireturn rL_pass_19 trivial ?_
  exact q
theorem k_L_pass_13 {X : Nat × (Nat → Int32)} {I : Nat → Nat → Int32} {L : Nat → Nat → Int64} {F : Nat → Nat → UInt32} {Q : AQ} {x1 : Int32} (q : Q (.inl (some (.int 1))) (G X I L F)) : WP mL_pass 13 [some (.ref 0), some (.int x1), some (.ref 540), none] [] (G X I L F) 1 6 Q := by
  refine w_iconst rL_pass_13 (x := 1) (by decide) ?_
  refine w_ireturn rL_pass_14 trivial ?_
  exact q
theorem k_L_pass_16 {X : Nat × (Nat → Int32)} {I : Nat → Nat → Int32} {L : Nat → Nat → Int64} {F : Nat → Nat → UInt32} {Q : AQ} {x1 : Int32} (q : Q (.inl (some (.int 2))) (G X I L F)) : WP mL_pass 16 [some (.ref 0), some (.int x1), some (.ref 540), none] [] (G X I L F) 1 6 Q := by
  refine w_iconst rL_pass_16 (x := 2) (by decide) ?_
  refine w_ireturn rL_pass_17 trivial ?_
  exact q
