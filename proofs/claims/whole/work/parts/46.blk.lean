/-! own: the blocks of the methods that go round or call on, written by a program -/
set_option maxRecDepth 100000
theorem k_L_walkers_0 {X : Nat × (Nat → Int32)} {I : Nat → Nat → Int32} {L : Nat → Nat → Int64} {F : Nat → Nat → UInt32} {Q : AQ} {p0 : Int32} (q : WP mX9_walkers 0 (am_ent 2 [.ref 0, .int p0]) [] (G X I L F) 0 0 (am_kq mL_walkers 4 [some (.ref 0), some (.int p0), some (.ref 540), none] [.int 0, .ref 540] (0 + am_bc mX9_walkers) (0 + am_bs mX9_walkers) Q)) : WP mL_walkers 0 (am_ent 4 [.ref 0, .int p0, .ref 540]) [] (G X I L F) 0 0 Q := by
  refine w_aload_n rL_walkers_0 rfl ?_
  refine w_iconst rL_walkers_1 (x := 0) (by decide) ?_
  refine w_aload_n rL_walkers_2 rfl ?_
  refine w_iload_n rL_walkers_3 rfl ?_
  refine w_invokevirtual rL_walkers_4 rfl rfl rfl (Nat.le_of_ble_eq_true rfl) ⟨trivial, trivial, trivial⟩ (G_is (by decide) rfl) (by decide) (by decide) ?_
  exact q
theorem k_L_walkers_7 {X : Nat × (Nat → Int32)} {I : Nat → Nat → Int32} {L : Nat → Nat → Int64} {F : Nat → Nat → UInt32} {Q : AQ} {x1 : Int32} {e1 : Int32} {e2 : Int32} (q : vp_in e1 1 ∧ (Q (.inl (some (.int 0))) (G X I (am_u L 540 (Int32.toNatClampNeg e1) (Int32.toInt64 e2)) F))) : WP mL_walkers 7 [some (.ref 0), some (.int x1), some (.ref 540), none] [.int e2, .int e1, .ref 540] (G X I L F) 1 6 Q := by
  refine w_i2l rL_walkers_7 ?_
  have h8 := q.1
  replace q := q.2
  refine x_lastore rL_walkers_8 (G_at (by decide) rfl rfl h8) ?_
  refine w_goto rL_walkers_9 ?_
  refine w_iconst rL_walkers_15 (x := 0) (by decide) ?_
  refine w_ireturn rL_walkers_16 trivial ?_
  exact q
theorem k_L_walkers_13 {X : Nat × (Nat → Int32)} {I : Nat → Nat → Int32} {L : Nat → Nat → Int64} {F : Nat → Nat → UInt32} {Q : AQ} {x1 : Int32} (q : Q (.inl (some (.int 1))) (G X I L F)) : WP mL_walkers 13 [some (.ref 0), some (.int x1), some (.ref 540), none] [] (G X I L F) 1 6 Q := by
  refine w_iconst rL_walkers_13 (x := 1) (by decide) ?_
  refine w_ireturn rL_walkers_14 trivial ?_
  exact q
theorem k_L_trust_0 {X : Nat × (Nat → Int32)} {I : Nat → Nat → Int32} {L : Nat → Nat → Int64} {F : Nat → Nat → UInt32} {Q : AQ} {p0 : Int32} (q : WP mX9_trust 0 (am_ent 2 [.ref 0, .int p0]) [] (G X I L F) 0 0 (am_kq mL_trust 4 [some (.ref 0), some (.int p0), some (.ref 540), none] [.int 0, .ref 540] (0 + am_bc mX9_trust) (0 + am_bs mX9_trust) Q)) : WP mL_trust 0 (am_ent 4 [.ref 0, .int p0, .ref 540]) [] (G X I L F) 0 0 Q := by
  refine w_aload_n rL_trust_0 rfl ?_
  refine w_iconst rL_trust_1 (x := 0) (by decide) ?_
  refine w_aload_n rL_trust_2 rfl ?_
  refine w_iload_n rL_trust_3 rfl ?_
  refine w_invokevirtual rL_trust_4 rfl rfl rfl (Nat.le_of_ble_eq_true rfl) ⟨trivial, trivial, trivial⟩ (G_is (by decide) rfl) (by decide) (by decide) ?_
  exact q
theorem k_L_trust_7 {X : Nat × (Nat → Int32)} {I : Nat → Nat → Int32} {L : Nat → Nat → Int64} {F : Nat → Nat → UInt32} {Q : AQ} {x1 : Int32} {e1 : Int32} {e2 : Int32} (q : vp_in e1 1 ∧ (Q (.inl (some (.int 0))) (G X I (am_u L 540 (Int32.toNatClampNeg e1) (Int32.toInt64 e2)) F))) : WP mL_trust 7 [some (.ref 0), some (.int x1), some (.ref 540), none] [.int e2, .int e1, .ref 540] (G X I L F) 1 6 Q := by
  refine w_i2l rL_trust_7 ?_
  have h8 := q.1
  replace q := q.2
  refine x_lastore rL_trust_8 (G_at (by decide) rfl rfl h8) ?_
  refine w_goto rL_trust_9 ?_
  refine w_iconst rL_trust_15 (x := 0) (by decide) ?_
  refine w_ireturn rL_trust_16 trivial ?_
  exact q
theorem k_L_trust_13 {X : Nat × (Nat → Int32)} {I : Nat → Nat → Int32} {L : Nat → Nat → Int64} {F : Nat → Nat → UInt32} {Q : AQ} {x1 : Int32} (q : Q (.inl (some (.int 1))) (G X I L F)) : WP mL_trust 13 [some (.ref 0), some (.int x1), some (.ref 540), none] [] (G X I L F) 1 6 Q := by
  refine w_iconst rL_trust_13 (x := 1) (by decide) ?_
  refine w_ireturn rL_trust_14 trivial ?_
  exact q
theorem k_L_saved_0 {X : Nat × (Nat → Int32)} {I : Nat → Nat → Int32} {L : Nat → Nat → Int64} {F : Nat → Nat → UInt32} {Q : AQ} {p0 : Int32} (q : WP mX9_saved 0 (am_ent 2 [.ref 0, .int p0]) [] (G X I L F) 0 0 (am_kq mL_saved 4 [some (.ref 0), some (.int p0), some (.ref 540), none] [.int 0, .ref 540] (0 + am_bc mX9_saved) (0 + am_bs mX9_saved) Q)) : WP mL_saved 0 (am_ent 4 [.ref 0, .int p0, .ref 540]) [] (G X I L F) 0 0 Q := by
  refine w_aload_n rL_saved_0 rfl ?_
  refine w_iconst rL_saved_1 (x := 0) (by decide) ?_
  refine w_aload_n rL_saved_2 rfl ?_
  refine w_iload_n rL_saved_3 rfl ?_
  refine w_invokevirtual rL_saved_4 rfl rfl rfl (Nat.le_of_ble_eq_true rfl) ⟨trivial, trivial, trivial⟩ (G_is (by decide) rfl) (by decide) (by decide) ?_
  exact q
theorem k_L_saved_7 {X : Nat × (Nat → Int32)} {I : Nat → Nat → Int32} {L : Nat → Nat → Int64} {F : Nat → Nat → UInt32} {Q : AQ} {x1 : Int32} {e1 : Int32} {e2 : Int32} (q : vp_in e1 1 ∧ (Q (.inl (some (.int 0))) (G X I (am_u L 540 (Int32.toNatClampNeg e1) (Int32.toInt64 e2)) F))) : WP mL_saved 7 [some (.ref 0), some (.int x1), some (.ref 540), none] [.int e2, .int e1, .ref 540] (G X I L F) 1 6 Q := by
  refine w_i2l rL_saved_7 ?_
  have h8 := q.1
  replace q := q.2
  refine x_lastore rL_saved_8 (G_at (by decide) rfl rfl h8) ?_
  refine w_goto rL_saved_9 ?_
  refine w_iconst rL_saved_15 (x := 0) (by decide) ?_
  refine w_ireturn rL_saved_16 trivial ?_
  exact q
theorem k_L_saved_13 {X : Nat × (Nat → Int32)} {I : Nat → Nat → Int32} {L : Nat → Nat → Int64} {F : Nat → Nat → UInt32} {Q : AQ} {x1 : Int32} (q : Q (.inl (some (.int 1))) (G X I L F)) : WP mL_saved 13 [some (.ref 0), some (.int x1), some (.ref 540), none] [] (G X I L F) 1 6 Q := by
  refine w_iconst rL_saved_13 (x := 1) (by decide) ?_
  refine w_ireturn rL_saved_14 trivial ?_
  exact q
theorem k_L_pass_0 {X : Nat × (Nat → Int32)} {I : Nat → Nat → Int32} {L : Nat → Nat → Int64} {F : Nat → Nat → UInt32} {Q : AQ} {p0 : Int32} (q : WP mX9_pass 0 (am_ent 4 [.ref 0, .int p0]) [] (G X I L F) 0 0 (am_kq mL_pass 4 [some (.ref 0), some (.int p0), some (.ref 540), none] [.int 0, .ref 540] (0 + am_bc mX9_pass) (0 + am_bs mX9_pass) Q)) : WP mL_pass 0 (am_ent 4 [.ref 0, .int p0, .ref 540]) [] (G X I L F) 0 0 Q := by
  refine w_aload_n rL_pass_0 rfl ?_
  refine w_iconst rL_pass_1 (x := 0) (by decide) ?_
  refine w_aload_n rL_pass_2 rfl ?_
  refine w_iload_n rL_pass_3 rfl ?_
  refine w_invokevirtual rL_pass_4 rfl rfl rfl (Nat.le_of_ble_eq_true rfl) ⟨trivial, trivial, trivial⟩ (G_is (by decide) rfl) (by decide) (by decide) ?_
  exact q
theorem k_L_pass_7 {X : Nat × (Nat → Int32)} {I : Nat → Nat → Int32} {L : Nat → Nat → Int64} {F : Nat → Nat → UInt32} {Q : AQ} {x1 : Int32} {e1 : Int32} {e2 : Int32} (q : vp_in e1 1 ∧ (Q (.inl (some (.int 0))) (G X I (am_u L 540 (Int32.toNatClampNeg e1) (Int32.toInt64 e2)) F))) : WP mL_pass 7 [some (.ref 0), some (.int x1), some (.ref 540), none] [.int e2, .int e1, .ref 540] (G X I L F) 1 6 Q := by
  refine w_i2l rL_pass_7 ?_
  have h8 := q.1
  replace q := q.2
  refine x_lastore rL_pass_8 (G_at (by decide) rfl rfl h8) ?_
  refine w_goto rL_pass_9 ?_
  refine w_iconst rL_pass_18 (x := 0) (by decide) ?_
  refine w_ireturn rL_pass_19 trivial ?_
  exact q
theorem k_L_pass_13 {X : Nat × (Nat → Int32)} {I : Nat → Nat → Int32} {L : Nat → Nat → Int64} {F : Nat → Nat → UInt32} {Q : AQ} {x1 : Int32} (q : Q (.inl (some (.int 1))) (G X I L F)) : WP mL_pass 13 [some (.ref 0), some (.int x1), some (.ref 540), none] [] (G X I L F) 1 6 Q := by
  refine w_iconst rL_pass_13 (x := 1) (by decide) ?_
  refine w_ireturn rL_pass_14 trivial ?_
  exact q
theorem k_L_pass_16 {X : Nat × (Nat → Int32)} {I : Nat → Nat → Int32} {L : Nat → Nat → Int64} {F : Nat → Nat → UInt32} {Q : AQ} {x1 : Int32} (q : Q (.inl (some (.int 2))) (G X I L F)) : WP mL_pass 16 [some (.ref 0), some (.int x1), some (.ref 540), none] [] (G X I L F) 1 6 Q := by
  refine w_iconst rL_pass_16 (x := 2) (by decide) ?_
  refine w_ireturn rL_pass_17 trivial ?_
  exact q
theorem k_L_law_23 {X : Nat × (Nat → Int32)} {I : Nat → Nat → Int32} {L : Nat → Nat → Int64} {F : Nat → Nat → UInt32} {Q : AQ} {c s : Nat} {x4 : Int32} {d5 : Option Value} {d6 : Option Value} (q : (((nI X.1) - 5) < x4 → Q (.inl (some (.int 1))) (G X I L F)) ∧ (¬ ((nI X.1) - 5) < x4 → vp_in x4 X.1 ∧ ((((X.2 (Int32.toNatClampNeg x4)) &&& 31) = 0 → vp_in (x4 + 1) X.1 ∧ ((c + am_bc mL_type ≤ am_bc mL_law ∧ s + am_bs mL_type ≤ am_bs mL_law) ∧ (WP mL_type 0 (am_ent 4 [.ref 0, .int (UInt32.toInt32 ((Int32.toUInt32 (X.2 (Int32.toNatClampNeg (x4 + 1)))) % 65536)), .ref 540]) [] (G X I L F) 0 0 (am_kq mL_law 173 [some (.ref 1000000), some (.ref 0), some (.ref 498), some (.ref 540), some (.int x4), d5, d6] [] (c + am_bc mL_type) (s + am_bs mL_type) Q)))) ∧ (¬ ((X.2 (Int32.toNatClampNeg x4)) &&& 31) = 0 → (((X.2 (Int32.toNatClampNeg x4)) &&& 31) = 1 → (c + am_bc mX9_wipe ≤ am_bc mL_law ∧ s + am_bs mX9_wipe ≤ am_bs mL_law) ∧ (WP mX9_wipe 0 (am_ent 1 [.ref 0]) [] (G X I L F) 0 0 (am_kq mL_law 223 [some (.ref 1000000), some (.ref 0), some (.ref 498), some (.ref 540), some (.int x4), d5, d6] [] (c + am_bc mX9_wipe) (s + am_bs mX9_wipe) Q))) ∧ (¬ ((X.2 (Int32.toNatClampNeg x4)) &&& 31) = 1 → (((X.2 (Int32.toNatClampNeg x4)) &&& 31) = 2 → vp_in (x4 + 1) X.1 ∧ (∀ s242_1 : Int32, s242_1 = (if (X.2 (Int32.toNatClampNeg (x4 + 1))) = 0 then 0 else 1 : Int32) → ((c + am_bc mX9_fault ≤ am_bc mL_law ∧ s + am_bs mX9_fault ≤ am_bs mL_law) ∧ (WP mX9_fault 0 (am_ent 2 [.ref 0, .int s242_1]) [] (G X I L F) 0 0 (am_kq mL_law 250 [some (.ref 1000000), some (.ref 0), some (.ref 498), some (.ref 540), some (.int x4), d5, d6] [] (c + am_bc mX9_fault) (s + am_bs mX9_fault) Q))))) ∧ (¬ ((X.2 (Int32.toNatClampNeg x4)) &&& 31) = 2 → (((X.2 (Int32.toNatClampNeg x4)) &&& 31) = 3 → vp_in (x4 + 1) X.1 ∧ ((c + am_bc mL_publish ≤ am_bc mL_law ∧ s + am_bs mL_publish ≤ am_bs mL_law) ∧ (WP mL_publish 0 (am_ent 4 [.ref 0, .int (X.2 (Int32.toNatClampNeg (x4 + 1))), .ref 540]) [] (G X I L F) 0 0 (am_kq mL_law 284 [some (.ref 1000000), some (.ref 0), some (.ref 498), some (.ref 540), some (.int x4), d5, d6] [] (c + am_bc mL_publish) (s + am_bs mL_publish) Q)))) ∧ (¬ ((X.2 (Int32.toNatClampNeg x4)) &&& 31) = 3 → (((X.2 (Int32.toNatClampNeg x4)) &&& 31) = 4 → vp_in (x4 + 1) X.1 ∧ ((c + am_bc mL_retire ≤ am_bc mL_law ∧ s + am_bs mL_retire ≤ am_bs mL_law) ∧ (WP mL_retire 0 (am_ent 4 [.ref 0, .int (X.2 (Int32.toNatClampNeg (x4 + 1))), .ref 540]) [] (G X I L F) 0 0 (am_kq mL_law 340 [some (.ref 1000000), some (.ref 0), some (.ref 498), some (.ref 540), some (.int x4), d5, d6] [] (c + am_bc mL_retire) (s + am_bs mL_retire) Q)))) ∧ (¬ ((X.2 (Int32.toNatClampNeg x4)) &&& 31) = 4 → (((X.2 (Int32.toNatClampNeg x4)) &&& 31) = 5 → vp_in (x4 + 1) X.1 ∧ ((c + am_bc mL_latest ≤ am_bc mL_law ∧ s + am_bs mL_latest ≤ am_bs mL_law) ∧ (WP mL_latest 0 (am_ent 4 [.ref 0, .int (X.2 (Int32.toNatClampNeg (x4 + 1))), .ref 540]) [] (G X I L F) 0 0 (am_kq mL_law 396 [some (.ref 1000000), some (.ref 0), some (.ref 498), some (.ref 540), some (.int x4), d5, d6] [] (c + am_bc mL_latest) (s + am_bs mL_latest) Q)))) ∧ (¬ ((X.2 (Int32.toNatClampNeg x4)) &&& 31) = 5 → (((X.2 (Int32.toNatClampNeg x4)) &&& 31) = 6 → vp_in (x4 + 1) X.1 ∧ (vp_in (x4 + 2) X.1 ∧ ((c + am_bc mL_pin ≤ am_bc mL_law ∧ s + am_bs mL_pin ≤ am_bs mL_law) ∧ (WP mL_pin 0 (am_ent 5 [.ref 0, .int (X.2 (Int32.toNatClampNeg (x4 + 1))), .int (X.2 (Int32.toNatClampNeg (x4 + 2))), .ref 540]) [] (G X I L F) 0 0 (am_kq mL_law 458 [some (.ref 1000000), some (.ref 0), some (.ref 498), some (.ref 540), some (.int x4), d5, d6] [] (c + am_bc mL_pin) (s + am_bs mL_pin) Q))))) ∧ (¬ ((X.2 (Int32.toNatClampNeg x4)) &&& 31) = 6 → (((X.2 (Int32.toNatClampNeg x4)) &&& 31) = 7 → vp_in (x4 + 1) X.1 ∧ (vp_in (x4 + 2) X.1 ∧ (vp_in (x4 + 3) X.1 ∧ ((c + am_bc mL_rain ≤ am_bc mL_law ∧ s + am_bs mL_rain ≤ am_bs mL_law) ∧ (WP mL_rain 0 (am_ent 6 [.ref 0, .int (X.2 (Int32.toNatClampNeg (x4 + 1))), .int (X.2 (Int32.toNatClampNeg (x4 + 2))), .int (X.2 (Int32.toNatClampNeg (x4 + 3))), .ref 540]) [] (G X I L F) 0 0 (am_kq mL_law 532 [some (.ref 1000000), some (.ref 0), some (.ref 498), some (.ref 540), some (.int x4), d5, d6] [] (c + am_bc mL_rain) (s + am_bs mL_rain) Q)))))) ∧ (¬ ((X.2 (Int32.toNatClampNeg x4)) &&& 31) = 7 → (((X.2 (Int32.toNatClampNeg x4)) &&& 31) = 8 → vp_in (x4 + 1) X.1 ∧ (vp_in (x4 + 2) X.1 ∧ ((c + am_bc mL_out ≤ am_bc mL_law ∧ s + am_bs mL_out ≤ am_bs mL_law) ∧ (WP mL_out 0 (am_ent 5 [.ref 0, .int (X.2 (Int32.toNatClampNeg (x4 + 1))), .int (X.2 (Int32.toNatClampNeg (x4 + 2))), .ref 540]) [] (G X I L F) 0 0 (am_kq mL_law 606 [some (.ref 1000000), some (.ref 0), some (.ref 498), some (.ref 540), some (.int x4), d5, d6] [] (c + am_bc mL_out) (s + am_bs mL_out) Q))))) ∧ (¬ ((X.2 (Int32.toNatClampNeg x4)) &&& 31) = 8 → (((X.2 (Int32.toNatClampNeg x4)) &&& 31) = 9 → vp_in (x4 + 1) X.1 ∧ (vp_in (x4 + 2) X.1 ∧ ((c + am_bc mL_outAnew ≤ am_bc mL_law ∧ s + am_bs mL_outAnew ≤ am_bs mL_law) ∧ (WP mL_outAnew 0 (am_ent 5 [.ref 0, .int (X.2 (Int32.toNatClampNeg (x4 + 1))), .int (X.2 (Int32.toNatClampNeg (x4 + 2))), .ref 540]) [] (G X I L F) 0 0 (am_kq mL_law 674 [some (.ref 1000000), some (.ref 0), some (.ref 498), some (.ref 540), some (.int x4), d5, d6] [] (c + am_bc mL_outAnew) (s + am_bs mL_outAnew) Q))))) ∧ (¬ ((X.2 (Int32.toNatClampNeg x4)) &&& 31) = 9 → (((X.2 (Int32.toNatClampNeg x4)) &&& 31) = 10 → vp_in (x4 + 1) X.1 ∧ (vp_in (x4 + 2) X.1 ∧ ((c + am_bc mL_run ≤ am_bc mL_law ∧ s + am_bs mL_run ≤ am_bs mL_law) ∧ (WP mL_run 0 (am_ent 5 [.ref 0, .int (X.2 (Int32.toNatClampNeg (x4 + 1))), .int (X.2 (Int32.toNatClampNeg (x4 + 2))), .ref 540]) [] (G X I L F) 0 0 (am_kq mL_law 742 [some (.ref 1000000), some (.ref 0), some (.ref 498), some (.ref 540), some (.int x4), d5, d6] [] (c + am_bc mL_run) (s + am_bs mL_run) Q))))) ∧ (¬ ((X.2 (Int32.toNatClampNeg x4)) &&& 31) = 10 → (((X.2 (Int32.toNatClampNeg x4)) &&& 31) = 11 → vp_in (x4 + 1) X.1 ∧ ((c + am_bc mL_why ≤ am_bc mL_law ∧ s + am_bs mL_why ≤ am_bs mL_law) ∧ (WP mL_why 0 (am_ent 4 [.ref 0, .int (X.2 (Int32.toNatClampNeg (x4 + 1))), .ref 540]) [] (G X I L F) 0 0 (am_kq mL_law 804 [some (.ref 1000000), some (.ref 0), some (.ref 498), some (.ref 540), some (.int x4), d5, d6] [] (c + am_bc mL_why) (s + am_bs mL_why) Q)))) ∧ (¬ ((X.2 (Int32.toNatClampNeg x4)) &&& 31) = 11 → (((X.2 (Int32.toNatClampNeg x4)) &&& 31) = 12 → vp_in (x4 + 1) X.1 ∧ ((c + am_bc mL_peak ≤ am_bc mL_law ∧ s + am_bs mL_peak ≤ am_bs mL_law) ∧ (WP mL_peak 0 (am_ent 4 [.ref 0, .int (X.2 (Int32.toNatClampNeg (x4 + 1))), .ref 540]) [] (G X I L F) 0 0 (am_kq mL_law 860 [some (.ref 1000000), some (.ref 0), some (.ref 498), some (.ref 540), some (.int x4), d5, d6] [] (c + am_bc mL_peak) (s + am_bs mL_peak) Q)))) ∧ (¬ ((X.2 (Int32.toNatClampNeg x4)) &&& 31) = 12 → (((X.2 (Int32.toNatClampNeg x4)) &&& 31) = 13 → vp_in (x4 + 1) X.1 ∧ ((c + am_bc mL_peakHour ≤ am_bc mL_law ∧ s + am_bs mL_peakHour ≤ am_bs mL_law) ∧ (WP mL_peakHour 0 (am_ent 4 [.ref 0, .int (X.2 (Int32.toNatClampNeg (x4 + 1))), .ref 540]) [] (G X I L F) 0 0 (am_kq mL_law 916 [some (.ref 1000000), some (.ref 0), some (.ref 498), some (.ref 540), some (.int x4), d5, d6] [] (c + am_bc mL_peakHour) (s + am_bs mL_peakHour) Q)))) ∧ (¬ ((X.2 (Int32.toNatClampNeg x4)) &&& 31) = 13 → (((X.2 (Int32.toNatClampNeg x4)) &&& 31) = 14 → vp_in (x4 + 1) X.1 ∧ ((c + am_bc mL_peakAnew ≤ am_bc mL_law ∧ s + am_bs mL_peakAnew ≤ am_bs mL_law) ∧ (WP mL_peakAnew 0 (am_ent 4 [.ref 0, .int (X.2 (Int32.toNatClampNeg (x4 + 1))), .ref 540]) [] (G X I L F) 0 0 (am_kq mL_law 972 [some (.ref 1000000), some (.ref 0), some (.ref 498), some (.ref 540), some (.int x4), d5, d6] [] (c + am_bc mL_peakAnew) (s + am_bs mL_peakAnew) Q)))) ∧ (¬ ((X.2 (Int32.toNatClampNeg x4)) &&& 31) = 14 → (((X.2 (Int32.toNatClampNeg x4)) &&& 31) = 15 → vp_in (x4 + 1) X.1 ∧ (vp_in (x4 + 2) X.1 ∧ (vp_in (x4 + 3) X.1 ∧ ((c + am_bc mL_build ≤ am_bc mL_law ∧ s + am_bs mL_build ≤ am_bs mL_law) ∧ (WP mL_build 0 (am_ent 5 [.ref 0, .int (X.2 (Int32.toNatClampNeg (x4 + 1))), .int (X.2 (Int32.toNatClampNeg (x4 + 2))), .int (X.2 (Int32.toNatClampNeg (x4 + 3)))]) [] (G X I L F) 0 0 (am_kq mL_law 1039 [some (.ref 1000000), some (.ref 0), some (.ref 498), some (.ref 540), some (.int x4), d5, d6] [] (c + am_bc mL_build) (s + am_bs mL_build) Q)))))) ∧ (¬ ((X.2 (Int32.toNatClampNeg x4)) &&& 31) = 15 → (((X.2 (Int32.toNatClampNeg x4)) &&& 31) = 16 → vp_in (x4 + 1) X.1 ∧ ((c + am_bc mL_rule ≤ am_bc mL_law ∧ s + am_bs mL_rule ≤ am_bs mL_law) ∧ (WP mL_rule 0 (am_ent 3 [.ref 0, .int (X.2 (Int32.toNatClampNeg (x4 + 1)))]) [] (G X I L F) 0 0 (am_kq mL_law 1087 [some (.ref 1000000), some (.ref 0), some (.ref 498), some (.ref 540), some (.int x4), d5, d6] [] (c + am_bc mL_rule) (s + am_bs mL_rule) Q)))) ∧ (¬ ((X.2 (Int32.toNatClampNeg x4)) &&& 31) = 16 → (((X.2 (Int32.toNatClampNeg x4)) &&& 31) = 17 → vp_in (x4 + 1) X.1 ∧ (vp_in (x4 + 2) X.1 ∧ ((c + am_bc mL_goBy ≤ am_bc mL_law ∧ s + am_bs mL_goBy ≤ am_bs mL_law) ∧ (WP mL_goBy 0 (am_ent 4 [.ref 0, .int (X.2 (Int32.toNatClampNeg (x4 + 1))), .int (X.2 (Int32.toNatClampNeg (x4 + 2)))]) [] (G X I L F) 0 0 (am_kq mL_law 1129 [some (.ref 1000000), some (.ref 0), some (.ref 498), some (.ref 540), some (.int x4), d5, d6] [] (c + am_bc mL_goBy) (s + am_bs mL_goBy) Q))))) ∧ (¬ ((X.2 (Int32.toNatClampNeg x4)) &&& 31) = 17 → (((X.2 (Int32.toNatClampNeg x4)) &&& 31) = 18 → vp_in (x4 + 1) X.1 ∧ ((c + am_bc mL_level ≤ am_bc mL_law ∧ s + am_bs mL_level ≤ am_bs mL_law) ∧ (WP mL_level 0 (am_ent 4 [.ref 0, .int (X.2 (Int32.toNatClampNeg (x4 + 1))), .ref 540]) [] (G X I L F) 0 0 (am_kq mL_law 1172 [some (.ref 1000000), some (.ref 0), some (.ref 498), some (.ref 540), some (.int x4), d5, d6] [] (c + am_bc mL_level) (s + am_bs mL_level) Q)))) ∧ (¬ ((X.2 (Int32.toNatClampNeg x4)) &&& 31) = 18 → (((X.2 (Int32.toNatClampNeg x4)) &&& 31) = 19 → vp_in (x4 + 1) X.1 ∧ (vp_in (x4 + 2) X.1 ∧ ((c + am_bc mL_below ≤ am_bc mL_law ∧ s + am_bs mL_below ≤ am_bs mL_law) ∧ (WP mL_below 0 (am_ent 5 [.ref 0, .int (X.2 (Int32.toNatClampNeg (x4 + 1))), .int (X.2 (Int32.toNatClampNeg (x4 + 2))), .ref 540]) [] (G X I L F) 0 0 (am_kq mL_law 1234 [some (.ref 1000000), some (.ref 0), some (.ref 498), some (.ref 540), some (.int x4), d5, d6] [] (c + am_bc mL_below) (s + am_bs mL_below) Q))))) ∧ (¬ ((X.2 (Int32.toNatClampNeg x4)) &&& 31) = 19 → (((X.2 (Int32.toNatClampNeg x4)) &&& 31) = 20 → vp_in (x4 + 1) X.1 ∧ (vp_in (x4 + 2) X.1 ∧ (vp_in (x4 + 3) X.1 ∧ (vp_in (x4 + 4) X.1 ∧ ((c + am_bc mL_valley ≤ am_bc mL_law ∧ s + am_bs mL_valley ≤ am_bs mL_law) ∧ (WP mL_valley 0 (am_ent 6 [.ref 0, .int (X.2 (Int32.toNatClampNeg (x4 + 1))), .int (X.2 (Int32.toNatClampNeg (x4 + 2))), .int (X.2 (Int32.toNatClampNeg (x4 + 3))), .int (X.2 (Int32.toNatClampNeg (x4 + 4)))]) [] (G X I L F) 0 0 (am_kq mL_law 1313 [some (.ref 1000000), some (.ref 0), some (.ref 498), some (.ref 540), some (.int x4), d5, d6] [] (c + am_bc mL_valley) (s + am_bs mL_valley) Q))))))) ∧ (¬ ((X.2 (Int32.toNatClampNeg x4)) &&& 31) = 20 → (((X.2 (Int32.toNatClampNeg x4)) &&& 31) = 21 → vp_in (x4 + 1) X.1 ∧ (vp_in (x4 + 2) X.1 ∧ ((c + am_bc mL_sound ≤ am_bc mL_law ∧ s + am_bs mL_sound ≤ am_bs mL_law) ∧ (WP mL_sound 0 (am_ent 5 [.ref 0, .int (X.2 (Int32.toNatClampNeg (x4 + 1))), .int (X.2 (Int32.toNatClampNeg (x4 + 2))), .ref 540]) [] (G X I L F) 0 0 (am_kq mL_law 1374 [some (.ref 1000000), some (.ref 0), some (.ref 498), some (.ref 540), some (.int x4), d5, d6] [] (c + am_bc mL_sound) (s + am_bs mL_sound) Q))))) ∧ (¬ ((X.2 (Int32.toNatClampNeg x4)) &&& 31) = 21 → (((X.2 (Int32.toNatClampNeg x4)) &&& 31) = 22 → vp_in (x4 + 1) X.1 ∧ ((c + am_bc mL_siren ≤ am_bc mL_law ∧ s + am_bs mL_siren ≤ am_bs mL_law) ∧ (WP mL_siren 0 (am_ent 4 [.ref 0, .int (X.2 (Int32.toNatClampNeg (x4 + 1))), .ref 540]) [] (G X I L F) 0 0 (am_kq mL_law 1436 [some (.ref 1000000), some (.ref 0), some (.ref 498), some (.ref 540), some (.int x4), d5, d6] [] (c + am_bc mL_siren) (s + am_bs mL_siren) Q)))) ∧ (¬ ((X.2 (Int32.toNatClampNeg x4)) &&& 31) = 22 → (((X.2 (Int32.toNatClampNeg x4)) &&& 31) = 23 → vp_in (x4 + 1) X.1 ∧ ((c + am_bc mL_walkers ≤ am_bc mL_law ∧ s + am_bs mL_walkers ≤ am_bs mL_law) ∧ (WP mL_walkers 0 (am_ent 4 [.ref 0, .int (X.2 (Int32.toNatClampNeg (x4 + 1))), .ref 540]) [] (G X I L F) 0 0 (am_kq mL_law 1492 [some (.ref 1000000), some (.ref 0), some (.ref 498), some (.ref 540), some (.int x4), d5, d6] [] (c + am_bc mL_walkers) (s + am_bs mL_walkers) Q)))) ∧ (¬ ((X.2 (Int32.toNatClampNeg x4)) &&& 31) = 23 → (((X.2 (Int32.toNatClampNeg x4)) &&& 31) = 24 → vp_in (x4 + 1) X.1 ∧ ((c + am_bc mL_trust ≤ am_bc mL_law ∧ s + am_bs mL_trust ≤ am_bs mL_law) ∧ (WP mL_trust 0 (am_ent 4 [.ref 0, .int (X.2 (Int32.toNatClampNeg (x4 + 1))), .ref 540]) [] (G X I L F) 0 0 (am_kq mL_law 1548 [some (.ref 1000000), some (.ref 0), some (.ref 498), some (.ref 540), some (.int x4), d5, d6] [] (c + am_bc mL_trust) (s + am_bs mL_trust) Q)))) ∧ (¬ ((X.2 (Int32.toNatClampNeg x4)) &&& 31) = 24 → (((X.2 (Int32.toNatClampNeg x4)) &&& 31) = 25 → vp_in (x4 + 1) X.1 ∧ ((c + am_bc mL_saved ≤ am_bc mL_law ∧ s + am_bs mL_saved ≤ am_bs mL_law) ∧ (WP mL_saved 0 (am_ent 4 [.ref 0, .int (X.2 (Int32.toNatClampNeg (x4 + 1))), .ref 540]) [] (G X I L F) 0 0 (am_kq mL_law 1604 [some (.ref 1000000), some (.ref 0), some (.ref 498), some (.ref 540), some (.int x4), d5, d6] [] (c + am_bc mL_saved) (s + am_bs mL_saved) Q)))) ∧ (¬ ((X.2 (Int32.toNatClampNeg x4)) &&& 31) = 25 → (((X.2 (Int32.toNatClampNeg x4)) &&& 31) = 26 → (c + am_bc mX9_alarm ≤ am_bc mL_law ∧ s + am_bs mX9_alarm ≤ am_bs mL_law) ∧ (WP mX9_alarm 0 (am_ent 6 [.ref 0]) [] (G X I L F) 0 0 (am_kq mL_law 1653 [some (.ref 1000000), some (.ref 0), some (.ref 498), some (.ref 540), some (.int x4), d5, d6] [] (c + am_bc mX9_alarm) (s + am_bs mX9_alarm) Q))) ∧ (¬ ((X.2 (Int32.toNatClampNeg x4)) &&& 31) = 26 → (((X.2 (Int32.toNatClampNeg x4)) &&& 31) = 27 → vp_in (x4 + 1) X.1 ∧ ((c + am_bc mL_pass ≤ am_bc mL_law ∧ s + am_bs mL_pass ≤ am_bs mL_law) ∧ (WP mL_pass 0 (am_ent 4 [.ref 0, .int (X.2 (Int32.toNatClampNeg (x4 + 1))), .ref 540]) [] (G X I L F) 0 0 (am_kq mL_law 1673 [some (.ref 1000000), some (.ref 0), some (.ref 498), some (.ref 540), some (.int x4), d5, d6] [] (c + am_bc mL_pass) (s + am_bs mL_pass) Q)))) ∧ (¬ ((X.2 (Int32.toNatClampNeg x4)) &&& 31) = 27 → WP mL_law 23 [some (.ref 1000000), some (.ref 0), some (.ref 498), some (.ref 540), some (.int (x4 + 5)), d5, d6] [] (G X I L F) c s Q))))))))))))))))))))))))))))))) : WP mL_law 23 [some (.ref 1000000), some (.ref 0), some (.ref 498), some (.ref 540), some (.int x4), d5, d6] [] (G X I L F) c s Q := by
  refine w_iload rL_law_23 rfl ?_
  refine w_aload_n rL_law_25 rfl ?_
  refine w_lenX rL_law_26 rfl ?_
  refine w_iconst rL_law_27 (x := 5) (by decide) ?_
  refine w_isub rL_law_28 ?_
  refine w_icmpgt rL_law_29 (fun h29 => ?_) (fun h29 => ?_)
  · replace q := q.1 h29
    refine w_iconst rL_law_1727 (x := 1) (by decide) ?_
    refine w_ireturn rL_law_1728 (Or.inr rfl) ?_
    exact q
  · replace q := q.2 h29
    refine w_aload_n rL_law_32 rfl ?_
    refine w_iload rL_law_33 rfl ?_
    refine w_ialoadX rL_law_35 rfl q.1 ?_
    replace q := q.2
    refine w_bipush rL_law_36 (x := 31) (by decide) ?_
    refine w_iand rL_law_38 ?_
    refine w_tsw rL_law_39 ?_
    refine ⟨fun h39_0 => ?_, fun h39_0 => ?_⟩
    · replace q := q.1 h39_0
      refine w_aload_n rL_law_164 rfl ?_
      refine w_aload_n rL_law_165 rfl ?_
      refine w_iload rL_law_166 rfl ?_
      refine w_iconst rL_law_168 (x := 1) (by decide) ?_
      refine w_iadd rL_law_169 ?_
      refine w_ialoadX rL_law_170 rfl q.1 ?_
      replace q := q.2
      refine w_i2c rL_law_171 ?_
      refine w_aload_n rL_law_172 rfl ?_
      refine w_invokestatic rL_law_173 rfl rfl rfl (Nat.le_of_ble_eq_true rfl) ⟨trivial, trivial, trivial, trivial⟩ trivial q.1.1 q.1.2 ?_
      replace q := q.2
      exact q
    · replace q := q.2 h39_0
      refine ⟨fun h39_1 => ?_, fun h39_1 => ?_⟩
      · replace q := q.1 h39_1
        refine w_aload_n rL_law_222 rfl ?_
        refine w_invokevirtual rL_law_223 rfl rfl rfl (Nat.le_of_ble_eq_true rfl) ⟨trivial, trivial⟩ (G_is (by decide) rfl) q.1.1 q.1.2 ?_
        replace q := q.2
        exact q
      · replace q := q.2 h39_1
        refine ⟨fun h39_2 => ?_, fun h39_2 => ?_⟩
        · replace q := q.1 h39_2
          refine w_aload_n rL_law_235 rfl ?_
          refine w_aload_n rL_law_236 rfl ?_
          refine w_iload rL_law_237 rfl ?_
          refine w_iconst rL_law_239 (x := 1) (by decide) ?_
          refine w_iadd rL_law_240 ?_
          refine w_ialoadX rL_law_241 rfl q.1 ?_
          replace q := q.2
          have j242 : ∀ s242_1 : Int32, s242_1 = (if (X.2 (Int32.toNatClampNeg (x4 + 1))) = 0 then 0 else 1 : Int32) → WP mL_law 250 [some (.ref 1000000), some (.ref 0), some (.ref 498), some (.ref 540), some (.int x4), d5, d6] [.int s242_1, .ref 0] (G X I L F) c s Q := by
            intro s242_1 es242_1
            replace q := q s242_1 es242_1
            refine w_invokevirtual rL_law_250 rfl rfl rfl (Nat.le_of_ble_eq_true rfl) ⟨trivial, trivial, trivial⟩ (G_is (by decide) rfl) q.1.1 q.1.2 ?_
            replace q := q.2
            exact q
          refine w_ifeq rL_law_242 (fun h242 => ?_) (fun h242 => ?_)
          · skip
            refine w_iconst rL_law_249 (x := 0) (by decide) ?_
            exact j242 _ (if_pos h242).symm
          · skip
            refine w_iconst rL_law_245 (x := 1) (by decide) ?_
            refine w_goto rL_law_246 ?_
            exact j242 _ (if_neg h242).symm
        · replace q := q.2 h39_2
          refine ⟨fun h39_3 => ?_, fun h39_3 => ?_⟩
          · replace q := q.1 h39_3
            refine w_aload_n rL_law_276 rfl ?_
            refine w_aload_n rL_law_277 rfl ?_
            refine w_iload rL_law_278 rfl ?_
            refine w_iconst rL_law_280 (x := 1) (by decide) ?_
            refine w_iadd rL_law_281 ?_
            refine w_ialoadX rL_law_282 rfl q.1 ?_
            replace q := q.2
            refine w_aload_n rL_law_283 rfl ?_
            refine w_invokestatic rL_law_284 rfl rfl rfl (Nat.le_of_ble_eq_true rfl) ⟨trivial, trivial, trivial, trivial⟩ trivial q.1.1 q.1.2 ?_
            replace q := q.2
            exact q
          · replace q := q.2 h39_3
            refine ⟨fun h39_4 => ?_, fun h39_4 => ?_⟩
            · replace q := q.1 h39_4
              refine w_aload_n rL_law_332 rfl ?_
              refine w_aload_n rL_law_333 rfl ?_
              refine w_iload rL_law_334 rfl ?_
              refine w_iconst rL_law_336 (x := 1) (by decide) ?_
              refine w_iadd rL_law_337 ?_
              refine w_ialoadX rL_law_338 rfl q.1 ?_
              replace q := q.2
              refine w_aload_n rL_law_339 rfl ?_
              refine w_invokestatic rL_law_340 rfl rfl rfl (Nat.le_of_ble_eq_true rfl) ⟨trivial, trivial, trivial, trivial⟩ trivial q.1.1 q.1.2 ?_
              replace q := q.2
              exact q
            · replace q := q.2 h39_4
              refine ⟨fun h39_5 => ?_, fun h39_5 => ?_⟩
              · replace q := q.1 h39_5
                refine w_aload_n rL_law_388 rfl ?_
                refine w_aload_n rL_law_389 rfl ?_
                refine w_iload rL_law_390 rfl ?_
                refine w_iconst rL_law_392 (x := 1) (by decide) ?_
                refine w_iadd rL_law_393 ?_
                refine w_ialoadX rL_law_394 rfl q.1 ?_
                replace q := q.2
                refine w_aload_n rL_law_395 rfl ?_
                refine w_invokestatic rL_law_396 rfl rfl rfl (Nat.le_of_ble_eq_true rfl) ⟨trivial, trivial, trivial, trivial⟩ trivial q.1.1 q.1.2 ?_
                replace q := q.2
                exact q
              · replace q := q.2 h39_5
                refine ⟨fun h39_6 => ?_, fun h39_6 => ?_⟩
                · replace q := q.1 h39_6
                  refine w_aload_n rL_law_444 rfl ?_
                  refine w_aload_n rL_law_445 rfl ?_
                  refine w_iload rL_law_446 rfl ?_
                  refine w_iconst rL_law_448 (x := 1) (by decide) ?_
                  refine w_iadd rL_law_449 ?_
                  refine w_ialoadX rL_law_450 rfl q.1 ?_
                  replace q := q.2
                  refine w_aload_n rL_law_451 rfl ?_
                  refine w_iload rL_law_452 rfl ?_
                  refine w_iconst rL_law_454 (x := 2) (by decide) ?_
                  refine w_iadd rL_law_455 ?_
                  refine w_ialoadX rL_law_456 rfl q.1 ?_
                  replace q := q.2
                  refine w_aload_n rL_law_457 rfl ?_
                  refine w_invokestatic rL_law_458 rfl rfl rfl (Nat.le_of_ble_eq_true rfl) ⟨trivial, trivial, trivial, trivial, trivial⟩ trivial q.1.1 q.1.2 ?_
                  replace q := q.2
                  exact q
                · replace q := q.2 h39_6
                  refine ⟨fun h39_7 => ?_, fun h39_7 => ?_⟩
                  · replace q := q.1 h39_7
                    refine w_aload_n rL_law_512 rfl ?_
                    refine w_aload_n rL_law_513 rfl ?_
                    refine w_iload rL_law_514 rfl ?_
                    refine w_iconst rL_law_516 (x := 1) (by decide) ?_
                    refine w_iadd rL_law_517 ?_
                    refine w_ialoadX rL_law_518 rfl q.1 ?_
                    replace q := q.2
                    refine w_aload_n rL_law_519 rfl ?_
                    refine w_iload rL_law_520 rfl ?_
                    refine w_iconst rL_law_522 (x := 2) (by decide) ?_
                    refine w_iadd rL_law_523 ?_
                    refine w_ialoadX rL_law_524 rfl q.1 ?_
                    replace q := q.2
                    refine w_aload_n rL_law_525 rfl ?_
                    refine w_iload rL_law_526 rfl ?_
                    refine w_iconst rL_law_528 (x := 3) (by decide) ?_
                    refine w_iadd rL_law_529 ?_
                    refine w_ialoadX rL_law_530 rfl q.1 ?_
                    replace q := q.2
                    refine w_aload_n rL_law_531 rfl ?_
                    refine w_invokestatic rL_law_532 rfl rfl rfl (Nat.le_of_ble_eq_true rfl) ⟨trivial, trivial, trivial, trivial, trivial, trivial⟩ trivial q.1.1 q.1.2 ?_
                    replace q := q.2
                    exact q
                  · replace q := q.2 h39_7
                    refine ⟨fun h39_8 => ?_, fun h39_8 => ?_⟩
                    · replace q := q.1 h39_8
                      refine w_aload_n rL_law_592 rfl ?_
                      refine w_aload_n rL_law_593 rfl ?_
                      refine w_iload rL_law_594 rfl ?_
                      refine w_iconst rL_law_596 (x := 1) (by decide) ?_
                      refine w_iadd rL_law_597 ?_
                      refine w_ialoadX rL_law_598 rfl q.1 ?_
                      replace q := q.2
                      refine w_aload_n rL_law_599 rfl ?_
                      refine w_iload rL_law_600 rfl ?_
                      refine w_iconst rL_law_602 (x := 2) (by decide) ?_
                      refine w_iadd rL_law_603 ?_
                      refine w_ialoadX rL_law_604 rfl q.1 ?_
                      replace q := q.2
                      refine w_aload_n rL_law_605 rfl ?_
                      refine w_invokestatic rL_law_606 rfl rfl rfl (Nat.le_of_ble_eq_true rfl) ⟨trivial, trivial, trivial, trivial, trivial⟩ trivial q.1.1 q.1.2 ?_
                      replace q := q.2
                      exact q
                    · replace q := q.2 h39_8
                      refine ⟨fun h39_9 => ?_, fun h39_9 => ?_⟩
                      · replace q := q.1 h39_9
                        refine w_aload_n rL_law_660 rfl ?_
                        refine w_aload_n rL_law_661 rfl ?_
                        refine w_iload rL_law_662 rfl ?_
                        refine w_iconst rL_law_664 (x := 1) (by decide) ?_
                        refine w_iadd rL_law_665 ?_
                        refine w_ialoadX rL_law_666 rfl q.1 ?_
                        replace q := q.2
                        refine w_aload_n rL_law_667 rfl ?_
                        refine w_iload rL_law_668 rfl ?_
                        refine w_iconst rL_law_670 (x := 2) (by decide) ?_
                        refine w_iadd rL_law_671 ?_
                        refine w_ialoadX rL_law_672 rfl q.1 ?_
                        replace q := q.2
                        refine w_aload_n rL_law_673 rfl ?_
                        refine w_invokestatic rL_law_674 rfl rfl rfl (Nat.le_of_ble_eq_true rfl) ⟨trivial, trivial, trivial, trivial, trivial⟩ trivial q.1.1 q.1.2 ?_
                        replace q := q.2
                        exact q
                      · replace q := q.2 h39_9
                        refine ⟨fun h39_10 => ?_, fun h39_10 => ?_⟩
                        · replace q := q.1 h39_10
                          refine w_aload_n rL_law_728 rfl ?_
                          refine w_aload_n rL_law_729 rfl ?_
                          refine w_iload rL_law_730 rfl ?_
                          refine w_iconst rL_law_732 (x := 1) (by decide) ?_
                          refine w_iadd rL_law_733 ?_
                          refine w_ialoadX rL_law_734 rfl q.1 ?_
                          replace q := q.2
                          refine w_aload_n rL_law_735 rfl ?_
                          refine w_iload rL_law_736 rfl ?_
                          refine w_iconst rL_law_738 (x := 2) (by decide) ?_
                          refine w_iadd rL_law_739 ?_
                          refine w_ialoadX rL_law_740 rfl q.1 ?_
                          replace q := q.2
                          refine w_aload_n rL_law_741 rfl ?_
                          refine w_invokestatic rL_law_742 rfl rfl rfl (Nat.le_of_ble_eq_true rfl) ⟨trivial, trivial, trivial, trivial, trivial⟩ trivial q.1.1 q.1.2 ?_
                          replace q := q.2
                          exact q
                        · replace q := q.2 h39_10
                          refine ⟨fun h39_11 => ?_, fun h39_11 => ?_⟩
                          · replace q := q.1 h39_11
                            refine w_aload_n rL_law_796 rfl ?_
                            refine w_aload_n rL_law_797 rfl ?_
                            refine w_iload rL_law_798 rfl ?_
                            refine w_iconst rL_law_800 (x := 1) (by decide) ?_
                            refine w_iadd rL_law_801 ?_
                            refine w_ialoadX rL_law_802 rfl q.1 ?_
                            replace q := q.2
                            refine w_aload_n rL_law_803 rfl ?_
                            refine w_invokestatic rL_law_804 rfl rfl rfl (Nat.le_of_ble_eq_true rfl) ⟨trivial, trivial, trivial, trivial⟩ trivial q.1.1 q.1.2 ?_
                            replace q := q.2
                            exact q
                          · replace q := q.2 h39_11
                            refine ⟨fun h39_12 => ?_, fun h39_12 => ?_⟩
                            · replace q := q.1 h39_12
                              refine w_aload_n rL_law_852 rfl ?_
                              refine w_aload_n rL_law_853 rfl ?_
                              refine w_iload rL_law_854 rfl ?_
                              refine w_iconst rL_law_856 (x := 1) (by decide) ?_
                              refine w_iadd rL_law_857 ?_
                              refine w_ialoadX rL_law_858 rfl q.1 ?_
                              replace q := q.2
                              refine w_aload_n rL_law_859 rfl ?_
                              refine w_invokestatic rL_law_860 rfl rfl rfl (Nat.le_of_ble_eq_true rfl) ⟨trivial, trivial, trivial, trivial⟩ trivial q.1.1 q.1.2 ?_
                              replace q := q.2
                              exact q
                            · replace q := q.2 h39_12
                              refine ⟨fun h39_13 => ?_, fun h39_13 => ?_⟩
                              · replace q := q.1 h39_13
                                refine w_aload_n rL_law_908 rfl ?_
                                refine w_aload_n rL_law_909 rfl ?_
                                refine w_iload rL_law_910 rfl ?_
                                refine w_iconst rL_law_912 (x := 1) (by decide) ?_
                                refine w_iadd rL_law_913 ?_
                                refine w_ialoadX rL_law_914 rfl q.1 ?_
                                replace q := q.2
                                refine w_aload_n rL_law_915 rfl ?_
                                refine w_invokestatic rL_law_916 rfl rfl rfl (Nat.le_of_ble_eq_true rfl) ⟨trivial, trivial, trivial, trivial⟩ trivial q.1.1 q.1.2 ?_
                                replace q := q.2
                                exact q
                              · replace q := q.2 h39_13
                                refine ⟨fun h39_14 => ?_, fun h39_14 => ?_⟩
                                · replace q := q.1 h39_14
                                  refine w_aload_n rL_law_964 rfl ?_
                                  refine w_aload_n rL_law_965 rfl ?_
                                  refine w_iload rL_law_966 rfl ?_
                                  refine w_iconst rL_law_968 (x := 1) (by decide) ?_
                                  refine w_iadd rL_law_969 ?_
                                  refine w_ialoadX rL_law_970 rfl q.1 ?_
                                  replace q := q.2
                                  refine w_aload_n rL_law_971 rfl ?_
                                  refine w_invokestatic rL_law_972 rfl rfl rfl (Nat.le_of_ble_eq_true rfl) ⟨trivial, trivial, trivial, trivial⟩ trivial q.1.1 q.1.2 ?_
                                  replace q := q.2
                                  exact q
                                · replace q := q.2 h39_14
                                  refine ⟨fun h39_15 => ?_, fun h39_15 => ?_⟩
                                  · replace q := q.1 h39_15
                                    refine w_aload_n rL_law_1020 rfl ?_
                                    refine w_aload_n rL_law_1021 rfl ?_
                                    refine w_iload rL_law_1022 rfl ?_
                                    refine w_iconst rL_law_1024 (x := 1) (by decide) ?_
                                    refine w_iadd rL_law_1025 ?_
                                    refine w_ialoadX rL_law_1026 rfl q.1 ?_
                                    replace q := q.2
                                    refine w_aload_n rL_law_1027 rfl ?_
                                    refine w_iload rL_law_1028 rfl ?_
                                    refine w_iconst rL_law_1030 (x := 2) (by decide) ?_
                                    refine w_iadd rL_law_1031 ?_
                                    refine w_ialoadX rL_law_1032 rfl q.1 ?_
                                    replace q := q.2
                                    refine w_aload_n rL_law_1033 rfl ?_
                                    refine w_iload rL_law_1034 rfl ?_
                                    refine w_iconst rL_law_1036 (x := 3) (by decide) ?_
                                    refine w_iadd rL_law_1037 ?_
                                    refine w_ialoadX rL_law_1038 rfl q.1 ?_
                                    replace q := q.2
                                    refine w_invokestatic rL_law_1039 rfl rfl rfl (Nat.le_of_ble_eq_true rfl) ⟨trivial, trivial, trivial, trivial, trivial⟩ trivial q.1.1 q.1.2 ?_
                                    replace q := q.2
                                    exact q
                                  · replace q := q.2 h39_15
                                    refine ⟨fun h39_16 => ?_, fun h39_16 => ?_⟩
                                    · replace q := q.1 h39_16
                                      refine w_aload_n rL_law_1080 rfl ?_
                                      refine w_aload_n rL_law_1081 rfl ?_
                                      refine w_iload rL_law_1082 rfl ?_
                                      refine w_iconst rL_law_1084 (x := 1) (by decide) ?_
                                      refine w_iadd rL_law_1085 ?_
                                      refine w_ialoadX rL_law_1086 rfl q.1 ?_
                                      replace q := q.2
                                      refine w_invokestatic rL_law_1087 rfl rfl rfl (Nat.le_of_ble_eq_true rfl) ⟨trivial, trivial, trivial⟩ trivial q.1.1 q.1.2 ?_
                                      replace q := q.2
                                      exact q
                                    · replace q := q.2 h39_16
                                      refine ⟨fun h39_17 => ?_, fun h39_17 => ?_⟩
                                      · replace q := q.1 h39_17
                                        refine w_aload_n rL_law_1116 rfl ?_
                                        refine w_aload_n rL_law_1117 rfl ?_
                                        refine w_iload rL_law_1118 rfl ?_
                                        refine w_iconst rL_law_1120 (x := 1) (by decide) ?_
                                        refine w_iadd rL_law_1121 ?_
                                        refine w_ialoadX rL_law_1122 rfl q.1 ?_
                                        replace q := q.2
                                        refine w_aload_n rL_law_1123 rfl ?_
                                        refine w_iload rL_law_1124 rfl ?_
                                        refine w_iconst rL_law_1126 (x := 2) (by decide) ?_
                                        refine w_iadd rL_law_1127 ?_
                                        refine w_ialoadX rL_law_1128 rfl q.1 ?_
                                        replace q := q.2
                                        refine w_invokestatic rL_law_1129 rfl rfl rfl (Nat.le_of_ble_eq_true rfl) ⟨trivial, trivial, trivial, trivial⟩ trivial q.1.1 q.1.2 ?_
                                        replace q := q.2
                                        exact q
                                      · replace q := q.2 h39_17
                                        refine ⟨fun h39_18 => ?_, fun h39_18 => ?_⟩
                                        · replace q := q.1 h39_18
                                          refine w_aload_n rL_law_1164 rfl ?_
                                          refine w_aload_n rL_law_1165 rfl ?_
                                          refine w_iload rL_law_1166 rfl ?_
                                          refine w_iconst rL_law_1168 (x := 1) (by decide) ?_
                                          refine w_iadd rL_law_1169 ?_
                                          refine w_ialoadX rL_law_1170 rfl q.1 ?_
                                          replace q := q.2
                                          refine w_aload_n rL_law_1171 rfl ?_
                                          refine w_invokestatic rL_law_1172 rfl rfl rfl (Nat.le_of_ble_eq_true rfl) ⟨trivial, trivial, trivial, trivial⟩ trivial q.1.1 q.1.2 ?_
                                          replace q := q.2
                                          exact q
                                        · replace q := q.2 h39_18
                                          refine ⟨fun h39_19 => ?_, fun h39_19 => ?_⟩
                                          · replace q := q.1 h39_19
                                            refine w_aload_n rL_law_1220 rfl ?_
                                            refine w_aload_n rL_law_1221 rfl ?_
                                            refine w_iload rL_law_1222 rfl ?_
                                            refine w_iconst rL_law_1224 (x := 1) (by decide) ?_
                                            refine w_iadd rL_law_1225 ?_
                                            refine w_ialoadX rL_law_1226 rfl q.1 ?_
                                            replace q := q.2
                                            refine w_aload_n rL_law_1227 rfl ?_
                                            refine w_iload rL_law_1228 rfl ?_
                                            refine w_iconst rL_law_1230 (x := 2) (by decide) ?_
                                            refine w_iadd rL_law_1231 ?_
                                            refine w_ialoadX rL_law_1232 rfl q.1 ?_
                                            replace q := q.2
                                            refine w_aload_n rL_law_1233 rfl ?_
                                            refine w_invokestatic rL_law_1234 rfl rfl rfl (Nat.le_of_ble_eq_true rfl) ⟨trivial, trivial, trivial, trivial, trivial⟩ trivial q.1.1 q.1.2 ?_
                                            replace q := q.2
                                            exact q
                                          · replace q := q.2 h39_19
                                            refine ⟨fun h39_20 => ?_, fun h39_20 => ?_⟩
                                            · replace q := q.1 h39_20
                                              refine w_aload_n rL_law_1288 rfl ?_
                                              refine w_aload_n rL_law_1289 rfl ?_
                                              refine w_iload rL_law_1290 rfl ?_
                                              refine w_iconst rL_law_1292 (x := 1) (by decide) ?_
                                              refine w_iadd rL_law_1293 ?_
                                              refine w_ialoadX rL_law_1294 rfl q.1 ?_
                                              replace q := q.2
                                              refine w_aload_n rL_law_1295 rfl ?_
                                              refine w_iload rL_law_1296 rfl ?_
                                              refine w_iconst rL_law_1298 (x := 2) (by decide) ?_
                                              refine w_iadd rL_law_1299 ?_
                                              refine w_ialoadX rL_law_1300 rfl q.1 ?_
                                              replace q := q.2
                                              refine w_aload_n rL_law_1301 rfl ?_
                                              refine w_iload rL_law_1302 rfl ?_
                                              refine w_iconst rL_law_1304 (x := 3) (by decide) ?_
                                              refine w_iadd rL_law_1305 ?_
                                              refine w_ialoadX rL_law_1306 rfl q.1 ?_
                                              replace q := q.2
                                              refine w_aload_n rL_law_1307 rfl ?_
                                              refine w_iload rL_law_1308 rfl ?_
                                              refine w_iconst rL_law_1310 (x := 4) (by decide) ?_
                                              refine w_iadd rL_law_1311 ?_
                                              refine w_ialoadX rL_law_1312 rfl q.1 ?_
                                              replace q := q.2
                                              refine w_invokestatic rL_law_1313 rfl rfl rfl (Nat.le_of_ble_eq_true rfl) ⟨trivial, trivial, trivial, trivial, trivial, trivial⟩ trivial q.1.1 q.1.2 ?_
                                              replace q := q.2
                                              exact q
                                            · replace q := q.2 h39_20
                                              refine ⟨fun h39_21 => ?_, fun h39_21 => ?_⟩
                                              · replace q := q.1 h39_21
                                                refine w_aload_n rL_law_1360 rfl ?_
                                                refine w_aload_n rL_law_1361 rfl ?_
                                                refine w_iload rL_law_1362 rfl ?_
                                                refine w_iconst rL_law_1364 (x := 1) (by decide) ?_
                                                refine w_iadd rL_law_1365 ?_
                                                refine w_ialoadX rL_law_1366 rfl q.1 ?_
                                                replace q := q.2
                                                refine w_aload_n rL_law_1367 rfl ?_
                                                refine w_iload rL_law_1368 rfl ?_
                                                refine w_iconst rL_law_1370 (x := 2) (by decide) ?_
                                                refine w_iadd rL_law_1371 ?_
                                                refine w_ialoadX rL_law_1372 rfl q.1 ?_
                                                replace q := q.2
                                                refine w_aload_n rL_law_1373 rfl ?_
                                                refine w_invokestatic rL_law_1374 rfl rfl rfl (Nat.le_of_ble_eq_true rfl) ⟨trivial, trivial, trivial, trivial, trivial⟩ trivial q.1.1 q.1.2 ?_
                                                replace q := q.2
                                                exact q
                                              · replace q := q.2 h39_21
                                                refine ⟨fun h39_22 => ?_, fun h39_22 => ?_⟩
                                                · replace q := q.1 h39_22
                                                  refine w_aload_n rL_law_1428 rfl ?_
                                                  refine w_aload_n rL_law_1429 rfl ?_
                                                  refine w_iload rL_law_1430 rfl ?_
                                                  refine w_iconst rL_law_1432 (x := 1) (by decide) ?_
                                                  refine w_iadd rL_law_1433 ?_
                                                  refine w_ialoadX rL_law_1434 rfl q.1 ?_
                                                  replace q := q.2
                                                  refine w_aload_n rL_law_1435 rfl ?_
                                                  refine w_invokestatic rL_law_1436 rfl rfl rfl (Nat.le_of_ble_eq_true rfl) ⟨trivial, trivial, trivial, trivial⟩ trivial q.1.1 q.1.2 ?_
                                                  replace q := q.2
                                                  exact q
                                                · replace q := q.2 h39_22
                                                  refine ⟨fun h39_23 => ?_, fun h39_23 => ?_⟩
                                                  · replace q := q.1 h39_23
                                                    refine w_aload_n rL_law_1484 rfl ?_
                                                    refine w_aload_n rL_law_1485 rfl ?_
                                                    refine w_iload rL_law_1486 rfl ?_
                                                    refine w_iconst rL_law_1488 (x := 1) (by decide) ?_
                                                    refine w_iadd rL_law_1489 ?_
                                                    refine w_ialoadX rL_law_1490 rfl q.1 ?_
                                                    replace q := q.2
                                                    refine w_aload_n rL_law_1491 rfl ?_
                                                    refine w_invokestatic rL_law_1492 rfl rfl rfl (Nat.le_of_ble_eq_true rfl) ⟨trivial, trivial, trivial, trivial⟩ trivial q.1.1 q.1.2 ?_
                                                    replace q := q.2
                                                    exact q
                                                  · replace q := q.2 h39_23
                                                    refine ⟨fun h39_24 => ?_, fun h39_24 => ?_⟩
                                                    · replace q := q.1 h39_24
                                                      refine w_aload_n rL_law_1540 rfl ?_
                                                      refine w_aload_n rL_law_1541 rfl ?_
                                                      refine w_iload rL_law_1542 rfl ?_
                                                      refine w_iconst rL_law_1544 (x := 1) (by decide) ?_
                                                      refine w_iadd rL_law_1545 ?_
                                                      refine w_ialoadX rL_law_1546 rfl q.1 ?_
                                                      replace q := q.2
                                                      refine w_aload_n rL_law_1547 rfl ?_
                                                      refine w_invokestatic rL_law_1548 rfl rfl rfl (Nat.le_of_ble_eq_true rfl) ⟨trivial, trivial, trivial, trivial⟩ trivial q.1.1 q.1.2 ?_
                                                      replace q := q.2
                                                      exact q
                                                    · replace q := q.2 h39_24
                                                      refine ⟨fun h39_25 => ?_, fun h39_25 => ?_⟩
                                                      · replace q := q.1 h39_25
                                                        refine w_aload_n rL_law_1596 rfl ?_
                                                        refine w_aload_n rL_law_1597 rfl ?_
                                                        refine w_iload rL_law_1598 rfl ?_
                                                        refine w_iconst rL_law_1600 (x := 1) (by decide) ?_
                                                        refine w_iadd rL_law_1601 ?_
                                                        refine w_ialoadX rL_law_1602 rfl q.1 ?_
                                                        replace q := q.2
                                                        refine w_aload_n rL_law_1603 rfl ?_
                                                        refine w_invokestatic rL_law_1604 rfl rfl rfl (Nat.le_of_ble_eq_true rfl) ⟨trivial, trivial, trivial, trivial⟩ trivial q.1.1 q.1.2 ?_
                                                        replace q := q.2
                                                        exact q
                                                      · replace q := q.2 h39_25
                                                        refine ⟨fun h39_26 => ?_, fun h39_26 => ?_⟩
                                                        · replace q := q.1 h39_26
                                                          refine w_aload_n rL_law_1652 rfl ?_
                                                          refine w_invokevirtual rL_law_1653 rfl rfl rfl (Nat.le_of_ble_eq_true rfl) ⟨trivial, trivial⟩ (G_is (by decide) rfl) q.1.1 q.1.2 ?_
                                                          replace q := q.2
                                                          exact q
                                                        · replace q := q.2 h39_26
                                                          refine ⟨fun h39_27 => ?_, fun h39_27 => ?_⟩
                                                          · replace q := q.1 h39_27
                                                            refine w_aload_n rL_law_1665 rfl ?_
                                                            refine w_aload_n rL_law_1666 rfl ?_
                                                            refine w_iload rL_law_1667 rfl ?_
                                                            refine w_iconst rL_law_1669 (x := 1) (by decide) ?_
                                                            refine w_iadd rL_law_1670 ?_
                                                            refine w_ialoadX rL_law_1671 rfl q.1 ?_
                                                            replace q := q.2
                                                            refine w_aload_n rL_law_1672 rfl ?_
                                                            refine w_invokestatic rL_law_1673 rfl rfl rfl (Nat.le_of_ble_eq_true rfl) ⟨trivial, trivial, trivial, trivial⟩ trivial q.1.1 q.1.2 ?_
                                                            replace q := q.2
                                                            exact q
                                                          · replace q := q.2 h39_27
                                                            refine w_iinc rL_law_1721 rfl rfl trivial ?_
                                                            refine w_goto rL_law_1724 ?_
                                                            exact q
theorem k_L_law_176 {X : Nat × (Nat → Int32)} {I : Nat → Nat → Int32} {L : Nat → Nat → Int64} {F : Nat → Nat → UInt32} {Q : AQ} {c s : Nat} {x4 : Int32} {d5 : Option Value} {d6 : Option Value} {e0 : Int32} (q : vp_in (x4 + 1) X.1 ∧ ((c + am_bc mX10_type ≤ am_bc mL_law ∧ s + am_bs mX10_type ≤ am_bs mL_law) ∧ (WP mX10_type 0 (am_ent 3 [.ref 498, .int (UInt32.toInt32 ((Int32.toUInt32 (X.2 (Int32.toNatClampNeg (x4 + 1)))) % 65536))]) [] (G X I L F) 0 0 (am_kq mL_law 186 [some (.ref 1000000), some (.ref 0), some (.ref 498), some (.ref 540), some (.int x4), some (.int e0), d6] [] (c + am_bc mX10_type) (s + am_bs mX10_type) Q)))) : WP mL_law 176 [some (.ref 1000000), some (.ref 0), some (.ref 498), some (.ref 540), some (.int x4), d5, d6] [.int e0] (G X I L F) c s Q := by
  refine w_istore rL_law_176 rfl trivial ?_
  refine w_aload_n rL_law_178 rfl ?_
  refine w_aload_n rL_law_179 rfl ?_
  refine w_iload rL_law_180 rfl ?_
  refine w_iconst rL_law_182 (x := 1) (by decide) ?_
  refine w_iadd rL_law_183 ?_
  refine w_ialoadX rL_law_184 rfl q.1 ?_
  replace q := q.2
  refine w_i2c rL_law_185 ?_
  refine w_invokevirtual rL_law_186 rfl rfl rfl (Nat.le_of_ble_eq_true rfl) ⟨trivial, trivial, trivial⟩ (G_is (by decide) rfl) q.1.1 q.1.2 ?_
  replace q := q.2
  exact q
theorem k_L_law_189 {X : Nat × (Nat → Int32)} {I : Nat → Nat → Int32} {L : Nat → Nat → Int64} {F : Nat → Nat → UInt32} {Q : AQ} {c s : Nat} {x4 : Int32} {x5 : Int32} {d6 : Option Value} {e0 : Int32} (q : (c + am_bc mX10_thrown ≤ am_bc mL_law ∧ s + am_bs mX10_thrown ≤ am_bs mL_law) ∧ (WP mX10_thrown 0 (am_ent 1 [.ref 498]) [] (G X I L F) 0 0 (am_kq mL_law 192 [some (.ref 1000000), some (.ref 0), some (.ref 498), some (.ref 540), some (.int x4), some (.int x5), some (.int e0)] [] (c + am_bc mX10_thrown) (s + am_bs mX10_thrown) Q))) : WP mL_law 189 [some (.ref 1000000), some (.ref 0), some (.ref 498), some (.ref 540), some (.int x4), some (.int x5), d6] [.int e0] (G X I L F) c s Q := by
  refine w_istore rL_law_189 rfl trivial ?_
  refine w_aload_n rL_law_191 rfl ?_
  refine w_invokevirtual rL_law_192 rfl rfl rfl (Nat.le_of_ble_eq_true rfl) ⟨trivial, trivial⟩ (G_is (by decide) rfl) q.1.1 q.1.2 ?_
  replace q := q.2
  exact q
theorem k_L_law_195 {X : Nat × (Nat → Int32)} {I : Nat → Nat → Int32} {L : Nat → Nat → Int64} {F : Nat → Nat → UInt32} {Q : AQ} {c s : Nat} {x4 : Int32} {x5 : Int32} {x6 : Int32} {e0 : Int32} (q : (e0 = x5 → (x5 = 0 → ((lg_cmp (L 540 0) (Int32.toInt64 x6)) = 0 → WP mL_law 23 [some (.ref 1000000), some (.ref 0), some (.ref 498), some (.ref 540), some (.int (x4 + 5)), some (.int x5), some (.int x6)] [] (G X I L F) c s Q) ∧ (¬ (lg_cmp (L 540 0) (Int32.toInt64 x6)) = 0 → Q (.inl (some (.int 0))) (G X I L F))) ∧ (¬ x5 = 0 → WP mL_law 23 [some (.ref 1000000), some (.ref 0), some (.ref 498), some (.ref 540), some (.int (x4 + 5)), some (.int x5), some (.int x6)] [] (G X I L F) c s Q)) ∧ (¬ e0 = x5 → Q (.inl (some (.int 0))) (G X I L F))) : WP mL_law 195 [some (.ref 1000000), some (.ref 0), some (.ref 498), some (.ref 540), some (.int x4), some (.int x5), some (.int x6)] [.int e0] (G X I L F) c s Q := by
  refine w_iload rL_law_195 rfl ?_
  refine w_icmpeq rL_law_197 (fun h197 => ?_) (fun h197 => ?_)
  · replace q := q.1 h197
    refine w_iload rL_law_202 rfl ?_
    refine w_ifne rL_law_204 (fun h204 => ?_) (fun h204 => ?_)
    · replace q := q.2 h204
      refine w_goto rL_law_219 ?_
      refine w_iinc rL_law_1721 rfl rfl trivial ?_
      refine w_goto rL_law_1724 ?_
      exact q
    · replace q := q.1 h204
      refine w_aload_n rL_law_207 rfl ?_
      refine w_iconst rL_law_208 (x := 0) (by decide) ?_
      refine xl_laload rL_law_209 (G_at (by decide) rfl rfl (by unfold vp_in; decide)) (i := 0) (by decide) ?_
      refine w_iload rL_law_210 rfl ?_
      refine w_i2l rL_law_212 ?_
      refine w_lcmp rL_law_213 ?_
      refine w_ifeq rL_law_214 (fun h214 => ?_) (fun h214 => ?_)
      · replace q := q.1 h214
        refine w_goto rL_law_219 ?_
        refine w_iinc rL_law_1721 rfl rfl trivial ?_
        refine w_goto rL_law_1724 ?_
        exact q
      · replace q := q.2 h214
        refine w_iconst rL_law_217 (x := 0) (by decide) ?_
        refine w_ireturn rL_law_218 (Or.inl rfl) ?_
        exact q
  · replace q := q.2 h197
    refine w_iconst rL_law_200 (x := 0) (by decide) ?_
    refine w_ireturn rL_law_201 (Or.inl rfl) ?_
    exact q
theorem k_L_law_226 {X : Nat × (Nat → Int32)} {I : Nat → Nat → Int32} {L : Nat → Nat → Int64} {F : Nat → Nat → UInt32} {Q : AQ} {c s : Nat} {x4 : Int32} {d5 : Option Value} {d6 : Option Value} {e0 : Int32} (q : (c + am_bc mX10_wipe ≤ am_bc mL_law ∧ s + am_bs mX10_wipe ≤ am_bs mL_law) ∧ (WP mX10_wipe 0 (am_ent 2 [.ref 498]) [] (G X I L F) 0 0 (am_kq mL_law 227 [some (.ref 1000000), some (.ref 0), some (.ref 498), some (.ref 540), some (.int x4), d5, d6] [.int e0] (c + am_bc mX10_wipe) (s + am_bs mX10_wipe) Q))) : WP mL_law 226 [some (.ref 1000000), some (.ref 0), some (.ref 498), some (.ref 540), some (.int x4), d5, d6] [.int e0] (G X I L F) c s Q := by
  refine w_aload_n rL_law_226 rfl ?_
  refine w_invokevirtual rL_law_227 rfl rfl rfl (Nat.le_of_ble_eq_true rfl) ⟨trivial, trivial⟩ (G_is (by decide) rfl) q.1.1 q.1.2 ?_
  replace q := q.2
  exact q
theorem k_L_law_230 {X : Nat × (Nat → Int32)} {I : Nat → Nat → Int32} {L : Nat → Nat → Int64} {F : Nat → Nat → UInt32} {Q : AQ} {c s : Nat} {x4 : Int32} {d5 : Option Value} {d6 : Option Value} {e0 : Int32} {e1 : Int32} (q : (e0 = e1 → WP mL_law 23 [some (.ref 1000000), some (.ref 0), some (.ref 498), some (.ref 540), some (.int (x4 + 5)), d5, d6] [] (G X I L F) c s Q) ∧ (¬ e0 = e1 → Q (.inl (some (.int 0))) (G X I L F))) : WP mL_law 230 [some (.ref 1000000), some (.ref 0), some (.ref 498), some (.ref 540), some (.int x4), d5, d6] [.int e1, .int e0] (G X I L F) c s Q := by
  refine w_icmpeq rL_law_230 (fun h230 => ?_) (fun h230 => ?_)
  · replace q := q.1 h230
    refine w_iinc rL_law_1721 rfl rfl trivial ?_
    refine w_goto rL_law_1724 ?_
    exact q
  · replace q := q.2 h230
    refine w_iconst rL_law_233 (x := 0) (by decide) ?_
    refine w_ireturn rL_law_234 (Or.inl rfl) ?_
    exact q
theorem k_L_law_253 {X : Nat × (Nat → Int32)} {I : Nat → Nat → Int32} {L : Nat → Nat → Int64} {F : Nat → Nat → UInt32} {Q : AQ} {c s : Nat} {x4 : Int32} {d5 : Option Value} {d6 : Option Value} {e0 : Int32} (q : vp_in (x4 + 1) X.1 ∧ (∀ s260_2 : Int32, s260_2 = (if (X.2 (Int32.toNatClampNeg (x4 + 1))) = 0 then 0 else 1 : Int32) → ((c + am_bc mX10_fault ≤ am_bc mL_law ∧ s + am_bs mX10_fault ≤ am_bs mL_law) ∧ (WP mX10_fault 0 (am_ent 2 [.ref 498, .int s260_2]) [] (G X I L F) 0 0 (am_kq mL_law 268 [some (.ref 1000000), some (.ref 0), some (.ref 498), some (.ref 540), some (.int x4), d5, d6] [.int e0] (c + am_bc mX10_fault) (s + am_bs mX10_fault) Q))))) : WP mL_law 253 [some (.ref 1000000), some (.ref 0), some (.ref 498), some (.ref 540), some (.int x4), d5, d6] [.int e0] (G X I L F) c s Q := by
  refine w_aload_n rL_law_253 rfl ?_
  refine w_aload_n rL_law_254 rfl ?_
  refine w_iload rL_law_255 rfl ?_
  refine w_iconst rL_law_257 (x := 1) (by decide) ?_
  refine w_iadd rL_law_258 ?_
  refine w_ialoadX rL_law_259 rfl q.1 ?_
  replace q := q.2
  have j260 : ∀ s260_2 : Int32, s260_2 = (if (X.2 (Int32.toNatClampNeg (x4 + 1))) = 0 then 0 else 1 : Int32) → WP mL_law 268 [some (.ref 1000000), some (.ref 0), some (.ref 498), some (.ref 540), some (.int x4), d5, d6] [.int s260_2, .ref 498, .int e0] (G X I L F) c s Q := by
    intro s260_2 es260_2
    replace q := q s260_2 es260_2
    refine w_invokevirtual rL_law_268 rfl rfl rfl (Nat.le_of_ble_eq_true rfl) ⟨trivial, trivial, trivial⟩ (G_is (by decide) rfl) q.1.1 q.1.2 ?_
    replace q := q.2
    exact q
  refine w_ifeq rL_law_260 (fun h260 => ?_) (fun h260 => ?_)
  · skip
    refine w_iconst rL_law_267 (x := 0) (by decide) ?_
    exact j260 _ (if_pos h260).symm
  · skip
    refine w_iconst rL_law_263 (x := 1) (by decide) ?_
    refine w_goto rL_law_264 ?_
    exact j260 _ (if_neg h260).symm
theorem k_L_law_271 {X : Nat × (Nat → Int32)} {I : Nat → Nat → Int32} {L : Nat → Nat → Int64} {F : Nat → Nat → UInt32} {Q : AQ} {c s : Nat} {x4 : Int32} {d5 : Option Value} {d6 : Option Value} {e0 : Int32} {e1 : Int32} (q : (e0 = e1 → WP mL_law 23 [some (.ref 1000000), some (.ref 0), some (.ref 498), some (.ref 540), some (.int (x4 + 5)), d5, d6] [] (G X I L F) c s Q) ∧ (¬ e0 = e1 → Q (.inl (some (.int 0))) (G X I L F))) : WP mL_law 271 [some (.ref 1000000), some (.ref 0), some (.ref 498), some (.ref 540), some (.int x4), d5, d6] [.int e1, .int e0] (G X I L F) c s Q := by
  refine w_icmpeq rL_law_271 (fun h271 => ?_) (fun h271 => ?_)
  · replace q := q.1 h271
    refine w_iinc rL_law_1721 rfl rfl trivial ?_
    refine w_goto rL_law_1724 ?_
    exact q
  · replace q := q.2 h271
    refine w_iconst rL_law_274 (x := 0) (by decide) ?_
    refine w_ireturn rL_law_275 (Or.inl rfl) ?_
    exact q
theorem k_L_law_287 {X : Nat × (Nat → Int32)} {I : Nat → Nat → Int32} {L : Nat → Nat → Int64} {F : Nat → Nat → UInt32} {Q : AQ} {c s : Nat} {x4 : Int32} {d5 : Option Value} {d6 : Option Value} {e0 : Int32} (q : vp_in (x4 + 1) X.1 ∧ ((c + am_bc mX10_publish ≤ am_bc mL_law ∧ s + am_bs mX10_publish ≤ am_bs mL_law) ∧ (WP mX10_publish 0 (am_ent 8 [.ref 498, .int (X.2 (Int32.toNatClampNeg (x4 + 1)))]) [] (G X I L F) 0 0 (am_kq mL_law 296 [some (.ref 1000000), some (.ref 0), some (.ref 498), some (.ref 540), some (.int x4), some (.int e0), d6] [] (c + am_bc mX10_publish) (s + am_bs mX10_publish) Q)))) : WP mL_law 287 [some (.ref 1000000), some (.ref 0), some (.ref 498), some (.ref 540), some (.int x4), d5, d6] [.int e0] (G X I L F) c s Q := by
  refine w_istore rL_law_287 rfl trivial ?_
  refine w_aload_n rL_law_289 rfl ?_
  refine w_aload_n rL_law_290 rfl ?_
  refine w_iload rL_law_291 rfl ?_
  refine w_iconst rL_law_293 (x := 1) (by decide) ?_
  refine w_iadd rL_law_294 ?_
  refine w_ialoadX rL_law_295 rfl q.1 ?_
  replace q := q.2
  refine w_invokevirtual rL_law_296 rfl rfl rfl (Nat.le_of_ble_eq_true rfl) ⟨trivial, trivial, trivial⟩ (G_is (by decide) rfl) q.1.1 q.1.2 ?_
  replace q := q.2
  exact q
theorem k_L_law_299 {X : Nat × (Nat → Int32)} {I : Nat → Nat → Int32} {L : Nat → Nat → Int64} {F : Nat → Nat → UInt32} {Q : AQ} {c s : Nat} {x4 : Int32} {x5 : Int32} {d6 : Option Value} {e0 : Int32} (q : (c + am_bc mX10_thrown ≤ am_bc mL_law ∧ s + am_bs mX10_thrown ≤ am_bs mL_law) ∧ (WP mX10_thrown 0 (am_ent 1 [.ref 498]) [] (G X I L F) 0 0 (am_kq mL_law 302 [some (.ref 1000000), some (.ref 0), some (.ref 498), some (.ref 540), some (.int x4), some (.int x5), some (.int e0)] [] (c + am_bc mX10_thrown) (s + am_bs mX10_thrown) Q))) : WP mL_law 299 [some (.ref 1000000), some (.ref 0), some (.ref 498), some (.ref 540), some (.int x4), some (.int x5), d6] [.int e0] (G X I L F) c s Q := by
  refine w_istore rL_law_299 rfl trivial ?_
  refine w_aload_n rL_law_301 rfl ?_
  refine w_invokevirtual rL_law_302 rfl rfl rfl (Nat.le_of_ble_eq_true rfl) ⟨trivial, trivial⟩ (G_is (by decide) rfl) q.1.1 q.1.2 ?_
  replace q := q.2
  exact q
theorem k_L_law_305 {X : Nat × (Nat → Int32)} {I : Nat → Nat → Int32} {L : Nat → Nat → Int64} {F : Nat → Nat → UInt32} {Q : AQ} {c s : Nat} {x4 : Int32} {x5 : Int32} {x6 : Int32} {e0 : Int32} (q : (e0 = x5 → (x5 = 0 → ((lg_cmp (L 540 0) (Int32.toInt64 x6)) = 0 → WP mL_law 23 [some (.ref 1000000), some (.ref 0), some (.ref 498), some (.ref 540), some (.int (x4 + 5)), some (.int x5), some (.int x6)] [] (G X I L F) c s Q) ∧ (¬ (lg_cmp (L 540 0) (Int32.toInt64 x6)) = 0 → Q (.inl (some (.int 0))) (G X I L F))) ∧ (¬ x5 = 0 → WP mL_law 23 [some (.ref 1000000), some (.ref 0), some (.ref 498), some (.ref 540), some (.int (x4 + 5)), some (.int x5), some (.int x6)] [] (G X I L F) c s Q)) ∧ (¬ e0 = x5 → Q (.inl (some (.int 0))) (G X I L F))) : WP mL_law 305 [some (.ref 1000000), some (.ref 0), some (.ref 498), some (.ref 540), some (.int x4), some (.int x5), some (.int x6)] [.int e0] (G X I L F) c s Q := by
  refine w_iload rL_law_305 rfl ?_
  refine w_icmpeq rL_law_307 (fun h307 => ?_) (fun h307 => ?_)
  · replace q := q.1 h307
    refine w_iload rL_law_312 rfl ?_
    refine w_ifne rL_law_314 (fun h314 => ?_) (fun h314 => ?_)
    · replace q := q.2 h314
      refine w_goto rL_law_329 ?_
      refine w_iinc rL_law_1721 rfl rfl trivial ?_
      refine w_goto rL_law_1724 ?_
      exact q
    · replace q := q.1 h314
      refine w_aload_n rL_law_317 rfl ?_
      refine w_iconst rL_law_318 (x := 0) (by decide) ?_
      refine xl_laload rL_law_319 (G_at (by decide) rfl rfl (by unfold vp_in; decide)) (i := 0) (by decide) ?_
      refine w_iload rL_law_320 rfl ?_
      refine w_i2l rL_law_322 ?_
      refine w_lcmp rL_law_323 ?_
      refine w_ifeq rL_law_324 (fun h324 => ?_) (fun h324 => ?_)
      · replace q := q.1 h324
        refine w_goto rL_law_329 ?_
        refine w_iinc rL_law_1721 rfl rfl trivial ?_
        refine w_goto rL_law_1724 ?_
        exact q
      · replace q := q.2 h324
        refine w_iconst rL_law_327 (x := 0) (by decide) ?_
        refine w_ireturn rL_law_328 (Or.inl rfl) ?_
        exact q
  · replace q := q.2 h307
    refine w_iconst rL_law_310 (x := 0) (by decide) ?_
    refine w_ireturn rL_law_311 (Or.inl rfl) ?_
    exact q
theorem k_L_law_343 {X : Nat × (Nat → Int32)} {I : Nat → Nat → Int32} {L : Nat → Nat → Int64} {F : Nat → Nat → UInt32} {Q : AQ} {c s : Nat} {x4 : Int32} {d5 : Option Value} {d6 : Option Value} {e0 : Int32} (q : vp_in (x4 + 1) X.1 ∧ ((c + am_bc mX10_retire ≤ am_bc mL_law ∧ s + am_bs mX10_retire ≤ am_bs mL_law) ∧ (WP mX10_retire 0 (am_ent 4 [.ref 498, .int (X.2 (Int32.toNatClampNeg (x4 + 1)))]) [] (G X I L F) 0 0 (am_kq mL_law 352 [some (.ref 1000000), some (.ref 0), some (.ref 498), some (.ref 540), some (.int x4), some (.int e0), d6] [] (c + am_bc mX10_retire) (s + am_bs mX10_retire) Q)))) : WP mL_law 343 [some (.ref 1000000), some (.ref 0), some (.ref 498), some (.ref 540), some (.int x4), d5, d6] [.int e0] (G X I L F) c s Q := by
  refine w_istore rL_law_343 rfl trivial ?_
  refine w_aload_n rL_law_345 rfl ?_
  refine w_aload_n rL_law_346 rfl ?_
  refine w_iload rL_law_347 rfl ?_
  refine w_iconst rL_law_349 (x := 1) (by decide) ?_
  refine w_iadd rL_law_350 ?_
  refine w_ialoadX rL_law_351 rfl q.1 ?_
  replace q := q.2
  refine w_invokevirtual rL_law_352 rfl rfl rfl (Nat.le_of_ble_eq_true rfl) ⟨trivial, trivial, trivial⟩ (G_is (by decide) rfl) q.1.1 q.1.2 ?_
  replace q := q.2
  exact q
theorem k_L_law_355 {X : Nat × (Nat → Int32)} {I : Nat → Nat → Int32} {L : Nat → Nat → Int64} {F : Nat → Nat → UInt32} {Q : AQ} {c s : Nat} {x4 : Int32} {x5 : Int32} {d6 : Option Value} {e0 : Int32} (q : (c + am_bc mX10_thrown ≤ am_bc mL_law ∧ s + am_bs mX10_thrown ≤ am_bs mL_law) ∧ (WP mX10_thrown 0 (am_ent 1 [.ref 498]) [] (G X I L F) 0 0 (am_kq mL_law 358 [some (.ref 1000000), some (.ref 0), some (.ref 498), some (.ref 540), some (.int x4), some (.int x5), some (.int e0)] [] (c + am_bc mX10_thrown) (s + am_bs mX10_thrown) Q))) : WP mL_law 355 [some (.ref 1000000), some (.ref 0), some (.ref 498), some (.ref 540), some (.int x4), some (.int x5), d6] [.int e0] (G X I L F) c s Q := by
  refine w_istore rL_law_355 rfl trivial ?_
  refine w_aload_n rL_law_357 rfl ?_
  refine w_invokevirtual rL_law_358 rfl rfl rfl (Nat.le_of_ble_eq_true rfl) ⟨trivial, trivial⟩ (G_is (by decide) rfl) q.1.1 q.1.2 ?_
  replace q := q.2
  exact q
theorem k_L_law_361 {X : Nat × (Nat → Int32)} {I : Nat → Nat → Int32} {L : Nat → Nat → Int64} {F : Nat → Nat → UInt32} {Q : AQ} {c s : Nat} {x4 : Int32} {x5 : Int32} {x6 : Int32} {e0 : Int32} (q : (e0 = x5 → (x5 = 0 → ((lg_cmp (L 540 0) (Int32.toInt64 x6)) = 0 → WP mL_law 23 [some (.ref 1000000), some (.ref 0), some (.ref 498), some (.ref 540), some (.int (x4 + 5)), some (.int x5), some (.int x6)] [] (G X I L F) c s Q) ∧ (¬ (lg_cmp (L 540 0) (Int32.toInt64 x6)) = 0 → Q (.inl (some (.int 0))) (G X I L F))) ∧ (¬ x5 = 0 → WP mL_law 23 [some (.ref 1000000), some (.ref 0), some (.ref 498), some (.ref 540), some (.int (x4 + 5)), some (.int x5), some (.int x6)] [] (G X I L F) c s Q)) ∧ (¬ e0 = x5 → Q (.inl (some (.int 0))) (G X I L F))) : WP mL_law 361 [some (.ref 1000000), some (.ref 0), some (.ref 498), some (.ref 540), some (.int x4), some (.int x5), some (.int x6)] [.int e0] (G X I L F) c s Q := by
  refine w_iload rL_law_361 rfl ?_
  refine w_icmpeq rL_law_363 (fun h363 => ?_) (fun h363 => ?_)
  · replace q := q.1 h363
    refine w_iload rL_law_368 rfl ?_
    refine w_ifne rL_law_370 (fun h370 => ?_) (fun h370 => ?_)
    · replace q := q.2 h370
      refine w_goto rL_law_385 ?_
      refine w_iinc rL_law_1721 rfl rfl trivial ?_
      refine w_goto rL_law_1724 ?_
      exact q
    · replace q := q.1 h370
      refine w_aload_n rL_law_373 rfl ?_
      refine w_iconst rL_law_374 (x := 0) (by decide) ?_
      refine xl_laload rL_law_375 (G_at (by decide) rfl rfl (by unfold vp_in; decide)) (i := 0) (by decide) ?_
      refine w_iload rL_law_376 rfl ?_
      refine w_i2l rL_law_378 ?_
      refine w_lcmp rL_law_379 ?_
      refine w_ifeq rL_law_380 (fun h380 => ?_) (fun h380 => ?_)
      · replace q := q.1 h380
        refine w_goto rL_law_385 ?_
        refine w_iinc rL_law_1721 rfl rfl trivial ?_
        refine w_goto rL_law_1724 ?_
        exact q
      · replace q := q.2 h380
        refine w_iconst rL_law_383 (x := 0) (by decide) ?_
        refine w_ireturn rL_law_384 (Or.inl rfl) ?_
        exact q
  · replace q := q.2 h363
    refine w_iconst rL_law_366 (x := 0) (by decide) ?_
    refine w_ireturn rL_law_367 (Or.inl rfl) ?_
    exact q
theorem k_L_law_399 {X : Nat × (Nat → Int32)} {I : Nat → Nat → Int32} {L : Nat → Nat → Int64} {F : Nat → Nat → UInt32} {Q : AQ} {c s : Nat} {x4 : Int32} {d5 : Option Value} {d6 : Option Value} {e0 : Int32} (q : vp_in (x4 + 1) X.1 ∧ ((c + am_bc mX10_latest ≤ am_bc mL_law ∧ s + am_bs mX10_latest ≤ am_bs mL_law) ∧ (WP mX10_latest 0 (am_ent 2 [.ref 498, .int (X.2 (Int32.toNatClampNeg (x4 + 1)))]) [] (G X I L F) 0 0 (am_kq mL_law 408 [some (.ref 1000000), some (.ref 0), some (.ref 498), some (.ref 540), some (.int x4), some (.int e0), d6] [] (c + am_bc mX10_latest) (s + am_bs mX10_latest) Q)))) : WP mL_law 399 [some (.ref 1000000), some (.ref 0), some (.ref 498), some (.ref 540), some (.int x4), d5, d6] [.int e0] (G X I L F) c s Q := by
  refine w_istore rL_law_399 rfl trivial ?_
  refine w_aload_n rL_law_401 rfl ?_
  refine w_aload_n rL_law_402 rfl ?_
  refine w_iload rL_law_403 rfl ?_
  refine w_iconst rL_law_405 (x := 1) (by decide) ?_
  refine w_iadd rL_law_406 ?_
  refine w_ialoadX rL_law_407 rfl q.1 ?_
  replace q := q.2
  refine w_invokevirtual rL_law_408 rfl rfl rfl (Nat.le_of_ble_eq_true rfl) ⟨trivial, trivial, trivial⟩ (G_is (by decide) rfl) q.1.1 q.1.2 ?_
  replace q := q.2
  exact q
theorem k_L_law_411 {X : Nat × (Nat → Int32)} {I : Nat → Nat → Int32} {L : Nat → Nat → Int64} {F : Nat → Nat → UInt32} {Q : AQ} {c s : Nat} {x4 : Int32} {x5 : Int32} {d6 : Option Value} {e0 : Int32} (q : (c + am_bc mX10_thrown ≤ am_bc mL_law ∧ s + am_bs mX10_thrown ≤ am_bs mL_law) ∧ (WP mX10_thrown 0 (am_ent 1 [.ref 498]) [] (G X I L F) 0 0 (am_kq mL_law 414 [some (.ref 1000000), some (.ref 0), some (.ref 498), some (.ref 540), some (.int x4), some (.int x5), some (.int e0)] [] (c + am_bc mX10_thrown) (s + am_bs mX10_thrown) Q))) : WP mL_law 411 [some (.ref 1000000), some (.ref 0), some (.ref 498), some (.ref 540), some (.int x4), some (.int x5), d6] [.int e0] (G X I L F) c s Q := by
  refine w_istore rL_law_411 rfl trivial ?_
  refine w_aload_n rL_law_413 rfl ?_
  refine w_invokevirtual rL_law_414 rfl rfl rfl (Nat.le_of_ble_eq_true rfl) ⟨trivial, trivial⟩ (G_is (by decide) rfl) q.1.1 q.1.2 ?_
  replace q := q.2
  exact q
theorem k_L_law_417 {X : Nat × (Nat → Int32)} {I : Nat → Nat → Int32} {L : Nat → Nat → Int64} {F : Nat → Nat → UInt32} {Q : AQ} {c s : Nat} {x4 : Int32} {x5 : Int32} {x6 : Int32} {e0 : Int32} (q : (e0 = x5 → (x5 = 0 → ((lg_cmp (L 540 0) (Int32.toInt64 x6)) = 0 → WP mL_law 23 [some (.ref 1000000), some (.ref 0), some (.ref 498), some (.ref 540), some (.int (x4 + 5)), some (.int x5), some (.int x6)] [] (G X I L F) c s Q) ∧ (¬ (lg_cmp (L 540 0) (Int32.toInt64 x6)) = 0 → Q (.inl (some (.int 0))) (G X I L F))) ∧ (¬ x5 = 0 → WP mL_law 23 [some (.ref 1000000), some (.ref 0), some (.ref 498), some (.ref 540), some (.int (x4 + 5)), some (.int x5), some (.int x6)] [] (G X I L F) c s Q)) ∧ (¬ e0 = x5 → Q (.inl (some (.int 0))) (G X I L F))) : WP mL_law 417 [some (.ref 1000000), some (.ref 0), some (.ref 498), some (.ref 540), some (.int x4), some (.int x5), some (.int x6)] [.int e0] (G X I L F) c s Q := by
  refine w_iload rL_law_417 rfl ?_
  refine w_icmpeq rL_law_419 (fun h419 => ?_) (fun h419 => ?_)
  · replace q := q.1 h419
    refine w_iload rL_law_424 rfl ?_
    refine w_ifne rL_law_426 (fun h426 => ?_) (fun h426 => ?_)
    · replace q := q.2 h426
      refine w_goto rL_law_441 ?_
      refine w_iinc rL_law_1721 rfl rfl trivial ?_
      refine w_goto rL_law_1724 ?_
      exact q
    · replace q := q.1 h426
      refine w_aload_n rL_law_429 rfl ?_
      refine w_iconst rL_law_430 (x := 0) (by decide) ?_
      refine xl_laload rL_law_431 (G_at (by decide) rfl rfl (by unfold vp_in; decide)) (i := 0) (by decide) ?_
      refine w_iload rL_law_432 rfl ?_
      refine w_i2l rL_law_434 ?_
      refine w_lcmp rL_law_435 ?_
      refine w_ifeq rL_law_436 (fun h436 => ?_) (fun h436 => ?_)
      · replace q := q.1 h436
        refine w_goto rL_law_441 ?_
        refine w_iinc rL_law_1721 rfl rfl trivial ?_
        refine w_goto rL_law_1724 ?_
        exact q
      · replace q := q.2 h436
        refine w_iconst rL_law_439 (x := 0) (by decide) ?_
        refine w_ireturn rL_law_440 (Or.inl rfl) ?_
        exact q
  · replace q := q.2 h419
    refine w_iconst rL_law_422 (x := 0) (by decide) ?_
    refine w_ireturn rL_law_423 (Or.inl rfl) ?_
    exact q
theorem k_L_law_461 {X : Nat × (Nat → Int32)} {I : Nat → Nat → Int32} {L : Nat → Nat → Int64} {F : Nat → Nat → UInt32} {Q : AQ} {c s : Nat} {x4 : Int32} {d5 : Option Value} {d6 : Option Value} {e0 : Int32} (q : vp_in (x4 + 1) X.1 ∧ (vp_in (x4 + 2) X.1 ∧ ((c + am_bc mX10_pin ≤ am_bc mL_law ∧ s + am_bs mX10_pin ≤ am_bs mL_law) ∧ (WP mX10_pin 0 (am_ent 3 [.ref 498, .int (X.2 (Int32.toNatClampNeg (x4 + 1))), .int (X.2 (Int32.toNatClampNeg (x4 + 2)))]) [] (G X I L F) 0 0 (am_kq mL_law 476 [some (.ref 1000000), some (.ref 0), some (.ref 498), some (.ref 540), some (.int x4), some (.int e0), d6] [] (c + am_bc mX10_pin) (s + am_bs mX10_pin) Q))))) : WP mL_law 461 [some (.ref 1000000), some (.ref 0), some (.ref 498), some (.ref 540), some (.int x4), d5, d6] [.int e0] (G X I L F) c s Q := by
  refine w_istore rL_law_461 rfl trivial ?_
  refine w_aload_n rL_law_463 rfl ?_
  refine w_aload_n rL_law_464 rfl ?_
  refine w_iload rL_law_465 rfl ?_
  refine w_iconst rL_law_467 (x := 1) (by decide) ?_
  refine w_iadd rL_law_468 ?_
  refine w_ialoadX rL_law_469 rfl q.1 ?_
  replace q := q.2
  refine w_aload_n rL_law_470 rfl ?_
  refine w_iload rL_law_471 rfl ?_
  refine w_iconst rL_law_473 (x := 2) (by decide) ?_
  refine w_iadd rL_law_474 ?_
  refine w_ialoadX rL_law_475 rfl q.1 ?_
  replace q := q.2
  refine w_invokevirtual rL_law_476 rfl rfl rfl (Nat.le_of_ble_eq_true rfl) ⟨trivial, trivial, trivial, trivial⟩ (G_is (by decide) rfl) q.1.1 q.1.2 ?_
  replace q := q.2
  exact q
theorem k_L_law_479 {X : Nat × (Nat → Int32)} {I : Nat → Nat → Int32} {L : Nat → Nat → Int64} {F : Nat → Nat → UInt32} {Q : AQ} {c s : Nat} {x4 : Int32} {x5 : Int32} {d6 : Option Value} {e0 : Int32} (q : (c + am_bc mX10_thrown ≤ am_bc mL_law ∧ s + am_bs mX10_thrown ≤ am_bs mL_law) ∧ (WP mX10_thrown 0 (am_ent 1 [.ref 498]) [] (G X I L F) 0 0 (am_kq mL_law 482 [some (.ref 1000000), some (.ref 0), some (.ref 498), some (.ref 540), some (.int x4), some (.int x5), some (.int e0)] [] (c + am_bc mX10_thrown) (s + am_bs mX10_thrown) Q))) : WP mL_law 479 [some (.ref 1000000), some (.ref 0), some (.ref 498), some (.ref 540), some (.int x4), some (.int x5), d6] [.int e0] (G X I L F) c s Q := by
  refine w_istore rL_law_479 rfl trivial ?_
  refine w_aload_n rL_law_481 rfl ?_
  refine w_invokevirtual rL_law_482 rfl rfl rfl (Nat.le_of_ble_eq_true rfl) ⟨trivial, trivial⟩ (G_is (by decide) rfl) q.1.1 q.1.2 ?_
  replace q := q.2
  exact q
theorem k_L_law_485 {X : Nat × (Nat → Int32)} {I : Nat → Nat → Int32} {L : Nat → Nat → Int64} {F : Nat → Nat → UInt32} {Q : AQ} {c s : Nat} {x4 : Int32} {x5 : Int32} {x6 : Int32} {e0 : Int32} (q : (e0 = x5 → (x5 = 0 → ((lg_cmp (L 540 0) (Int32.toInt64 x6)) = 0 → WP mL_law 23 [some (.ref 1000000), some (.ref 0), some (.ref 498), some (.ref 540), some (.int (x4 + 5)), some (.int x5), some (.int x6)] [] (G X I L F) c s Q) ∧ (¬ (lg_cmp (L 540 0) (Int32.toInt64 x6)) = 0 → Q (.inl (some (.int 0))) (G X I L F))) ∧ (¬ x5 = 0 → WP mL_law 23 [some (.ref 1000000), some (.ref 0), some (.ref 498), some (.ref 540), some (.int (x4 + 5)), some (.int x5), some (.int x6)] [] (G X I L F) c s Q)) ∧ (¬ e0 = x5 → Q (.inl (some (.int 0))) (G X I L F))) : WP mL_law 485 [some (.ref 1000000), some (.ref 0), some (.ref 498), some (.ref 540), some (.int x4), some (.int x5), some (.int x6)] [.int e0] (G X I L F) c s Q := by
  refine w_iload rL_law_485 rfl ?_
  refine w_icmpeq rL_law_487 (fun h487 => ?_) (fun h487 => ?_)
  · replace q := q.1 h487
    refine w_iload rL_law_492 rfl ?_
    refine w_ifne rL_law_494 (fun h494 => ?_) (fun h494 => ?_)
    · replace q := q.2 h494
      refine w_goto rL_law_509 ?_
      refine w_iinc rL_law_1721 rfl rfl trivial ?_
      refine w_goto rL_law_1724 ?_
      exact q
    · replace q := q.1 h494
      refine w_aload_n rL_law_497 rfl ?_
      refine w_iconst rL_law_498 (x := 0) (by decide) ?_
      refine xl_laload rL_law_499 (G_at (by decide) rfl rfl (by unfold vp_in; decide)) (i := 0) (by decide) ?_
      refine w_iload rL_law_500 rfl ?_
      refine w_i2l rL_law_502 ?_
      refine w_lcmp rL_law_503 ?_
      refine w_ifeq rL_law_504 (fun h504 => ?_) (fun h504 => ?_)
      · replace q := q.1 h504
        refine w_goto rL_law_509 ?_
        refine w_iinc rL_law_1721 rfl rfl trivial ?_
        refine w_goto rL_law_1724 ?_
        exact q
      · replace q := q.2 h504
        refine w_iconst rL_law_507 (x := 0) (by decide) ?_
        refine w_ireturn rL_law_508 (Or.inl rfl) ?_
        exact q
  · replace q := q.2 h487
    refine w_iconst rL_law_490 (x := 0) (by decide) ?_
    refine w_ireturn rL_law_491 (Or.inl rfl) ?_
    exact q
theorem k_L_law_535 {X : Nat × (Nat → Int32)} {I : Nat → Nat → Int32} {L : Nat → Nat → Int64} {F : Nat → Nat → UInt32} {Q : AQ} {c s : Nat} {x4 : Int32} {d5 : Option Value} {d6 : Option Value} {e0 : Int32} (q : vp_in (x4 + 1) X.1 ∧ (vp_in (x4 + 2) X.1 ∧ (vp_in (x4 + 3) X.1 ∧ ((c + am_bc mX10_rain ≤ am_bc mL_law ∧ s + am_bs mX10_rain ≤ am_bs mL_law) ∧ (WP mX10_rain 0 (am_ent 6 [.ref 498, .int (X.2 (Int32.toNatClampNeg (x4 + 1))), .int (X.2 (Int32.toNatClampNeg (x4 + 2))), .int (X.2 (Int32.toNatClampNeg (x4 + 3)))]) [] (G X I L F) 0 0 (am_kq mL_law 556 [some (.ref 1000000), some (.ref 0), some (.ref 498), some (.ref 540), some (.int x4), some (.int e0), d6] [] (c + am_bc mX10_rain) (s + am_bs mX10_rain) Q)))))) : WP mL_law 535 [some (.ref 1000000), some (.ref 0), some (.ref 498), some (.ref 540), some (.int x4), d5, d6] [.int e0] (G X I L F) c s Q := by
  refine w_istore rL_law_535 rfl trivial ?_
  refine w_aload_n rL_law_537 rfl ?_
  refine w_aload_n rL_law_538 rfl ?_
  refine w_iload rL_law_539 rfl ?_
  refine w_iconst rL_law_541 (x := 1) (by decide) ?_
  refine w_iadd rL_law_542 ?_
  refine w_ialoadX rL_law_543 rfl q.1 ?_
  replace q := q.2
  refine w_aload_n rL_law_544 rfl ?_
  refine w_iload rL_law_545 rfl ?_
  refine w_iconst rL_law_547 (x := 2) (by decide) ?_
  refine w_iadd rL_law_548 ?_
  refine w_ialoadX rL_law_549 rfl q.1 ?_
  replace q := q.2
  refine w_aload_n rL_law_550 rfl ?_
  refine w_iload rL_law_551 rfl ?_
  refine w_iconst rL_law_553 (x := 3) (by decide) ?_
  refine w_iadd rL_law_554 ?_
  refine w_ialoadX rL_law_555 rfl q.1 ?_
  replace q := q.2
  refine w_invokevirtual rL_law_556 rfl rfl rfl (Nat.le_of_ble_eq_true rfl) ⟨trivial, trivial, trivial, trivial, trivial⟩ (G_is (by decide) rfl) q.1.1 q.1.2 ?_
  replace q := q.2
  exact q
theorem k_L_law_559 {X : Nat × (Nat → Int32)} {I : Nat → Nat → Int32} {L : Nat → Nat → Int64} {F : Nat → Nat → UInt32} {Q : AQ} {c s : Nat} {x4 : Int32} {x5 : Int32} {d6 : Option Value} {e0 : Int32} (q : (c + am_bc mX10_thrown ≤ am_bc mL_law ∧ s + am_bs mX10_thrown ≤ am_bs mL_law) ∧ (WP mX10_thrown 0 (am_ent 1 [.ref 498]) [] (G X I L F) 0 0 (am_kq mL_law 562 [some (.ref 1000000), some (.ref 0), some (.ref 498), some (.ref 540), some (.int x4), some (.int x5), some (.int e0)] [] (c + am_bc mX10_thrown) (s + am_bs mX10_thrown) Q))) : WP mL_law 559 [some (.ref 1000000), some (.ref 0), some (.ref 498), some (.ref 540), some (.int x4), some (.int x5), d6] [.int e0] (G X I L F) c s Q := by
  refine w_istore rL_law_559 rfl trivial ?_
  refine w_aload_n rL_law_561 rfl ?_
  refine w_invokevirtual rL_law_562 rfl rfl rfl (Nat.le_of_ble_eq_true rfl) ⟨trivial, trivial⟩ (G_is (by decide) rfl) q.1.1 q.1.2 ?_
  replace q := q.2
  exact q
theorem k_L_law_565 {X : Nat × (Nat → Int32)} {I : Nat → Nat → Int32} {L : Nat → Nat → Int64} {F : Nat → Nat → UInt32} {Q : AQ} {c s : Nat} {x4 : Int32} {x5 : Int32} {x6 : Int32} {e0 : Int32} (q : (e0 = x5 → (x5 = 0 → ((lg_cmp (L 540 0) (Int32.toInt64 x6)) = 0 → WP mL_law 23 [some (.ref 1000000), some (.ref 0), some (.ref 498), some (.ref 540), some (.int (x4 + 5)), some (.int x5), some (.int x6)] [] (G X I L F) c s Q) ∧ (¬ (lg_cmp (L 540 0) (Int32.toInt64 x6)) = 0 → Q (.inl (some (.int 0))) (G X I L F))) ∧ (¬ x5 = 0 → WP mL_law 23 [some (.ref 1000000), some (.ref 0), some (.ref 498), some (.ref 540), some (.int (x4 + 5)), some (.int x5), some (.int x6)] [] (G X I L F) c s Q)) ∧ (¬ e0 = x5 → Q (.inl (some (.int 0))) (G X I L F))) : WP mL_law 565 [some (.ref 1000000), some (.ref 0), some (.ref 498), some (.ref 540), some (.int x4), some (.int x5), some (.int x6)] [.int e0] (G X I L F) c s Q := by
  refine w_iload rL_law_565 rfl ?_
  refine w_icmpeq rL_law_567 (fun h567 => ?_) (fun h567 => ?_)
  · replace q := q.1 h567
    refine w_iload rL_law_572 rfl ?_
    refine w_ifne rL_law_574 (fun h574 => ?_) (fun h574 => ?_)
    · replace q := q.2 h574
      refine w_goto rL_law_589 ?_
      refine w_iinc rL_law_1721 rfl rfl trivial ?_
      refine w_goto rL_law_1724 ?_
      exact q
    · replace q := q.1 h574
      refine w_aload_n rL_law_577 rfl ?_
      refine w_iconst rL_law_578 (x := 0) (by decide) ?_
      refine xl_laload rL_law_579 (G_at (by decide) rfl rfl (by unfold vp_in; decide)) (i := 0) (by decide) ?_
      refine w_iload rL_law_580 rfl ?_
      refine w_i2l rL_law_582 ?_
      refine w_lcmp rL_law_583 ?_
      refine w_ifeq rL_law_584 (fun h584 => ?_) (fun h584 => ?_)
      · replace q := q.1 h584
        refine w_goto rL_law_589 ?_
        refine w_iinc rL_law_1721 rfl rfl trivial ?_
        refine w_goto rL_law_1724 ?_
        exact q
      · replace q := q.2 h584
        refine w_iconst rL_law_587 (x := 0) (by decide) ?_
        refine w_ireturn rL_law_588 (Or.inl rfl) ?_
        exact q
  · replace q := q.2 h567
    refine w_iconst rL_law_570 (x := 0) (by decide) ?_
    refine w_ireturn rL_law_571 (Or.inl rfl) ?_
    exact q
theorem k_L_law_609 {X : Nat × (Nat → Int32)} {I : Nat → Nat → Int32} {L : Nat → Nat → Int64} {F : Nat → Nat → UInt32} {Q : AQ} {c s : Nat} {x4 : Int32} {d5 : Option Value} {d6 : Option Value} {e0 : Int32} (q : vp_in (x4 + 1) X.1 ∧ (vp_in (x4 + 2) X.1 ∧ ((c + am_bc mX10_out ≤ am_bc mL_law ∧ s + am_bs mX10_out ≤ am_bs mL_law) ∧ (WP mX10_out 0 (am_ent 3 [.ref 498, .int (X.2 (Int32.toNatClampNeg (x4 + 1))), .int (X.2 (Int32.toNatClampNeg (x4 + 2)))]) [] (G X I L F) 0 0 (am_kq mL_law 624 [some (.ref 1000000), some (.ref 0), some (.ref 498), some (.ref 540), some (.int x4), some (.int e0), d6] [] (c + am_bc mX10_out) (s + am_bs mX10_out) Q))))) : WP mL_law 609 [some (.ref 1000000), some (.ref 0), some (.ref 498), some (.ref 540), some (.int x4), d5, d6] [.int e0] (G X I L F) c s Q := by
  refine w_istore rL_law_609 rfl trivial ?_
  refine w_aload_n rL_law_611 rfl ?_
  refine w_aload_n rL_law_612 rfl ?_
  refine w_iload rL_law_613 rfl ?_
  refine w_iconst rL_law_615 (x := 1) (by decide) ?_
  refine w_iadd rL_law_616 ?_
  refine w_ialoadX rL_law_617 rfl q.1 ?_
  replace q := q.2
  refine w_aload_n rL_law_618 rfl ?_
  refine w_iload rL_law_619 rfl ?_
  refine w_iconst rL_law_621 (x := 2) (by decide) ?_
  refine w_iadd rL_law_622 ?_
  refine w_ialoadX rL_law_623 rfl q.1 ?_
  replace q := q.2
  refine w_invokevirtual rL_law_624 rfl rfl rfl (Nat.le_of_ble_eq_true rfl) ⟨trivial, trivial, trivial, trivial⟩ (G_is (by decide) rfl) q.1.1 q.1.2 ?_
  replace q := q.2
  exact q
theorem k_L_law_627 {X : Nat × (Nat → Int32)} {I : Nat → Nat → Int32} {L : Nat → Nat → Int64} {F : Nat → Nat → UInt32} {Q : AQ} {c s : Nat} {x4 : Int32} {x5 : Int32} {d6 : Option Value} {e0 : Int32} (q : (c + am_bc mX10_thrown ≤ am_bc mL_law ∧ s + am_bs mX10_thrown ≤ am_bs mL_law) ∧ (WP mX10_thrown 0 (am_ent 1 [.ref 498]) [] (G X I L F) 0 0 (am_kq mL_law 630 [some (.ref 1000000), some (.ref 0), some (.ref 498), some (.ref 540), some (.int x4), some (.int x5), some (.int e0)] [] (c + am_bc mX10_thrown) (s + am_bs mX10_thrown) Q))) : WP mL_law 627 [some (.ref 1000000), some (.ref 0), some (.ref 498), some (.ref 540), some (.int x4), some (.int x5), d6] [.int e0] (G X I L F) c s Q := by
  refine w_istore rL_law_627 rfl trivial ?_
  refine w_aload_n rL_law_629 rfl ?_
  refine w_invokevirtual rL_law_630 rfl rfl rfl (Nat.le_of_ble_eq_true rfl) ⟨trivial, trivial⟩ (G_is (by decide) rfl) q.1.1 q.1.2 ?_
  replace q := q.2
  exact q
theorem k_L_law_633 {X : Nat × (Nat → Int32)} {I : Nat → Nat → Int32} {L : Nat → Nat → Int64} {F : Nat → Nat → UInt32} {Q : AQ} {c s : Nat} {x4 : Int32} {x5 : Int32} {x6 : Int32} {e0 : Int32} (q : (e0 = x5 → (x5 = 0 → ((lg_cmp (L 540 0) (Int32.toInt64 x6)) = 0 → WP mL_law 23 [some (.ref 1000000), some (.ref 0), some (.ref 498), some (.ref 540), some (.int (x4 + 5)), some (.int x5), some (.int x6)] [] (G X I L F) c s Q) ∧ (¬ (lg_cmp (L 540 0) (Int32.toInt64 x6)) = 0 → Q (.inl (some (.int 0))) (G X I L F))) ∧ (¬ x5 = 0 → WP mL_law 23 [some (.ref 1000000), some (.ref 0), some (.ref 498), some (.ref 540), some (.int (x4 + 5)), some (.int x5), some (.int x6)] [] (G X I L F) c s Q)) ∧ (¬ e0 = x5 → Q (.inl (some (.int 0))) (G X I L F))) : WP mL_law 633 [some (.ref 1000000), some (.ref 0), some (.ref 498), some (.ref 540), some (.int x4), some (.int x5), some (.int x6)] [.int e0] (G X I L F) c s Q := by
  refine w_iload rL_law_633 rfl ?_
  refine w_icmpeq rL_law_635 (fun h635 => ?_) (fun h635 => ?_)
  · replace q := q.1 h635
    refine w_iload rL_law_640 rfl ?_
    refine w_ifne rL_law_642 (fun h642 => ?_) (fun h642 => ?_)
    · replace q := q.2 h642
      refine w_goto rL_law_657 ?_
      refine w_iinc rL_law_1721 rfl rfl trivial ?_
      refine w_goto rL_law_1724 ?_
      exact q
    · replace q := q.1 h642
      refine w_aload_n rL_law_645 rfl ?_
      refine w_iconst rL_law_646 (x := 0) (by decide) ?_
      refine xl_laload rL_law_647 (G_at (by decide) rfl rfl (by unfold vp_in; decide)) (i := 0) (by decide) ?_
      refine w_iload rL_law_648 rfl ?_
      refine w_i2l rL_law_650 ?_
      refine w_lcmp rL_law_651 ?_
      refine w_ifeq rL_law_652 (fun h652 => ?_) (fun h652 => ?_)
      · replace q := q.1 h652
        refine w_goto rL_law_657 ?_
        refine w_iinc rL_law_1721 rfl rfl trivial ?_
        refine w_goto rL_law_1724 ?_
        exact q
      · replace q := q.2 h652
        refine w_iconst rL_law_655 (x := 0) (by decide) ?_
        refine w_ireturn rL_law_656 (Or.inl rfl) ?_
        exact q
  · replace q := q.2 h635
    refine w_iconst rL_law_638 (x := 0) (by decide) ?_
    refine w_ireturn rL_law_639 (Or.inl rfl) ?_
    exact q
theorem k_L_law_677 {X : Nat × (Nat → Int32)} {I : Nat → Nat → Int32} {L : Nat → Nat → Int64} {F : Nat → Nat → UInt32} {Q : AQ} {c s : Nat} {x4 : Int32} {d5 : Option Value} {d6 : Option Value} {e0 : Int32} (q : vp_in (x4 + 1) X.1 ∧ (vp_in (x4 + 2) X.1 ∧ ((c + am_bc mX10_outAnew ≤ am_bc mL_law ∧ s + am_bs mX10_outAnew ≤ am_bs mL_law) ∧ (WP mX10_outAnew 0 (am_ent 3 [.ref 498, .int (X.2 (Int32.toNatClampNeg (x4 + 1))), .int (X.2 (Int32.toNatClampNeg (x4 + 2)))]) [] (G X I L F) 0 0 (am_kq mL_law 692 [some (.ref 1000000), some (.ref 0), some (.ref 498), some (.ref 540), some (.int x4), some (.int e0), d6] [] (c + am_bc mX10_outAnew) (s + am_bs mX10_outAnew) Q))))) : WP mL_law 677 [some (.ref 1000000), some (.ref 0), some (.ref 498), some (.ref 540), some (.int x4), d5, d6] [.int e0] (G X I L F) c s Q := by
  refine w_istore rL_law_677 rfl trivial ?_
  refine w_aload_n rL_law_679 rfl ?_
  refine w_aload_n rL_law_680 rfl ?_
  refine w_iload rL_law_681 rfl ?_
  refine w_iconst rL_law_683 (x := 1) (by decide) ?_
  refine w_iadd rL_law_684 ?_
  refine w_ialoadX rL_law_685 rfl q.1 ?_
  replace q := q.2
  refine w_aload_n rL_law_686 rfl ?_
  refine w_iload rL_law_687 rfl ?_
  refine w_iconst rL_law_689 (x := 2) (by decide) ?_
  refine w_iadd rL_law_690 ?_
  refine w_ialoadX rL_law_691 rfl q.1 ?_
  replace q := q.2
  refine w_invokevirtual rL_law_692 rfl rfl rfl (Nat.le_of_ble_eq_true rfl) ⟨trivial, trivial, trivial, trivial⟩ (G_is (by decide) rfl) q.1.1 q.1.2 ?_
  replace q := q.2
  exact q
theorem k_L_law_695 {X : Nat × (Nat → Int32)} {I : Nat → Nat → Int32} {L : Nat → Nat → Int64} {F : Nat → Nat → UInt32} {Q : AQ} {c s : Nat} {x4 : Int32} {x5 : Int32} {d6 : Option Value} {e0 : Int32} (q : (c + am_bc mX10_thrown ≤ am_bc mL_law ∧ s + am_bs mX10_thrown ≤ am_bs mL_law) ∧ (WP mX10_thrown 0 (am_ent 1 [.ref 498]) [] (G X I L F) 0 0 (am_kq mL_law 698 [some (.ref 1000000), some (.ref 0), some (.ref 498), some (.ref 540), some (.int x4), some (.int x5), some (.int e0)] [] (c + am_bc mX10_thrown) (s + am_bs mX10_thrown) Q))) : WP mL_law 695 [some (.ref 1000000), some (.ref 0), some (.ref 498), some (.ref 540), some (.int x4), some (.int x5), d6] [.int e0] (G X I L F) c s Q := by
  refine w_istore rL_law_695 rfl trivial ?_
  refine w_aload_n rL_law_697 rfl ?_
  refine w_invokevirtual rL_law_698 rfl rfl rfl (Nat.le_of_ble_eq_true rfl) ⟨trivial, trivial⟩ (G_is (by decide) rfl) q.1.1 q.1.2 ?_
  replace q := q.2
  exact q
theorem k_L_law_701 {X : Nat × (Nat → Int32)} {I : Nat → Nat → Int32} {L : Nat → Nat → Int64} {F : Nat → Nat → UInt32} {Q : AQ} {c s : Nat} {x4 : Int32} {x5 : Int32} {x6 : Int32} {e0 : Int32} (q : (e0 = x5 → (x5 = 0 → ((lg_cmp (L 540 0) (Int32.toInt64 x6)) = 0 → WP mL_law 23 [some (.ref 1000000), some (.ref 0), some (.ref 498), some (.ref 540), some (.int (x4 + 5)), some (.int x5), some (.int x6)] [] (G X I L F) c s Q) ∧ (¬ (lg_cmp (L 540 0) (Int32.toInt64 x6)) = 0 → Q (.inl (some (.int 0))) (G X I L F))) ∧ (¬ x5 = 0 → WP mL_law 23 [some (.ref 1000000), some (.ref 0), some (.ref 498), some (.ref 540), some (.int (x4 + 5)), some (.int x5), some (.int x6)] [] (G X I L F) c s Q)) ∧ (¬ e0 = x5 → Q (.inl (some (.int 0))) (G X I L F))) : WP mL_law 701 [some (.ref 1000000), some (.ref 0), some (.ref 498), some (.ref 540), some (.int x4), some (.int x5), some (.int x6)] [.int e0] (G X I L F) c s Q := by
  refine w_iload rL_law_701 rfl ?_
  refine w_icmpeq rL_law_703 (fun h703 => ?_) (fun h703 => ?_)
  · replace q := q.1 h703
    refine w_iload rL_law_708 rfl ?_
    refine w_ifne rL_law_710 (fun h710 => ?_) (fun h710 => ?_)
    · replace q := q.2 h710
      refine w_goto rL_law_725 ?_
      refine w_iinc rL_law_1721 rfl rfl trivial ?_
      refine w_goto rL_law_1724 ?_
      exact q
    · replace q := q.1 h710
      refine w_aload_n rL_law_713 rfl ?_
      refine w_iconst rL_law_714 (x := 0) (by decide) ?_
      refine xl_laload rL_law_715 (G_at (by decide) rfl rfl (by unfold vp_in; decide)) (i := 0) (by decide) ?_
      refine w_iload rL_law_716 rfl ?_
      refine w_i2l rL_law_718 ?_
      refine w_lcmp rL_law_719 ?_
      refine w_ifeq rL_law_720 (fun h720 => ?_) (fun h720 => ?_)
      · replace q := q.1 h720
        refine w_goto rL_law_725 ?_
        refine w_iinc rL_law_1721 rfl rfl trivial ?_
        refine w_goto rL_law_1724 ?_
        exact q
      · replace q := q.2 h720
        refine w_iconst rL_law_723 (x := 0) (by decide) ?_
        refine w_ireturn rL_law_724 (Or.inl rfl) ?_
        exact q
  · replace q := q.2 h703
    refine w_iconst rL_law_706 (x := 0) (by decide) ?_
    refine w_ireturn rL_law_707 (Or.inl rfl) ?_
    exact q
theorem k_L_law_745 {X : Nat × (Nat → Int32)} {I : Nat → Nat → Int32} {L : Nat → Nat → Int64} {F : Nat → Nat → UInt32} {Q : AQ} {c s : Nat} {x4 : Int32} {d5 : Option Value} {d6 : Option Value} {e0 : Int32} (q : vp_in (x4 + 1) X.1 ∧ (vp_in (x4 + 2) X.1 ∧ ((c + am_bc mX10_run ≤ am_bc mL_law ∧ s + am_bs mX10_run ≤ am_bs mL_law) ∧ (WP mX10_run 0 (am_ent 5 [.ref 498, .int (X.2 (Int32.toNatClampNeg (x4 + 1))), .int (X.2 (Int32.toNatClampNeg (x4 + 2)))]) [] (G X I L F) 0 0 (am_kq mL_law 760 [some (.ref 1000000), some (.ref 0), some (.ref 498), some (.ref 540), some (.int x4), some (.int e0), d6] [] (c + am_bc mX10_run) (s + am_bs mX10_run) Q))))) : WP mL_law 745 [some (.ref 1000000), some (.ref 0), some (.ref 498), some (.ref 540), some (.int x4), d5, d6] [.int e0] (G X I L F) c s Q := by
  refine w_istore rL_law_745 rfl trivial ?_
  refine w_aload_n rL_law_747 rfl ?_
  refine w_aload_n rL_law_748 rfl ?_
  refine w_iload rL_law_749 rfl ?_
  refine w_iconst rL_law_751 (x := 1) (by decide) ?_
  refine w_iadd rL_law_752 ?_
  refine w_ialoadX rL_law_753 rfl q.1 ?_
  replace q := q.2
  refine w_aload_n rL_law_754 rfl ?_
  refine w_iload rL_law_755 rfl ?_
  refine w_iconst rL_law_757 (x := 2) (by decide) ?_
  refine w_iadd rL_law_758 ?_
  refine w_ialoadX rL_law_759 rfl q.1 ?_
  replace q := q.2
  refine w_invokevirtual rL_law_760 rfl rfl rfl (Nat.le_of_ble_eq_true rfl) ⟨trivial, trivial, trivial, trivial⟩ (G_is (by decide) rfl) q.1.1 q.1.2 ?_
  replace q := q.2
  exact q
theorem k_L_law_763 {X : Nat × (Nat → Int32)} {I : Nat → Nat → Int32} {L : Nat → Nat → Int64} {F : Nat → Nat → UInt32} {Q : AQ} {c s : Nat} {x4 : Int32} {x5 : Int32} {d6 : Option Value} {e0 : Int32} (q : (c + am_bc mX10_thrown ≤ am_bc mL_law ∧ s + am_bs mX10_thrown ≤ am_bs mL_law) ∧ (WP mX10_thrown 0 (am_ent 1 [.ref 498]) [] (G X I L F) 0 0 (am_kq mL_law 766 [some (.ref 1000000), some (.ref 0), some (.ref 498), some (.ref 540), some (.int x4), some (.int x5), some (.int e0)] [] (c + am_bc mX10_thrown) (s + am_bs mX10_thrown) Q))) : WP mL_law 763 [some (.ref 1000000), some (.ref 0), some (.ref 498), some (.ref 540), some (.int x4), some (.int x5), d6] [.int e0] (G X I L F) c s Q := by
  refine w_istore rL_law_763 rfl trivial ?_
  refine w_aload_n rL_law_765 rfl ?_
  refine w_invokevirtual rL_law_766 rfl rfl rfl (Nat.le_of_ble_eq_true rfl) ⟨trivial, trivial⟩ (G_is (by decide) rfl) q.1.1 q.1.2 ?_
  replace q := q.2
  exact q
theorem k_L_law_769 {X : Nat × (Nat → Int32)} {I : Nat → Nat → Int32} {L : Nat → Nat → Int64} {F : Nat → Nat → UInt32} {Q : AQ} {c s : Nat} {x4 : Int32} {x5 : Int32} {x6 : Int32} {e0 : Int32} (q : (e0 = x5 → (x5 = 0 → ((lg_cmp (L 540 0) (Int32.toInt64 x6)) = 0 → WP mL_law 23 [some (.ref 1000000), some (.ref 0), some (.ref 498), some (.ref 540), some (.int (x4 + 5)), some (.int x5), some (.int x6)] [] (G X I L F) c s Q) ∧ (¬ (lg_cmp (L 540 0) (Int32.toInt64 x6)) = 0 → Q (.inl (some (.int 0))) (G X I L F))) ∧ (¬ x5 = 0 → WP mL_law 23 [some (.ref 1000000), some (.ref 0), some (.ref 498), some (.ref 540), some (.int (x4 + 5)), some (.int x5), some (.int x6)] [] (G X I L F) c s Q)) ∧ (¬ e0 = x5 → Q (.inl (some (.int 0))) (G X I L F))) : WP mL_law 769 [some (.ref 1000000), some (.ref 0), some (.ref 498), some (.ref 540), some (.int x4), some (.int x5), some (.int x6)] [.int e0] (G X I L F) c s Q := by
  refine w_iload rL_law_769 rfl ?_
  refine w_icmpeq rL_law_771 (fun h771 => ?_) (fun h771 => ?_)
  · replace q := q.1 h771
    refine w_iload rL_law_776 rfl ?_
    refine w_ifne rL_law_778 (fun h778 => ?_) (fun h778 => ?_)
    · replace q := q.2 h778
      refine w_goto rL_law_793 ?_
      refine w_iinc rL_law_1721 rfl rfl trivial ?_
      refine w_goto rL_law_1724 ?_
      exact q
    · replace q := q.1 h778
      refine w_aload_n rL_law_781 rfl ?_
      refine w_iconst rL_law_782 (x := 0) (by decide) ?_
      refine xl_laload rL_law_783 (G_at (by decide) rfl rfl (by unfold vp_in; decide)) (i := 0) (by decide) ?_
      refine w_iload rL_law_784 rfl ?_
      refine w_i2l rL_law_786 ?_
      refine w_lcmp rL_law_787 ?_
      refine w_ifeq rL_law_788 (fun h788 => ?_) (fun h788 => ?_)
      · replace q := q.1 h788
        refine w_goto rL_law_793 ?_
        refine w_iinc rL_law_1721 rfl rfl trivial ?_
        refine w_goto rL_law_1724 ?_
        exact q
      · replace q := q.2 h788
        refine w_iconst rL_law_791 (x := 0) (by decide) ?_
        refine w_ireturn rL_law_792 (Or.inl rfl) ?_
        exact q
  · replace q := q.2 h771
    refine w_iconst rL_law_774 (x := 0) (by decide) ?_
    refine w_ireturn rL_law_775 (Or.inl rfl) ?_
    exact q
theorem k_L_law_807 {X : Nat × (Nat → Int32)} {I : Nat → Nat → Int32} {L : Nat → Nat → Int64} {F : Nat → Nat → UInt32} {Q : AQ} {c s : Nat} {x4 : Int32} {d5 : Option Value} {d6 : Option Value} {e0 : Int32} (q : vp_in (x4 + 1) X.1 ∧ ((c + am_bc mX10_why ≤ am_bc mL_law ∧ s + am_bs mX10_why ≤ am_bs mL_law) ∧ (WP mX10_why 0 (am_ent 2 [.ref 498, .int (X.2 (Int32.toNatClampNeg (x4 + 1)))]) [] (G X I L F) 0 0 (am_kq mL_law 816 [some (.ref 1000000), some (.ref 0), some (.ref 498), some (.ref 540), some (.int x4), some (.int e0), d6] [] (c + am_bc mX10_why) (s + am_bs mX10_why) Q)))) : WP mL_law 807 [some (.ref 1000000), some (.ref 0), some (.ref 498), some (.ref 540), some (.int x4), d5, d6] [.int e0] (G X I L F) c s Q := by
  refine w_istore rL_law_807 rfl trivial ?_
  refine w_aload_n rL_law_809 rfl ?_
  refine w_aload_n rL_law_810 rfl ?_
  refine w_iload rL_law_811 rfl ?_
  refine w_iconst rL_law_813 (x := 1) (by decide) ?_
  refine w_iadd rL_law_814 ?_
  refine w_ialoadX rL_law_815 rfl q.1 ?_
  replace q := q.2
  refine w_invokevirtual rL_law_816 rfl rfl rfl (Nat.le_of_ble_eq_true rfl) ⟨trivial, trivial, trivial⟩ (G_is (by decide) rfl) q.1.1 q.1.2 ?_
  replace q := q.2
  exact q
theorem k_L_law_819 {X : Nat × (Nat → Int32)} {I : Nat → Nat → Int32} {L : Nat → Nat → Int64} {F : Nat → Nat → UInt32} {Q : AQ} {c s : Nat} {x4 : Int32} {x5 : Int32} {d6 : Option Value} {e0 : Int32} (q : (c + am_bc mX10_thrown ≤ am_bc mL_law ∧ s + am_bs mX10_thrown ≤ am_bs mL_law) ∧ (WP mX10_thrown 0 (am_ent 1 [.ref 498]) [] (G X I L F) 0 0 (am_kq mL_law 822 [some (.ref 1000000), some (.ref 0), some (.ref 498), some (.ref 540), some (.int x4), some (.int x5), some (.int e0)] [] (c + am_bc mX10_thrown) (s + am_bs mX10_thrown) Q))) : WP mL_law 819 [some (.ref 1000000), some (.ref 0), some (.ref 498), some (.ref 540), some (.int x4), some (.int x5), d6] [.int e0] (G X I L F) c s Q := by
  refine w_istore rL_law_819 rfl trivial ?_
  refine w_aload_n rL_law_821 rfl ?_
  refine w_invokevirtual rL_law_822 rfl rfl rfl (Nat.le_of_ble_eq_true rfl) ⟨trivial, trivial⟩ (G_is (by decide) rfl) q.1.1 q.1.2 ?_
  replace q := q.2
  exact q
theorem k_L_law_825 {X : Nat × (Nat → Int32)} {I : Nat → Nat → Int32} {L : Nat → Nat → Int64} {F : Nat → Nat → UInt32} {Q : AQ} {c s : Nat} {x4 : Int32} {x5 : Int32} {x6 : Int32} {e0 : Int32} (q : (e0 = x5 → (x5 = 0 → ((lg_cmp (L 540 0) (Int32.toInt64 x6)) = 0 → WP mL_law 23 [some (.ref 1000000), some (.ref 0), some (.ref 498), some (.ref 540), some (.int (x4 + 5)), some (.int x5), some (.int x6)] [] (G X I L F) c s Q) ∧ (¬ (lg_cmp (L 540 0) (Int32.toInt64 x6)) = 0 → Q (.inl (some (.int 0))) (G X I L F))) ∧ (¬ x5 = 0 → WP mL_law 23 [some (.ref 1000000), some (.ref 0), some (.ref 498), some (.ref 540), some (.int (x4 + 5)), some (.int x5), some (.int x6)] [] (G X I L F) c s Q)) ∧ (¬ e0 = x5 → Q (.inl (some (.int 0))) (G X I L F))) : WP mL_law 825 [some (.ref 1000000), some (.ref 0), some (.ref 498), some (.ref 540), some (.int x4), some (.int x5), some (.int x6)] [.int e0] (G X I L F) c s Q := by
  refine w_iload rL_law_825 rfl ?_
  refine w_icmpeq rL_law_827 (fun h827 => ?_) (fun h827 => ?_)
  · replace q := q.1 h827
    refine w_iload rL_law_832 rfl ?_
    refine w_ifne rL_law_834 (fun h834 => ?_) (fun h834 => ?_)
    · replace q := q.2 h834
      refine w_goto rL_law_849 ?_
      refine w_iinc rL_law_1721 rfl rfl trivial ?_
      refine w_goto rL_law_1724 ?_
      exact q
    · replace q := q.1 h834
      refine w_aload_n rL_law_837 rfl ?_
      refine w_iconst rL_law_838 (x := 0) (by decide) ?_
      refine xl_laload rL_law_839 (G_at (by decide) rfl rfl (by unfold vp_in; decide)) (i := 0) (by decide) ?_
      refine w_iload rL_law_840 rfl ?_
      refine w_i2l rL_law_842 ?_
      refine w_lcmp rL_law_843 ?_
      refine w_ifeq rL_law_844 (fun h844 => ?_) (fun h844 => ?_)
      · replace q := q.1 h844
        refine w_goto rL_law_849 ?_
        refine w_iinc rL_law_1721 rfl rfl trivial ?_
        refine w_goto rL_law_1724 ?_
        exact q
      · replace q := q.2 h844
        refine w_iconst rL_law_847 (x := 0) (by decide) ?_
        refine w_ireturn rL_law_848 (Or.inl rfl) ?_
        exact q
  · replace q := q.2 h827
    refine w_iconst rL_law_830 (x := 0) (by decide) ?_
    refine w_ireturn rL_law_831 (Or.inl rfl) ?_
    exact q
theorem k_L_law_863 {X : Nat × (Nat → Int32)} {I : Nat → Nat → Int32} {L : Nat → Nat → Int64} {F : Nat → Nat → UInt32} {Q : AQ} {c s : Nat} {x4 : Int32} {d5 : Option Value} {d6 : Option Value} {e0 : Int32} (q : vp_in (x4 + 1) X.1 ∧ ((c + am_bc mX10_peak ≤ am_bc mL_law ∧ s + am_bs mX10_peak ≤ am_bs mL_law) ∧ (WP mX10_peak 0 (am_ent 2 [.ref 498, .int (X.2 (Int32.toNatClampNeg (x4 + 1)))]) [] (G X I L F) 0 0 (am_kq mL_law 872 [some (.ref 1000000), some (.ref 0), some (.ref 498), some (.ref 540), some (.int x4), some (.int e0), d6] [] (c + am_bc mX10_peak) (s + am_bs mX10_peak) Q)))) : WP mL_law 863 [some (.ref 1000000), some (.ref 0), some (.ref 498), some (.ref 540), some (.int x4), d5, d6] [.int e0] (G X I L F) c s Q := by
  refine w_istore rL_law_863 rfl trivial ?_
  refine w_aload_n rL_law_865 rfl ?_
  refine w_aload_n rL_law_866 rfl ?_
  refine w_iload rL_law_867 rfl ?_
  refine w_iconst rL_law_869 (x := 1) (by decide) ?_
  refine w_iadd rL_law_870 ?_
  refine w_ialoadX rL_law_871 rfl q.1 ?_
  replace q := q.2
  refine w_invokevirtual rL_law_872 rfl rfl rfl (Nat.le_of_ble_eq_true rfl) ⟨trivial, trivial, trivial⟩ (G_is (by decide) rfl) q.1.1 q.1.2 ?_
  replace q := q.2
  exact q
theorem k_L_law_875 {X : Nat × (Nat → Int32)} {I : Nat → Nat → Int32} {L : Nat → Nat → Int64} {F : Nat → Nat → UInt32} {Q : AQ} {c s : Nat} {x4 : Int32} {x5 : Int32} {d6 : Option Value} {e0 : Int32} (q : (c + am_bc mX10_thrown ≤ am_bc mL_law ∧ s + am_bs mX10_thrown ≤ am_bs mL_law) ∧ (WP mX10_thrown 0 (am_ent 1 [.ref 498]) [] (G X I L F) 0 0 (am_kq mL_law 878 [some (.ref 1000000), some (.ref 0), some (.ref 498), some (.ref 540), some (.int x4), some (.int x5), some (.int e0)] [] (c + am_bc mX10_thrown) (s + am_bs mX10_thrown) Q))) : WP mL_law 875 [some (.ref 1000000), some (.ref 0), some (.ref 498), some (.ref 540), some (.int x4), some (.int x5), d6] [.int e0] (G X I L F) c s Q := by
  refine w_istore rL_law_875 rfl trivial ?_
  refine w_aload_n rL_law_877 rfl ?_
  refine w_invokevirtual rL_law_878 rfl rfl rfl (Nat.le_of_ble_eq_true rfl) ⟨trivial, trivial⟩ (G_is (by decide) rfl) q.1.1 q.1.2 ?_
  replace q := q.2
  exact q
theorem k_L_law_881 {X : Nat × (Nat → Int32)} {I : Nat → Nat → Int32} {L : Nat → Nat → Int64} {F : Nat → Nat → UInt32} {Q : AQ} {c s : Nat} {x4 : Int32} {x5 : Int32} {x6 : Int32} {e0 : Int32} (q : (e0 = x5 → (x5 = 0 → ((lg_cmp (L 540 0) (Int32.toInt64 x6)) = 0 → WP mL_law 23 [some (.ref 1000000), some (.ref 0), some (.ref 498), some (.ref 540), some (.int (x4 + 5)), some (.int x5), some (.int x6)] [] (G X I L F) c s Q) ∧ (¬ (lg_cmp (L 540 0) (Int32.toInt64 x6)) = 0 → Q (.inl (some (.int 0))) (G X I L F))) ∧ (¬ x5 = 0 → WP mL_law 23 [some (.ref 1000000), some (.ref 0), some (.ref 498), some (.ref 540), some (.int (x4 + 5)), some (.int x5), some (.int x6)] [] (G X I L F) c s Q)) ∧ (¬ e0 = x5 → Q (.inl (some (.int 0))) (G X I L F))) : WP mL_law 881 [some (.ref 1000000), some (.ref 0), some (.ref 498), some (.ref 540), some (.int x4), some (.int x5), some (.int x6)] [.int e0] (G X I L F) c s Q := by
  refine w_iload rL_law_881 rfl ?_
  refine w_icmpeq rL_law_883 (fun h883 => ?_) (fun h883 => ?_)
  · replace q := q.1 h883
    refine w_iload rL_law_888 rfl ?_
    refine w_ifne rL_law_890 (fun h890 => ?_) (fun h890 => ?_)
    · replace q := q.2 h890
      refine w_goto rL_law_905 ?_
      refine w_iinc rL_law_1721 rfl rfl trivial ?_
      refine w_goto rL_law_1724 ?_
      exact q
    · replace q := q.1 h890
      refine w_aload_n rL_law_893 rfl ?_
      refine w_iconst rL_law_894 (x := 0) (by decide) ?_
      refine xl_laload rL_law_895 (G_at (by decide) rfl rfl (by unfold vp_in; decide)) (i := 0) (by decide) ?_
      refine w_iload rL_law_896 rfl ?_
      refine w_i2l rL_law_898 ?_
      refine w_lcmp rL_law_899 ?_
      refine w_ifeq rL_law_900 (fun h900 => ?_) (fun h900 => ?_)
      · replace q := q.1 h900
        refine w_goto rL_law_905 ?_
        refine w_iinc rL_law_1721 rfl rfl trivial ?_
        refine w_goto rL_law_1724 ?_
        exact q
      · replace q := q.2 h900
        refine w_iconst rL_law_903 (x := 0) (by decide) ?_
        refine w_ireturn rL_law_904 (Or.inl rfl) ?_
        exact q
  · replace q := q.2 h883
    refine w_iconst rL_law_886 (x := 0) (by decide) ?_
    refine w_ireturn rL_law_887 (Or.inl rfl) ?_
    exact q
theorem k_L_law_919 {X : Nat × (Nat → Int32)} {I : Nat → Nat → Int32} {L : Nat → Nat → Int64} {F : Nat → Nat → UInt32} {Q : AQ} {c s : Nat} {x4 : Int32} {d5 : Option Value} {d6 : Option Value} {e0 : Int32} (q : vp_in (x4 + 1) X.1 ∧ ((c + am_bc mX10_peakHour ≤ am_bc mL_law ∧ s + am_bs mX10_peakHour ≤ am_bs mL_law) ∧ (WP mX10_peakHour 0 (am_ent 2 [.ref 498, .int (X.2 (Int32.toNatClampNeg (x4 + 1)))]) [] (G X I L F) 0 0 (am_kq mL_law 928 [some (.ref 1000000), some (.ref 0), some (.ref 498), some (.ref 540), some (.int x4), some (.int e0), d6] [] (c + am_bc mX10_peakHour) (s + am_bs mX10_peakHour) Q)))) : WP mL_law 919 [some (.ref 1000000), some (.ref 0), some (.ref 498), some (.ref 540), some (.int x4), d5, d6] [.int e0] (G X I L F) c s Q := by
  refine w_istore rL_law_919 rfl trivial ?_
  refine w_aload_n rL_law_921 rfl ?_
  refine w_aload_n rL_law_922 rfl ?_
  refine w_iload rL_law_923 rfl ?_
  refine w_iconst rL_law_925 (x := 1) (by decide) ?_
  refine w_iadd rL_law_926 ?_
  refine w_ialoadX rL_law_927 rfl q.1 ?_
  replace q := q.2
  refine w_invokevirtual rL_law_928 rfl rfl rfl (Nat.le_of_ble_eq_true rfl) ⟨trivial, trivial, trivial⟩ (G_is (by decide) rfl) q.1.1 q.1.2 ?_
  replace q := q.2
  exact q
theorem k_L_law_931 {X : Nat × (Nat → Int32)} {I : Nat → Nat → Int32} {L : Nat → Nat → Int64} {F : Nat → Nat → UInt32} {Q : AQ} {c s : Nat} {x4 : Int32} {x5 : Int32} {d6 : Option Value} {e0 : Int32} (q : (c + am_bc mX10_thrown ≤ am_bc mL_law ∧ s + am_bs mX10_thrown ≤ am_bs mL_law) ∧ (WP mX10_thrown 0 (am_ent 1 [.ref 498]) [] (G X I L F) 0 0 (am_kq mL_law 934 [some (.ref 1000000), some (.ref 0), some (.ref 498), some (.ref 540), some (.int x4), some (.int x5), some (.int e0)] [] (c + am_bc mX10_thrown) (s + am_bs mX10_thrown) Q))) : WP mL_law 931 [some (.ref 1000000), some (.ref 0), some (.ref 498), some (.ref 540), some (.int x4), some (.int x5), d6] [.int e0] (G X I L F) c s Q := by
  refine w_istore rL_law_931 rfl trivial ?_
  refine w_aload_n rL_law_933 rfl ?_
  refine w_invokevirtual rL_law_934 rfl rfl rfl (Nat.le_of_ble_eq_true rfl) ⟨trivial, trivial⟩ (G_is (by decide) rfl) q.1.1 q.1.2 ?_
  replace q := q.2
  exact q
theorem k_L_law_937 {X : Nat × (Nat → Int32)} {I : Nat → Nat → Int32} {L : Nat → Nat → Int64} {F : Nat → Nat → UInt32} {Q : AQ} {c s : Nat} {x4 : Int32} {x5 : Int32} {x6 : Int32} {e0 : Int32} (q : (e0 = x5 → (x5 = 0 → ((lg_cmp (L 540 0) (Int32.toInt64 x6)) = 0 → WP mL_law 23 [some (.ref 1000000), some (.ref 0), some (.ref 498), some (.ref 540), some (.int (x4 + 5)), some (.int x5), some (.int x6)] [] (G X I L F) c s Q) ∧ (¬ (lg_cmp (L 540 0) (Int32.toInt64 x6)) = 0 → Q (.inl (some (.int 0))) (G X I L F))) ∧ (¬ x5 = 0 → WP mL_law 23 [some (.ref 1000000), some (.ref 0), some (.ref 498), some (.ref 540), some (.int (x4 + 5)), some (.int x5), some (.int x6)] [] (G X I L F) c s Q)) ∧ (¬ e0 = x5 → Q (.inl (some (.int 0))) (G X I L F))) : WP mL_law 937 [some (.ref 1000000), some (.ref 0), some (.ref 498), some (.ref 540), some (.int x4), some (.int x5), some (.int x6)] [.int e0] (G X I L F) c s Q := by
  refine w_iload rL_law_937 rfl ?_
  refine w_icmpeq rL_law_939 (fun h939 => ?_) (fun h939 => ?_)
  · replace q := q.1 h939
    refine w_iload rL_law_944 rfl ?_
    refine w_ifne rL_law_946 (fun h946 => ?_) (fun h946 => ?_)
    · replace q := q.2 h946
      refine w_goto rL_law_961 ?_
      refine w_iinc rL_law_1721 rfl rfl trivial ?_
      refine w_goto rL_law_1724 ?_
      exact q
    · replace q := q.1 h946
      refine w_aload_n rL_law_949 rfl ?_
      refine w_iconst rL_law_950 (x := 0) (by decide) ?_
      refine xl_laload rL_law_951 (G_at (by decide) rfl rfl (by unfold vp_in; decide)) (i := 0) (by decide) ?_
      refine w_iload rL_law_952 rfl ?_
      refine w_i2l rL_law_954 ?_
      refine w_lcmp rL_law_955 ?_
      refine w_ifeq rL_law_956 (fun h956 => ?_) (fun h956 => ?_)
      · replace q := q.1 h956
        refine w_goto rL_law_961 ?_
        refine w_iinc rL_law_1721 rfl rfl trivial ?_
        refine w_goto rL_law_1724 ?_
        exact q
      · replace q := q.2 h956
        refine w_iconst rL_law_959 (x := 0) (by decide) ?_
        refine w_ireturn rL_law_960 (Or.inl rfl) ?_
        exact q
  · replace q := q.2 h939
    refine w_iconst rL_law_942 (x := 0) (by decide) ?_
    refine w_ireturn rL_law_943 (Or.inl rfl) ?_
    exact q
theorem k_L_law_975 {X : Nat × (Nat → Int32)} {I : Nat → Nat → Int32} {L : Nat → Nat → Int64} {F : Nat → Nat → UInt32} {Q : AQ} {c s : Nat} {x4 : Int32} {d5 : Option Value} {d6 : Option Value} {e0 : Int32} (q : vp_in (x4 + 1) X.1 ∧ ((c + am_bc mX10_peakAnew ≤ am_bc mL_law ∧ s + am_bs mX10_peakAnew ≤ am_bs mL_law) ∧ (WP mX10_peakAnew 0 (am_ent 2 [.ref 498, .int (X.2 (Int32.toNatClampNeg (x4 + 1)))]) [] (G X I L F) 0 0 (am_kq mL_law 984 [some (.ref 1000000), some (.ref 0), some (.ref 498), some (.ref 540), some (.int x4), some (.int e0), d6] [] (c + am_bc mX10_peakAnew) (s + am_bs mX10_peakAnew) Q)))) : WP mL_law 975 [some (.ref 1000000), some (.ref 0), some (.ref 498), some (.ref 540), some (.int x4), d5, d6] [.int e0] (G X I L F) c s Q := by
  refine w_istore rL_law_975 rfl trivial ?_
  refine w_aload_n rL_law_977 rfl ?_
  refine w_aload_n rL_law_978 rfl ?_
  refine w_iload rL_law_979 rfl ?_
  refine w_iconst rL_law_981 (x := 1) (by decide) ?_
  refine w_iadd rL_law_982 ?_
  refine w_ialoadX rL_law_983 rfl q.1 ?_
  replace q := q.2
  refine w_invokevirtual rL_law_984 rfl rfl rfl (Nat.le_of_ble_eq_true rfl) ⟨trivial, trivial, trivial⟩ (G_is (by decide) rfl) q.1.1 q.1.2 ?_
  replace q := q.2
  exact q
theorem k_L_law_987 {X : Nat × (Nat → Int32)} {I : Nat → Nat → Int32} {L : Nat → Nat → Int64} {F : Nat → Nat → UInt32} {Q : AQ} {c s : Nat} {x4 : Int32} {x5 : Int32} {d6 : Option Value} {e0 : Int32} (q : (c + am_bc mX10_thrown ≤ am_bc mL_law ∧ s + am_bs mX10_thrown ≤ am_bs mL_law) ∧ (WP mX10_thrown 0 (am_ent 1 [.ref 498]) [] (G X I L F) 0 0 (am_kq mL_law 990 [some (.ref 1000000), some (.ref 0), some (.ref 498), some (.ref 540), some (.int x4), some (.int x5), some (.int e0)] [] (c + am_bc mX10_thrown) (s + am_bs mX10_thrown) Q))) : WP mL_law 987 [some (.ref 1000000), some (.ref 0), some (.ref 498), some (.ref 540), some (.int x4), some (.int x5), d6] [.int e0] (G X I L F) c s Q := by
  refine w_istore rL_law_987 rfl trivial ?_
  refine w_aload_n rL_law_989 rfl ?_
  refine w_invokevirtual rL_law_990 rfl rfl rfl (Nat.le_of_ble_eq_true rfl) ⟨trivial, trivial⟩ (G_is (by decide) rfl) q.1.1 q.1.2 ?_
  replace q := q.2
  exact q
theorem k_L_law_993 {X : Nat × (Nat → Int32)} {I : Nat → Nat → Int32} {L : Nat → Nat → Int64} {F : Nat → Nat → UInt32} {Q : AQ} {c s : Nat} {x4 : Int32} {x5 : Int32} {x6 : Int32} {e0 : Int32} (q : (e0 = x5 → (x5 = 0 → ((lg_cmp (L 540 0) (Int32.toInt64 x6)) = 0 → WP mL_law 23 [some (.ref 1000000), some (.ref 0), some (.ref 498), some (.ref 540), some (.int (x4 + 5)), some (.int x5), some (.int x6)] [] (G X I L F) c s Q) ∧ (¬ (lg_cmp (L 540 0) (Int32.toInt64 x6)) = 0 → Q (.inl (some (.int 0))) (G X I L F))) ∧ (¬ x5 = 0 → WP mL_law 23 [some (.ref 1000000), some (.ref 0), some (.ref 498), some (.ref 540), some (.int (x4 + 5)), some (.int x5), some (.int x6)] [] (G X I L F) c s Q)) ∧ (¬ e0 = x5 → Q (.inl (some (.int 0))) (G X I L F))) : WP mL_law 993 [some (.ref 1000000), some (.ref 0), some (.ref 498), some (.ref 540), some (.int x4), some (.int x5), some (.int x6)] [.int e0] (G X I L F) c s Q := by
  refine w_iload rL_law_993 rfl ?_
  refine w_icmpeq rL_law_995 (fun h995 => ?_) (fun h995 => ?_)
  · replace q := q.1 h995
    refine w_iload rL_law_1000 rfl ?_
    refine w_ifne rL_law_1002 (fun h1002 => ?_) (fun h1002 => ?_)
    · replace q := q.2 h1002
      refine w_goto rL_law_1017 ?_
      refine w_iinc rL_law_1721 rfl rfl trivial ?_
      refine w_goto rL_law_1724 ?_
      exact q
    · replace q := q.1 h1002
      refine w_aload_n rL_law_1005 rfl ?_
      refine w_iconst rL_law_1006 (x := 0) (by decide) ?_
      refine xl_laload rL_law_1007 (G_at (by decide) rfl rfl (by unfold vp_in; decide)) (i := 0) (by decide) ?_
      refine w_iload rL_law_1008 rfl ?_
      refine w_i2l rL_law_1010 ?_
      refine w_lcmp rL_law_1011 ?_
      refine w_ifeq rL_law_1012 (fun h1012 => ?_) (fun h1012 => ?_)
      · replace q := q.1 h1012
        refine w_goto rL_law_1017 ?_
        refine w_iinc rL_law_1721 rfl rfl trivial ?_
        refine w_goto rL_law_1724 ?_
        exact q
      · replace q := q.2 h1012
        refine w_iconst rL_law_1015 (x := 0) (by decide) ?_
        refine w_ireturn rL_law_1016 (Or.inl rfl) ?_
        exact q
  · replace q := q.2 h995
    refine w_iconst rL_law_998 (x := 0) (by decide) ?_
    refine w_ireturn rL_law_999 (Or.inl rfl) ?_
    exact q
theorem k_L_law_1042 {X : Nat × (Nat → Int32)} {I : Nat → Nat → Int32} {L : Nat → Nat → Int64} {F : Nat → Nat → UInt32} {Q : AQ} {c s : Nat} {x4 : Int32} {d5 : Option Value} {d6 : Option Value} {e0 : Int32} (q : vp_in (x4 + 1) X.1 ∧ (vp_in (x4 + 2) X.1 ∧ (vp_in (x4 + 3) X.1 ∧ ((c + am_bc mX10_build ≤ am_bc mL_law ∧ s + am_bs mX10_build ≤ am_bs mL_law) ∧ (WP mX10_build 0 (am_ent 5 [.ref 498, .int (X.2 (Int32.toNatClampNeg (x4 + 1))), .int (X.2 (Int32.toNatClampNeg (x4 + 2))), .int (X.2 (Int32.toNatClampNeg (x4 + 3)))]) [] (G X I L F) 0 0 (am_kq mL_law 1063 [some (.ref 1000000), some (.ref 0), some (.ref 498), some (.ref 540), some (.int x4), some (.int e0), d6] [] (c + am_bc mX10_build) (s + am_bs mX10_build) Q)))))) : WP mL_law 1042 [some (.ref 1000000), some (.ref 0), some (.ref 498), some (.ref 540), some (.int x4), d5, d6] [.int e0] (G X I L F) c s Q := by
  refine w_istore rL_law_1042 rfl trivial ?_
  refine w_aload_n rL_law_1044 rfl ?_
  refine w_aload_n rL_law_1045 rfl ?_
  refine w_iload rL_law_1046 rfl ?_
  refine w_iconst rL_law_1048 (x := 1) (by decide) ?_
  refine w_iadd rL_law_1049 ?_
  refine w_ialoadX rL_law_1050 rfl q.1 ?_
  replace q := q.2
  refine w_aload_n rL_law_1051 rfl ?_
  refine w_iload rL_law_1052 rfl ?_
  refine w_iconst rL_law_1054 (x := 2) (by decide) ?_
  refine w_iadd rL_law_1055 ?_
  refine w_ialoadX rL_law_1056 rfl q.1 ?_
  replace q := q.2
  refine w_aload_n rL_law_1057 rfl ?_
  refine w_iload rL_law_1058 rfl ?_
  refine w_iconst rL_law_1060 (x := 3) (by decide) ?_
  refine w_iadd rL_law_1061 ?_
  refine w_ialoadX rL_law_1062 rfl q.1 ?_
  replace q := q.2
  refine w_invokevirtual rL_law_1063 rfl rfl rfl (Nat.le_of_ble_eq_true rfl) ⟨trivial, trivial, trivial, trivial, trivial⟩ (G_is (by decide) rfl) q.1.1 q.1.2 ?_
  replace q := q.2
  exact q
theorem k_L_law_1066 {X : Nat × (Nat → Int32)} {I : Nat → Nat → Int32} {L : Nat → Nat → Int64} {F : Nat → Nat → UInt32} {Q : AQ} {c s : Nat} {x4 : Int32} {x5 : Int32} {d6 : Option Value} (q : (c + am_bc mX10_thrown ≤ am_bc mL_law ∧ s + am_bs mX10_thrown ≤ am_bs mL_law) ∧ (WP mX10_thrown 0 (am_ent 1 [.ref 498]) [] (G X I L F) 0 0 (am_kq mL_law 1067 [some (.ref 1000000), some (.ref 0), some (.ref 498), some (.ref 540), some (.int x4), some (.int x5), d6] [] (c + am_bc mX10_thrown) (s + am_bs mX10_thrown) Q))) : WP mL_law 1066 [some (.ref 1000000), some (.ref 0), some (.ref 498), some (.ref 540), some (.int x4), some (.int x5), d6] [] (G X I L F) c s Q := by
  refine w_aload_n rL_law_1066 rfl ?_
  refine w_invokevirtual rL_law_1067 rfl rfl rfl (Nat.le_of_ble_eq_true rfl) ⟨trivial, trivial⟩ (G_is (by decide) rfl) q.1.1 q.1.2 ?_
  replace q := q.2
  exact q
theorem k_L_law_1070 {X : Nat × (Nat → Int32)} {I : Nat → Nat → Int32} {L : Nat → Nat → Int64} {F : Nat → Nat → UInt32} {Q : AQ} {c s : Nat} {x4 : Int32} {x5 : Int32} {d6 : Option Value} {e0 : Int32} (q : (e0 = x5 → WP mL_law 23 [some (.ref 1000000), some (.ref 0), some (.ref 498), some (.ref 540), some (.int (x4 + 5)), some (.int x5), d6] [] (G X I L F) c s Q) ∧ (¬ e0 = x5 → Q (.inl (some (.int 0))) (G X I L F))) : WP mL_law 1070 [some (.ref 1000000), some (.ref 0), some (.ref 498), some (.ref 540), some (.int x4), some (.int x5), d6] [.int e0] (G X I L F) c s Q := by
  refine w_iload rL_law_1070 rfl ?_
  refine w_icmpeq rL_law_1072 (fun h1072 => ?_) (fun h1072 => ?_)
  · replace q := q.1 h1072
    refine w_goto rL_law_1077 ?_
    refine w_iinc rL_law_1721 rfl rfl trivial ?_
    refine w_goto rL_law_1724 ?_
    exact q
  · replace q := q.2 h1072
    refine w_iconst rL_law_1075 (x := 0) (by decide) ?_
    refine w_ireturn rL_law_1076 (Or.inl rfl) ?_
    exact q
theorem k_L_law_1090 {X : Nat × (Nat → Int32)} {I : Nat → Nat → Int32} {L : Nat → Nat → Int64} {F : Nat → Nat → UInt32} {Q : AQ} {c s : Nat} {x4 : Int32} {d5 : Option Value} {d6 : Option Value} {e0 : Int32} (q : vp_in (x4 + 1) X.1 ∧ ((c + am_bc mX10_rule ≤ am_bc mL_law ∧ s + am_bs mX10_rule ≤ am_bs mL_law) ∧ (WP mX10_rule 0 (am_ent 4 [.ref 498, .int (X.2 (Int32.toNatClampNeg (x4 + 1)))]) [] (G X I L F) 0 0 (am_kq mL_law 1099 [some (.ref 1000000), some (.ref 0), some (.ref 498), some (.ref 540), some (.int x4), some (.int e0), d6] [] (c + am_bc mX10_rule) (s + am_bs mX10_rule) Q)))) : WP mL_law 1090 [some (.ref 1000000), some (.ref 0), some (.ref 498), some (.ref 540), some (.int x4), d5, d6] [.int e0] (G X I L F) c s Q := by
  refine w_istore rL_law_1090 rfl trivial ?_
  refine w_aload_n rL_law_1092 rfl ?_
  refine w_aload_n rL_law_1093 rfl ?_
  refine w_iload rL_law_1094 rfl ?_
  refine w_iconst rL_law_1096 (x := 1) (by decide) ?_
  refine w_iadd rL_law_1097 ?_
  refine w_ialoadX rL_law_1098 rfl q.1 ?_
  replace q := q.2
  refine w_invokevirtual rL_law_1099 rfl rfl rfl (Nat.le_of_ble_eq_true rfl) ⟨trivial, trivial, trivial⟩ (G_is (by decide) rfl) q.1.1 q.1.2 ?_
  replace q := q.2
  exact q
theorem k_L_law_1102 {X : Nat × (Nat → Int32)} {I : Nat → Nat → Int32} {L : Nat → Nat → Int64} {F : Nat → Nat → UInt32} {Q : AQ} {c s : Nat} {x4 : Int32} {x5 : Int32} {d6 : Option Value} (q : (c + am_bc mX10_thrown ≤ am_bc mL_law ∧ s + am_bs mX10_thrown ≤ am_bs mL_law) ∧ (WP mX10_thrown 0 (am_ent 1 [.ref 498]) [] (G X I L F) 0 0 (am_kq mL_law 1103 [some (.ref 1000000), some (.ref 0), some (.ref 498), some (.ref 540), some (.int x4), some (.int x5), d6] [] (c + am_bc mX10_thrown) (s + am_bs mX10_thrown) Q))) : WP mL_law 1102 [some (.ref 1000000), some (.ref 0), some (.ref 498), some (.ref 540), some (.int x4), some (.int x5), d6] [] (G X I L F) c s Q := by
  refine w_aload_n rL_law_1102 rfl ?_
  refine w_invokevirtual rL_law_1103 rfl rfl rfl (Nat.le_of_ble_eq_true rfl) ⟨trivial, trivial⟩ (G_is (by decide) rfl) q.1.1 q.1.2 ?_
  replace q := q.2
  exact q
theorem k_L_law_1106 {X : Nat × (Nat → Int32)} {I : Nat → Nat → Int32} {L : Nat → Nat → Int64} {F : Nat → Nat → UInt32} {Q : AQ} {c s : Nat} {x4 : Int32} {x5 : Int32} {d6 : Option Value} {e0 : Int32} (q : (e0 = x5 → WP mL_law 23 [some (.ref 1000000), some (.ref 0), some (.ref 498), some (.ref 540), some (.int (x4 + 5)), some (.int x5), d6] [] (G X I L F) c s Q) ∧ (¬ e0 = x5 → Q (.inl (some (.int 0))) (G X I L F))) : WP mL_law 1106 [some (.ref 1000000), some (.ref 0), some (.ref 498), some (.ref 540), some (.int x4), some (.int x5), d6] [.int e0] (G X I L F) c s Q := by
  refine w_iload rL_law_1106 rfl ?_
  refine w_icmpeq rL_law_1108 (fun h1108 => ?_) (fun h1108 => ?_)
  · replace q := q.1 h1108
    refine w_goto rL_law_1113 ?_
    refine w_iinc rL_law_1721 rfl rfl trivial ?_
    refine w_goto rL_law_1724 ?_
    exact q
  · replace q := q.2 h1108
    refine w_iconst rL_law_1111 (x := 0) (by decide) ?_
    refine w_ireturn rL_law_1112 (Or.inl rfl) ?_
    exact q
theorem k_L_law_1132 {X : Nat × (Nat → Int32)} {I : Nat → Nat → Int32} {L : Nat → Nat → Int64} {F : Nat → Nat → UInt32} {Q : AQ} {c s : Nat} {x4 : Int32} {d5 : Option Value} {d6 : Option Value} {e0 : Int32} (q : vp_in (x4 + 1) X.1 ∧ (vp_in (x4 + 2) X.1 ∧ ((c + am_bc mX10_goBy ≤ am_bc mL_law ∧ s + am_bs mX10_goBy ≤ am_bs mL_law) ∧ (WP mX10_goBy 0 (am_ent 4 [.ref 498, .int (X.2 (Int32.toNatClampNeg (x4 + 1))), .int (X.2 (Int32.toNatClampNeg (x4 + 2)))]) [] (G X I L F) 0 0 (am_kq mL_law 1147 [some (.ref 1000000), some (.ref 0), some (.ref 498), some (.ref 540), some (.int x4), some (.int e0), d6] [] (c + am_bc mX10_goBy) (s + am_bs mX10_goBy) Q))))) : WP mL_law 1132 [some (.ref 1000000), some (.ref 0), some (.ref 498), some (.ref 540), some (.int x4), d5, d6] [.int e0] (G X I L F) c s Q := by
  refine w_istore rL_law_1132 rfl trivial ?_
  refine w_aload_n rL_law_1134 rfl ?_
  refine w_aload_n rL_law_1135 rfl ?_
  refine w_iload rL_law_1136 rfl ?_
  refine w_iconst rL_law_1138 (x := 1) (by decide) ?_
  refine w_iadd rL_law_1139 ?_
  refine w_ialoadX rL_law_1140 rfl q.1 ?_
  replace q := q.2
  refine w_aload_n rL_law_1141 rfl ?_
  refine w_iload rL_law_1142 rfl ?_
  refine w_iconst rL_law_1144 (x := 2) (by decide) ?_
  refine w_iadd rL_law_1145 ?_
  refine w_ialoadX rL_law_1146 rfl q.1 ?_
  replace q := q.2
  refine w_invokevirtual rL_law_1147 rfl rfl rfl (Nat.le_of_ble_eq_true rfl) ⟨trivial, trivial, trivial, trivial⟩ (G_is (by decide) rfl) q.1.1 q.1.2 ?_
  replace q := q.2
  exact q
theorem k_L_law_1150 {X : Nat × (Nat → Int32)} {I : Nat → Nat → Int32} {L : Nat → Nat → Int64} {F : Nat → Nat → UInt32} {Q : AQ} {c s : Nat} {x4 : Int32} {x5 : Int32} {d6 : Option Value} (q : (c + am_bc mX10_thrown ≤ am_bc mL_law ∧ s + am_bs mX10_thrown ≤ am_bs mL_law) ∧ (WP mX10_thrown 0 (am_ent 1 [.ref 498]) [] (G X I L F) 0 0 (am_kq mL_law 1151 [some (.ref 1000000), some (.ref 0), some (.ref 498), some (.ref 540), some (.int x4), some (.int x5), d6] [] (c + am_bc mX10_thrown) (s + am_bs mX10_thrown) Q))) : WP mL_law 1150 [some (.ref 1000000), some (.ref 0), some (.ref 498), some (.ref 540), some (.int x4), some (.int x5), d6] [] (G X I L F) c s Q := by
  refine w_aload_n rL_law_1150 rfl ?_
  refine w_invokevirtual rL_law_1151 rfl rfl rfl (Nat.le_of_ble_eq_true rfl) ⟨trivial, trivial⟩ (G_is (by decide) rfl) q.1.1 q.1.2 ?_
  replace q := q.2
  exact q
theorem k_L_law_1154 {X : Nat × (Nat → Int32)} {I : Nat → Nat → Int32} {L : Nat → Nat → Int64} {F : Nat → Nat → UInt32} {Q : AQ} {c s : Nat} {x4 : Int32} {x5 : Int32} {d6 : Option Value} {e0 : Int32} (q : (e0 = x5 → WP mL_law 23 [some (.ref 1000000), some (.ref 0), some (.ref 498), some (.ref 540), some (.int (x4 + 5)), some (.int x5), d6] [] (G X I L F) c s Q) ∧ (¬ e0 = x5 → Q (.inl (some (.int 0))) (G X I L F))) : WP mL_law 1154 [some (.ref 1000000), some (.ref 0), some (.ref 498), some (.ref 540), some (.int x4), some (.int x5), d6] [.int e0] (G X I L F) c s Q := by
  refine w_iload rL_law_1154 rfl ?_
  refine w_icmpeq rL_law_1156 (fun h1156 => ?_) (fun h1156 => ?_)
  · replace q := q.1 h1156
    refine w_goto rL_law_1161 ?_
    refine w_iinc rL_law_1721 rfl rfl trivial ?_
    refine w_goto rL_law_1724 ?_
    exact q
  · replace q := q.2 h1156
    refine w_iconst rL_law_1159 (x := 0) (by decide) ?_
    refine w_ireturn rL_law_1160 (Or.inl rfl) ?_
    exact q
theorem k_L_law_1175 {X : Nat × (Nat → Int32)} {I : Nat → Nat → Int32} {L : Nat → Nat → Int64} {F : Nat → Nat → UInt32} {Q : AQ} {c s : Nat} {x4 : Int32} {d5 : Option Value} {d6 : Option Value} {e0 : Int32} (q : vp_in (x4 + 1) X.1 ∧ ((c + am_bc mX10_level ≤ am_bc mL_law ∧ s + am_bs mX10_level ≤ am_bs mL_law) ∧ (WP mX10_level 0 (am_ent 2 [.ref 498, .int (X.2 (Int32.toNatClampNeg (x4 + 1)))]) [] (G X I L F) 0 0 (am_kq mL_law 1184 [some (.ref 1000000), some (.ref 0), some (.ref 498), some (.ref 540), some (.int x4), some (.int e0), d6] [] (c + am_bc mX10_level) (s + am_bs mX10_level) Q)))) : WP mL_law 1175 [some (.ref 1000000), some (.ref 0), some (.ref 498), some (.ref 540), some (.int x4), d5, d6] [.int e0] (G X I L F) c s Q := by
  refine w_istore rL_law_1175 rfl trivial ?_
  refine w_aload_n rL_law_1177 rfl ?_
  refine w_aload_n rL_law_1178 rfl ?_
  refine w_iload rL_law_1179 rfl ?_
  refine w_iconst rL_law_1181 (x := 1) (by decide) ?_
  refine w_iadd rL_law_1182 ?_
  refine w_ialoadX rL_law_1183 rfl q.1 ?_
  replace q := q.2
  refine w_invokevirtual rL_law_1184 rfl rfl rfl (Nat.le_of_ble_eq_true rfl) ⟨trivial, trivial, trivial⟩ (G_is (by decide) rfl) q.1.1 q.1.2 ?_
  replace q := q.2
  exact q
theorem k_L_law_1187 {X : Nat × (Nat → Int32)} {I : Nat → Nat → Int32} {L : Nat → Nat → Int64} {F : Nat → Nat → UInt32} {Q : AQ} {c s : Nat} {x4 : Int32} {x5 : Int32} {d6 : Option Value} {e0 : Int32} (q : (c + am_bc mX10_thrown ≤ am_bc mL_law ∧ s + am_bs mX10_thrown ≤ am_bs mL_law) ∧ (WP mX10_thrown 0 (am_ent 1 [.ref 498]) [] (G X I L F) 0 0 (am_kq mL_law 1190 [some (.ref 1000000), some (.ref 0), some (.ref 498), some (.ref 540), some (.int x4), some (.int x5), some (.int e0)] [] (c + am_bc mX10_thrown) (s + am_bs mX10_thrown) Q))) : WP mL_law 1187 [some (.ref 1000000), some (.ref 0), some (.ref 498), some (.ref 540), some (.int x4), some (.int x5), d6] [.int e0] (G X I L F) c s Q := by
  refine w_istore rL_law_1187 rfl trivial ?_
  refine w_aload_n rL_law_1189 rfl ?_
  refine w_invokevirtual rL_law_1190 rfl rfl rfl (Nat.le_of_ble_eq_true rfl) ⟨trivial, trivial⟩ (G_is (by decide) rfl) q.1.1 q.1.2 ?_
  replace q := q.2
  exact q
theorem k_L_law_1193 {X : Nat × (Nat → Int32)} {I : Nat → Nat → Int32} {L : Nat → Nat → Int64} {F : Nat → Nat → UInt32} {Q : AQ} {c s : Nat} {x4 : Int32} {x5 : Int32} {x6 : Int32} {e0 : Int32} (q : (e0 = x5 → (x5 = 0 → ((lg_cmp (L 540 0) (Int32.toInt64 x6)) = 0 → WP mL_law 23 [some (.ref 1000000), some (.ref 0), some (.ref 498), some (.ref 540), some (.int (x4 + 5)), some (.int x5), some (.int x6)] [] (G X I L F) c s Q) ∧ (¬ (lg_cmp (L 540 0) (Int32.toInt64 x6)) = 0 → Q (.inl (some (.int 0))) (G X I L F))) ∧ (¬ x5 = 0 → WP mL_law 23 [some (.ref 1000000), some (.ref 0), some (.ref 498), some (.ref 540), some (.int (x4 + 5)), some (.int x5), some (.int x6)] [] (G X I L F) c s Q)) ∧ (¬ e0 = x5 → Q (.inl (some (.int 0))) (G X I L F))) : WP mL_law 1193 [some (.ref 1000000), some (.ref 0), some (.ref 498), some (.ref 540), some (.int x4), some (.int x5), some (.int x6)] [.int e0] (G X I L F) c s Q := by
  refine w_iload rL_law_1193 rfl ?_
  refine w_icmpeq rL_law_1195 (fun h1195 => ?_) (fun h1195 => ?_)
  · replace q := q.1 h1195
    refine w_iload rL_law_1200 rfl ?_
    refine w_ifne rL_law_1202 (fun h1202 => ?_) (fun h1202 => ?_)
    · replace q := q.2 h1202
      refine w_goto rL_law_1217 ?_
      refine w_iinc rL_law_1721 rfl rfl trivial ?_
      refine w_goto rL_law_1724 ?_
      exact q
    · replace q := q.1 h1202
      refine w_aload_n rL_law_1205 rfl ?_
      refine w_iconst rL_law_1206 (x := 0) (by decide) ?_
      refine xl_laload rL_law_1207 (G_at (by decide) rfl rfl (by unfold vp_in; decide)) (i := 0) (by decide) ?_
      refine w_iload rL_law_1208 rfl ?_
      refine w_i2l rL_law_1210 ?_
      refine w_lcmp rL_law_1211 ?_
      refine w_ifeq rL_law_1212 (fun h1212 => ?_) (fun h1212 => ?_)
      · replace q := q.1 h1212
        refine w_goto rL_law_1217 ?_
        refine w_iinc rL_law_1721 rfl rfl trivial ?_
        refine w_goto rL_law_1724 ?_
        exact q
      · replace q := q.2 h1212
        refine w_iconst rL_law_1215 (x := 0) (by decide) ?_
        refine w_ireturn rL_law_1216 (Or.inl rfl) ?_
        exact q
  · replace q := q.2 h1195
    refine w_iconst rL_law_1198 (x := 0) (by decide) ?_
    refine w_ireturn rL_law_1199 (Or.inl rfl) ?_
    exact q
theorem k_L_law_1237 {X : Nat × (Nat → Int32)} {I : Nat → Nat → Int32} {L : Nat → Nat → Int64} {F : Nat → Nat → UInt32} {Q : AQ} {c s : Nat} {x4 : Int32} {d5 : Option Value} {d6 : Option Value} {e0 : Int32} (q : vp_in (x4 + 1) X.1 ∧ (vp_in (x4 + 2) X.1 ∧ ((c + am_bc mX10_below ≤ am_bc mL_law ∧ s + am_bs mX10_below ≤ am_bs mL_law) ∧ (WP mX10_below 0 (am_ent 3 [.ref 498, .int (X.2 (Int32.toNatClampNeg (x4 + 1))), .int (X.2 (Int32.toNatClampNeg (x4 + 2)))]) [] (G X I L F) 0 0 (am_kq mL_law 1252 [some (.ref 1000000), some (.ref 0), some (.ref 498), some (.ref 540), some (.int x4), some (.int e0), d6] [] (c + am_bc mX10_below) (s + am_bs mX10_below) Q))))) : WP mL_law 1237 [some (.ref 1000000), some (.ref 0), some (.ref 498), some (.ref 540), some (.int x4), d5, d6] [.int e0] (G X I L F) c s Q := by
  refine w_istore rL_law_1237 rfl trivial ?_
  refine w_aload_n rL_law_1239 rfl ?_
  refine w_aload_n rL_law_1240 rfl ?_
  refine w_iload rL_law_1241 rfl ?_
  refine w_iconst rL_law_1243 (x := 1) (by decide) ?_
  refine w_iadd rL_law_1244 ?_
  refine w_ialoadX rL_law_1245 rfl q.1 ?_
  replace q := q.2
  refine w_aload_n rL_law_1246 rfl ?_
  refine w_iload rL_law_1247 rfl ?_
  refine w_iconst rL_law_1249 (x := 2) (by decide) ?_
  refine w_iadd rL_law_1250 ?_
  refine w_ialoadX rL_law_1251 rfl q.1 ?_
  replace q := q.2
  refine w_invokevirtual rL_law_1252 rfl rfl rfl (Nat.le_of_ble_eq_true rfl) ⟨trivial, trivial, trivial, trivial⟩ (G_is (by decide) rfl) q.1.1 q.1.2 ?_
  replace q := q.2
  exact q
theorem k_L_law_1255 {X : Nat × (Nat → Int32)} {I : Nat → Nat → Int32} {L : Nat → Nat → Int64} {F : Nat → Nat → UInt32} {Q : AQ} {c s : Nat} {x4 : Int32} {x5 : Int32} {d6 : Option Value} {e0 : Int32} (q : (c + am_bc mX10_thrown ≤ am_bc mL_law ∧ s + am_bs mX10_thrown ≤ am_bs mL_law) ∧ (WP mX10_thrown 0 (am_ent 1 [.ref 498]) [] (G X I L F) 0 0 (am_kq mL_law 1258 [some (.ref 1000000), some (.ref 0), some (.ref 498), some (.ref 540), some (.int x4), some (.int x5), some (.int e0)] [] (c + am_bc mX10_thrown) (s + am_bs mX10_thrown) Q))) : WP mL_law 1255 [some (.ref 1000000), some (.ref 0), some (.ref 498), some (.ref 540), some (.int x4), some (.int x5), d6] [.int e0] (G X I L F) c s Q := by
  refine w_istore rL_law_1255 rfl trivial ?_
  refine w_aload_n rL_law_1257 rfl ?_
  refine w_invokevirtual rL_law_1258 rfl rfl rfl (Nat.le_of_ble_eq_true rfl) ⟨trivial, trivial⟩ (G_is (by decide) rfl) q.1.1 q.1.2 ?_
  replace q := q.2
  exact q
theorem k_L_law_1261 {X : Nat × (Nat → Int32)} {I : Nat → Nat → Int32} {L : Nat → Nat → Int64} {F : Nat → Nat → UInt32} {Q : AQ} {c s : Nat} {x4 : Int32} {x5 : Int32} {x6 : Int32} {e0 : Int32} (q : (e0 = x5 → (x5 = 0 → ((lg_cmp (L 540 0) (Int32.toInt64 x6)) = 0 → WP mL_law 23 [some (.ref 1000000), some (.ref 0), some (.ref 498), some (.ref 540), some (.int (x4 + 5)), some (.int x5), some (.int x6)] [] (G X I L F) c s Q) ∧ (¬ (lg_cmp (L 540 0) (Int32.toInt64 x6)) = 0 → Q (.inl (some (.int 0))) (G X I L F))) ∧ (¬ x5 = 0 → WP mL_law 23 [some (.ref 1000000), some (.ref 0), some (.ref 498), some (.ref 540), some (.int (x4 + 5)), some (.int x5), some (.int x6)] [] (G X I L F) c s Q)) ∧ (¬ e0 = x5 → Q (.inl (some (.int 0))) (G X I L F))) : WP mL_law 1261 [some (.ref 1000000), some (.ref 0), some (.ref 498), some (.ref 540), some (.int x4), some (.int x5), some (.int x6)] [.int e0] (G X I L F) c s Q := by
  refine w_iload rL_law_1261 rfl ?_
  refine w_icmpeq rL_law_1263 (fun h1263 => ?_) (fun h1263 => ?_)
  · replace q := q.1 h1263
    refine w_iload rL_law_1268 rfl ?_
    refine w_ifne rL_law_1270 (fun h1270 => ?_) (fun h1270 => ?_)
    · replace q := q.2 h1270
      refine w_goto rL_law_1285 ?_
      refine w_iinc rL_law_1721 rfl rfl trivial ?_
      refine w_goto rL_law_1724 ?_
      exact q
    · replace q := q.1 h1270
      refine w_aload_n rL_law_1273 rfl ?_
      refine w_iconst rL_law_1274 (x := 0) (by decide) ?_
      refine xl_laload rL_law_1275 (G_at (by decide) rfl rfl (by unfold vp_in; decide)) (i := 0) (by decide) ?_
      refine w_iload rL_law_1276 rfl ?_
      refine w_i2l rL_law_1278 ?_
      refine w_lcmp rL_law_1279 ?_
      refine w_ifeq rL_law_1280 (fun h1280 => ?_) (fun h1280 => ?_)
      · replace q := q.1 h1280
        refine w_goto rL_law_1285 ?_
        refine w_iinc rL_law_1721 rfl rfl trivial ?_
        refine w_goto rL_law_1724 ?_
        exact q
      · replace q := q.2 h1280
        refine w_iconst rL_law_1283 (x := 0) (by decide) ?_
        refine w_ireturn rL_law_1284 (Or.inl rfl) ?_
        exact q
  · replace q := q.2 h1263
    refine w_iconst rL_law_1266 (x := 0) (by decide) ?_
    refine w_ireturn rL_law_1267 (Or.inl rfl) ?_
    exact q
theorem k_L_law_1316 {X : Nat × (Nat → Int32)} {I : Nat → Nat → Int32} {L : Nat → Nat → Int64} {F : Nat → Nat → UInt32} {Q : AQ} {c s : Nat} {x4 : Int32} {d5 : Option Value} {d6 : Option Value} {e0 : Int32} (q : vp_in (x4 + 1) X.1 ∧ (vp_in (x4 + 2) X.1 ∧ (vp_in (x4 + 3) X.1 ∧ (vp_in (x4 + 4) X.1 ∧ ((c + am_bc mX10_valley ≤ am_bc mL_law ∧ s + am_bs mX10_valley ≤ am_bs mL_law) ∧ (WP mX10_valley 0 (am_ent 7 [.ref 498, .int (X.2 (Int32.toNatClampNeg (x4 + 1))), .int (X.2 (Int32.toNatClampNeg (x4 + 2))), .int (X.2 (Int32.toNatClampNeg (x4 + 3))), .int (X.2 (Int32.toNatClampNeg (x4 + 4)))]) [] (G X I L F) 0 0 (am_kq mL_law 1343 [some (.ref 1000000), some (.ref 0), some (.ref 498), some (.ref 540), some (.int x4), some (.int e0), d6] [] (c + am_bc mX10_valley) (s + am_bs mX10_valley) Q))))))) : WP mL_law 1316 [some (.ref 1000000), some (.ref 0), some (.ref 498), some (.ref 540), some (.int x4), d5, d6] [.int e0] (G X I L F) c s Q := by
  refine w_istore rL_law_1316 rfl trivial ?_
  refine w_aload_n rL_law_1318 rfl ?_
  refine w_aload_n rL_law_1319 rfl ?_
  refine w_iload rL_law_1320 rfl ?_
  refine w_iconst rL_law_1322 (x := 1) (by decide) ?_
  refine w_iadd rL_law_1323 ?_
  refine w_ialoadX rL_law_1324 rfl q.1 ?_
  replace q := q.2
  refine w_aload_n rL_law_1325 rfl ?_
  refine w_iload rL_law_1326 rfl ?_
  refine w_iconst rL_law_1328 (x := 2) (by decide) ?_
  refine w_iadd rL_law_1329 ?_
  refine w_ialoadX rL_law_1330 rfl q.1 ?_
  replace q := q.2
  refine w_aload_n rL_law_1331 rfl ?_
  refine w_iload rL_law_1332 rfl ?_
  refine w_iconst rL_law_1334 (x := 3) (by decide) ?_
  refine w_iadd rL_law_1335 ?_
  refine w_ialoadX rL_law_1336 rfl q.1 ?_
  replace q := q.2
  refine w_aload_n rL_law_1337 rfl ?_
  refine w_iload rL_law_1338 rfl ?_
  refine w_iconst rL_law_1340 (x := 4) (by decide) ?_
  refine w_iadd rL_law_1341 ?_
  refine w_ialoadX rL_law_1342 rfl q.1 ?_
  replace q := q.2
  refine w_invokevirtual rL_law_1343 rfl rfl rfl (Nat.le_of_ble_eq_true rfl) ⟨trivial, trivial, trivial, trivial, trivial, trivial⟩ (G_is (by decide) rfl) q.1.1 q.1.2 ?_
  replace q := q.2
  exact q
theorem k_L_law_1346 {X : Nat × (Nat → Int32)} {I : Nat → Nat → Int32} {L : Nat → Nat → Int64} {F : Nat → Nat → UInt32} {Q : AQ} {c s : Nat} {x4 : Int32} {x5 : Int32} {d6 : Option Value} (q : (c + am_bc mX10_thrown ≤ am_bc mL_law ∧ s + am_bs mX10_thrown ≤ am_bs mL_law) ∧ (WP mX10_thrown 0 (am_ent 1 [.ref 498]) [] (G X I L F) 0 0 (am_kq mL_law 1347 [some (.ref 1000000), some (.ref 0), some (.ref 498), some (.ref 540), some (.int x4), some (.int x5), d6] [] (c + am_bc mX10_thrown) (s + am_bs mX10_thrown) Q))) : WP mL_law 1346 [some (.ref 1000000), some (.ref 0), some (.ref 498), some (.ref 540), some (.int x4), some (.int x5), d6] [] (G X I L F) c s Q := by
  refine w_aload_n rL_law_1346 rfl ?_
  refine w_invokevirtual rL_law_1347 rfl rfl rfl (Nat.le_of_ble_eq_true rfl) ⟨trivial, trivial⟩ (G_is (by decide) rfl) q.1.1 q.1.2 ?_
  replace q := q.2
  exact q
theorem k_L_law_1350 {X : Nat × (Nat → Int32)} {I : Nat → Nat → Int32} {L : Nat → Nat → Int64} {F : Nat → Nat → UInt32} {Q : AQ} {c s : Nat} {x4 : Int32} {x5 : Int32} {d6 : Option Value} {e0 : Int32} (q : (e0 = x5 → WP mL_law 23 [some (.ref 1000000), some (.ref 0), some (.ref 498), some (.ref 540), some (.int (x4 + 5)), some (.int x5), d6] [] (G X I L F) c s Q) ∧ (¬ e0 = x5 → Q (.inl (some (.int 0))) (G X I L F))) : WP mL_law 1350 [some (.ref 1000000), some (.ref 0), some (.ref 498), some (.ref 540), some (.int x4), some (.int x5), d6] [.int e0] (G X I L F) c s Q := by
  refine w_iload rL_law_1350 rfl ?_
  refine w_icmpeq rL_law_1352 (fun h1352 => ?_) (fun h1352 => ?_)
  · replace q := q.1 h1352
    refine w_goto rL_law_1357 ?_
    refine w_iinc rL_law_1721 rfl rfl trivial ?_
    refine w_goto rL_law_1724 ?_
    exact q
  · replace q := q.2 h1352
    refine w_iconst rL_law_1355 (x := 0) (by decide) ?_
    refine w_ireturn rL_law_1356 (Or.inl rfl) ?_
    exact q
theorem k_L_law_1377 {X : Nat × (Nat → Int32)} {I : Nat → Nat → Int32} {L : Nat → Nat → Int64} {F : Nat → Nat → UInt32} {Q : AQ} {c s : Nat} {x4 : Int32} {d5 : Option Value} {d6 : Option Value} {e0 : Int32} (q : vp_in (x4 + 1) X.1 ∧ (vp_in (x4 + 2) X.1 ∧ ((c + am_bc mX10_sound ≤ am_bc mL_law ∧ s + am_bs mX10_sound ≤ am_bs mL_law) ∧ (WP mX10_sound 0 (am_ent 5 [.ref 498, .int (X.2 (Int32.toNatClampNeg (x4 + 1))), .int (X.2 (Int32.toNatClampNeg (x4 + 2)))]) [] (G X I L F) 0 0 (am_kq mL_law 1392 [some (.ref 1000000), some (.ref 0), some (.ref 498), some (.ref 540), some (.int x4), some (.int e0), d6] [] (c + am_bc mX10_sound) (s + am_bs mX10_sound) Q))))) : WP mL_law 1377 [some (.ref 1000000), some (.ref 0), some (.ref 498), some (.ref 540), some (.int x4), d5, d6] [.int e0] (G X I L F) c s Q := by
  refine w_istore rL_law_1377 rfl trivial ?_
  refine w_aload_n rL_law_1379 rfl ?_
  refine w_aload_n rL_law_1380 rfl ?_
  refine w_iload rL_law_1381 rfl ?_
  refine w_iconst rL_law_1383 (x := 1) (by decide) ?_
  refine w_iadd rL_law_1384 ?_
  refine w_ialoadX rL_law_1385 rfl q.1 ?_
  replace q := q.2
  refine w_aload_n rL_law_1386 rfl ?_
  refine w_iload rL_law_1387 rfl ?_
  refine w_iconst rL_law_1389 (x := 2) (by decide) ?_
  refine w_iadd rL_law_1390 ?_
  refine w_ialoadX rL_law_1391 rfl q.1 ?_
  replace q := q.2
  refine w_invokevirtual rL_law_1392 rfl rfl rfl (Nat.le_of_ble_eq_true rfl) ⟨trivial, trivial, trivial, trivial⟩ (G_is (by decide) rfl) q.1.1 q.1.2 ?_
  replace q := q.2
  exact q
theorem k_L_law_1395 {X : Nat × (Nat → Int32)} {I : Nat → Nat → Int32} {L : Nat → Nat → Int64} {F : Nat → Nat → UInt32} {Q : AQ} {c s : Nat} {x4 : Int32} {x5 : Int32} {d6 : Option Value} {e0 : Int32} (q : (c + am_bc mX10_thrown ≤ am_bc mL_law ∧ s + am_bs mX10_thrown ≤ am_bs mL_law) ∧ (WP mX10_thrown 0 (am_ent 1 [.ref 498]) [] (G X I L F) 0 0 (am_kq mL_law 1398 [some (.ref 1000000), some (.ref 0), some (.ref 498), some (.ref 540), some (.int x4), some (.int x5), some (.int e0)] [] (c + am_bc mX10_thrown) (s + am_bs mX10_thrown) Q))) : WP mL_law 1395 [some (.ref 1000000), some (.ref 0), some (.ref 498), some (.ref 540), some (.int x4), some (.int x5), d6] [.int e0] (G X I L F) c s Q := by
  refine w_istore rL_law_1395 rfl trivial ?_
  refine w_aload_n rL_law_1397 rfl ?_
  refine w_invokevirtual rL_law_1398 rfl rfl rfl (Nat.le_of_ble_eq_true rfl) ⟨trivial, trivial⟩ (G_is (by decide) rfl) q.1.1 q.1.2 ?_
  replace q := q.2
  exact q
theorem k_L_law_1401 {X : Nat × (Nat → Int32)} {I : Nat → Nat → Int32} {L : Nat → Nat → Int64} {F : Nat → Nat → UInt32} {Q : AQ} {c s : Nat} {x4 : Int32} {x5 : Int32} {x6 : Int32} {e0 : Int32} (q : (e0 = x5 → (x5 = 0 → ((lg_cmp (L 540 0) (Int32.toInt64 x6)) = 0 → WP mL_law 23 [some (.ref 1000000), some (.ref 0), some (.ref 498), some (.ref 540), some (.int (x4 + 5)), some (.int x5), some (.int x6)] [] (G X I L F) c s Q) ∧ (¬ (lg_cmp (L 540 0) (Int32.toInt64 x6)) = 0 → Q (.inl (some (.int 0))) (G X I L F))) ∧ (¬ x5 = 0 → WP mL_law 23 [some (.ref 1000000), some (.ref 0), some (.ref 498), some (.ref 540), some (.int (x4 + 5)), some (.int x5), some (.int x6)] [] (G X I L F) c s Q)) ∧ (¬ e0 = x5 → Q (.inl (some (.int 0))) (G X I L F))) : WP mL_law 1401 [some (.ref 1000000), some (.ref 0), some (.ref 498), some (.ref 540), some (.int x4), some (.int x5), some (.int x6)] [.int e0] (G X I L F) c s Q := by
  refine w_iload rL_law_1401 rfl ?_
  refine w_icmpeq rL_law_1403 (fun h1403 => ?_) (fun h1403 => ?_)
  · replace q := q.1 h1403
    refine w_iload rL_law_1408 rfl ?_
    refine w_ifne rL_law_1410 (fun h1410 => ?_) (fun h1410 => ?_)
    · replace q := q.2 h1410
      refine w_goto rL_law_1425 ?_
      refine w_iinc rL_law_1721 rfl rfl trivial ?_
      refine w_goto rL_law_1724 ?_
      exact q
    · replace q := q.1 h1410
      refine w_aload_n rL_law_1413 rfl ?_
      refine w_iconst rL_law_1414 (x := 0) (by decide) ?_
      refine xl_laload rL_law_1415 (G_at (by decide) rfl rfl (by unfold vp_in; decide)) (i := 0) (by decide) ?_
      refine w_iload rL_law_1416 rfl ?_
      refine w_i2l rL_law_1418 ?_
      refine w_lcmp rL_law_1419 ?_
      refine w_ifeq rL_law_1420 (fun h1420 => ?_) (fun h1420 => ?_)
      · replace q := q.1 h1420
        refine w_goto rL_law_1425 ?_
        refine w_iinc rL_law_1721 rfl rfl trivial ?_
        refine w_goto rL_law_1724 ?_
        exact q
      · replace q := q.2 h1420
        refine w_iconst rL_law_1423 (x := 0) (by decide) ?_
        refine w_ireturn rL_law_1424 (Or.inl rfl) ?_
        exact q
  · replace q := q.2 h1403
    refine w_iconst rL_law_1406 (x := 0) (by decide) ?_
    refine w_ireturn rL_law_1407 (Or.inl rfl) ?_
    exact q
theorem k_L_law_1439 {X : Nat × (Nat → Int32)} {I : Nat → Nat → Int32} {L : Nat → Nat → Int64} {F : Nat → Nat → UInt32} {Q : AQ} {c s : Nat} {x4 : Int32} {d5 : Option Value} {d6 : Option Value} {e0 : Int32} (q : vp_in (x4 + 1) X.1 ∧ ((c + am_bc mX10_siren ≤ am_bc mL_law ∧ s + am_bs mX10_siren ≤ am_bs mL_law) ∧ (WP mX10_siren 0 (am_ent 2 [.ref 498, .int (X.2 (Int32.toNatClampNeg (x4 + 1)))]) [] (G X I L F) 0 0 (am_kq mL_law 1448 [some (.ref 1000000), some (.ref 0), some (.ref 498), some (.ref 540), some (.int x4), some (.int e0), d6] [] (c + am_bc mX10_siren) (s + am_bs mX10_siren) Q)))) : WP mL_law 1439 [some (.ref 1000000), some (.ref 0), some (.ref 498), some (.ref 540), some (.int x4), d5, d6] [.int e0] (G X I L F) c s Q := by
  refine w_istore rL_law_1439 rfl trivial ?_
  refine w_aload_n rL_law_1441 rfl ?_
  refine w_aload_n rL_law_1442 rfl ?_
  refine w_iload rL_law_1443 rfl ?_
  refine w_iconst rL_law_1445 (x := 1) (by decide) ?_
  refine w_iadd rL_law_1446 ?_
  refine w_ialoadX rL_law_1447 rfl q.1 ?_
  replace q := q.2
  refine w_invokevirtual rL_law_1448 rfl rfl rfl (Nat.le_of_ble_eq_true rfl) ⟨trivial, trivial, trivial⟩ (G_is (by decide) rfl) q.1.1 q.1.2 ?_
  replace q := q.2
  exact q
theorem k_L_law_1451 {X : Nat × (Nat → Int32)} {I : Nat → Nat → Int32} {L : Nat → Nat → Int64} {F : Nat → Nat → UInt32} {Q : AQ} {c s : Nat} {x4 : Int32} {x5 : Int32} {d6 : Option Value} {e0 : Int32} (q : (c + am_bc mX10_thrown ≤ am_bc mL_law ∧ s + am_bs mX10_thrown ≤ am_bs mL_law) ∧ (WP mX10_thrown 0 (am_ent 1 [.ref 498]) [] (G X I L F) 0 0 (am_kq mL_law 1454 [some (.ref 1000000), some (.ref 0), some (.ref 498), some (.ref 540), some (.int x4), some (.int x5), some (.int e0)] [] (c + am_bc mX10_thrown) (s + am_bs mX10_thrown) Q))) : WP mL_law 1451 [some (.ref 1000000), some (.ref 0), some (.ref 498), some (.ref 540), some (.int x4), some (.int x5), d6] [.int e0] (G X I L F) c s Q := by
  refine w_istore rL_law_1451 rfl trivial ?_
  refine w_aload_n rL_law_1453 rfl ?_
  refine w_invokevirtual rL_law_1454 rfl rfl rfl (Nat.le_of_ble_eq_true rfl) ⟨trivial, trivial⟩ (G_is (by decide) rfl) q.1.1 q.1.2 ?_
  replace q := q.2
  exact q
theorem k_L_law_1457 {X : Nat × (Nat → Int32)} {I : Nat → Nat → Int32} {L : Nat → Nat → Int64} {F : Nat → Nat → UInt32} {Q : AQ} {c s : Nat} {x4 : Int32} {x5 : Int32} {x6 : Int32} {e0 : Int32} (q : (e0 = x5 → (x5 = 0 → ((lg_cmp (L 540 0) (Int32.toInt64 x6)) = 0 → WP mL_law 23 [some (.ref 1000000), some (.ref 0), some (.ref 498), some (.ref 540), some (.int (x4 + 5)), some (.int x5), some (.int x6)] [] (G X I L F) c s Q) ∧ (¬ (lg_cmp (L 540 0) (Int32.toInt64 x6)) = 0 → Q (.inl (some (.int 0))) (G X I L F))) ∧ (¬ x5 = 0 → WP mL_law 23 [some (.ref 1000000), some (.ref 0), some (.ref 498), some (.ref 540), some (.int (x4 + 5)), some (.int x5), some (.int x6)] [] (G X I L F) c s Q)) ∧ (¬ e0 = x5 → Q (.inl (some (.int 0))) (G X I L F))) : WP mL_law 1457 [some (.ref 1000000), some (.ref 0), some (.ref 498), some (.ref 540), some (.int x4), some (.int x5), some (.int x6)] [.int e0] (G X I L F) c s Q := by
  refine w_iload rL_law_1457 rfl ?_
  refine w_icmpeq rL_law_1459 (fun h1459 => ?_) (fun h1459 => ?_)
  · replace q := q.1 h1459
    refine w_iload rL_law_1464 rfl ?_
    refine w_ifne rL_law_1466 (fun h1466 => ?_) (fun h1466 => ?_)
    · replace q := q.2 h1466
      refine w_goto rL_law_1481 ?_
      refine w_iinc rL_law_1721 rfl rfl trivial ?_
      refine w_goto rL_law_1724 ?_
      exact q
    · replace q := q.1 h1466
      refine w_aload_n rL_law_1469 rfl ?_
      refine w_iconst rL_law_1470 (x := 0) (by decide) ?_
      refine xl_laload rL_law_1471 (G_at (by decide) rfl rfl (by unfold vp_in; decide)) (i := 0) (by decide) ?_
      refine w_iload rL_law_1472 rfl ?_
      refine w_i2l rL_law_1474 ?_
      refine w_lcmp rL_law_1475 ?_
      refine w_ifeq rL_law_1476 (fun h1476 => ?_) (fun h1476 => ?_)
      · replace q := q.1 h1476
        refine w_goto rL_law_1481 ?_
        refine w_iinc rL_law_1721 rfl rfl trivial ?_
        refine w_goto rL_law_1724 ?_
        exact q
      · replace q := q.2 h1476
        refine w_iconst rL_law_1479 (x := 0) (by decide) ?_
        refine w_ireturn rL_law_1480 (Or.inl rfl) ?_
        exact q
  · replace q := q.2 h1459
    refine w_iconst rL_law_1462 (x := 0) (by decide) ?_
    refine w_ireturn rL_law_1463 (Or.inl rfl) ?_
    exact q
theorem k_L_law_1495 {X : Nat × (Nat → Int32)} {I : Nat → Nat → Int32} {L : Nat → Nat → Int64} {F : Nat → Nat → UInt32} {Q : AQ} {c s : Nat} {x4 : Int32} {d5 : Option Value} {d6 : Option Value} {e0 : Int32} (q : vp_in (x4 + 1) X.1 ∧ ((c + am_bc mX10_walkers ≤ am_bc mL_law ∧ s + am_bs mX10_walkers ≤ am_bs mL_law) ∧ (WP mX10_walkers 0 (am_ent 2 [.ref 498, .int (X.2 (Int32.toNatClampNeg (x4 + 1)))]) [] (G X I L F) 0 0 (am_kq mL_law 1504 [some (.ref 1000000), some (.ref 0), some (.ref 498), some (.ref 540), some (.int x4), some (.int e0), d6] [] (c + am_bc mX10_walkers) (s + am_bs mX10_walkers) Q)))) : WP mL_law 1495 [some (.ref 1000000), some (.ref 0), some (.ref 498), some (.ref 540), some (.int x4), d5, d6] [.int e0] (G X I L F) c s Q := by
  refine w_istore rL_law_1495 rfl trivial ?_
  refine w_aload_n rL_law_1497 rfl ?_
  refine w_aload_n rL_law_1498 rfl ?_
  refine w_iload rL_law_1499 rfl ?_
  refine w_iconst rL_law_1501 (x := 1) (by decide) ?_
  refine w_iadd rL_law_1502 ?_
  refine w_ialoadX rL_law_1503 rfl q.1 ?_
  replace q := q.2
  refine w_invokevirtual rL_law_1504 rfl rfl rfl (Nat.le_of_ble_eq_true rfl) ⟨trivial, trivial, trivial⟩ (G_is (by decide) rfl) q.1.1 q.1.2 ?_
  replace q := q.2
  exact q
theorem k_L_law_1507 {X : Nat × (Nat → Int32)} {I : Nat → Nat → Int32} {L : Nat → Nat → Int64} {F : Nat → Nat → UInt32} {Q : AQ} {c s : Nat} {x4 : Int32} {x5 : Int32} {d6 : Option Value} {e0 : Int32} (q : (c + am_bc mX10_thrown ≤ am_bc mL_law ∧ s + am_bs mX10_thrown ≤ am_bs mL_law) ∧ (WP mX10_thrown 0 (am_ent 1 [.ref 498]) [] (G X I L F) 0 0 (am_kq mL_law 1510 [some (.ref 1000000), some (.ref 0), some (.ref 498), some (.ref 540), some (.int x4), some (.int x5), some (.int e0)] [] (c + am_bc mX10_thrown) (s + am_bs mX10_thrown) Q))) : WP mL_law 1507 [some (.ref 1000000), some (.ref 0), some (.ref 498), some (.ref 540), some (.int x4), some (.int x5), d6] [.int e0] (G X I L F) c s Q := by
  refine w_istore rL_law_1507 rfl trivial ?_
  refine w_aload_n rL_law_1509 rfl ?_
  refine w_invokevirtual rL_law_1510 rfl rfl rfl (Nat.le_of_ble_eq_true rfl) ⟨trivial, trivial⟩ (G_is (by decide) rfl) q.1.1 q.1.2 ?_
  replace q := q.2
  exact q
theorem k_L_law_1513 {X : Nat × (Nat → Int32)} {I : Nat → Nat → Int32} {L : Nat → Nat → Int64} {F : Nat → Nat → UInt32} {Q : AQ} {c s : Nat} {x4 : Int32} {x5 : Int32} {x6 : Int32} {e0 : Int32} (q : (e0 = x5 → (x5 = 0 → ((lg_cmp (L 540 0) (Int32.toInt64 x6)) = 0 → WP mL_law 23 [some (.ref 1000000), some (.ref 0), some (.ref 498), some (.ref 540), some (.int (x4 + 5)), some (.int x5), some (.int x6)] [] (G X I L F) c s Q) ∧ (¬ (lg_cmp (L 540 0) (Int32.toInt64 x6)) = 0 → Q (.inl (some (.int 0))) (G X I L F))) ∧ (¬ x5 = 0 → WP mL_law 23 [some (.ref 1000000), some (.ref 0), some (.ref 498), some (.ref 540), some (.int (x4 + 5)), some (.int x5), some (.int x6)] [] (G X I L F) c s Q)) ∧ (¬ e0 = x5 → Q (.inl (some (.int 0))) (G X I L F))) : WP mL_law 1513 [some (.ref 1000000), some (.ref 0), some (.ref 498), some (.ref 540), some (.int x4), some (.int x5), some (.int x6)] [.int e0] (G X I L F) c s Q := by
  refine w_iload rL_law_1513 rfl ?_
  refine w_icmpeq rL_law_1515 (fun h1515 => ?_) (fun h1515 => ?_)
  · replace q := q.1 h1515
    refine w_iload rL_law_1520 rfl ?_
    refine w_ifne rL_law_1522 (fun h1522 => ?_) (fun h1522 => ?_)
    · replace q := q.2 h1522
      refine w_goto rL_law_1537 ?_
      refine w_iinc rL_law_1721 rfl rfl trivial ?_
      refine w_goto rL_law_1724 ?_
      exact q
    · replace q := q.1 h1522
      refine w_aload_n rL_law_1525 rfl ?_
      refine w_iconst rL_law_1526 (x := 0) (by decide) ?_
      refine xl_laload rL_law_1527 (G_at (by decide) rfl rfl (by unfold vp_in; decide)) (i := 0) (by decide) ?_
      refine w_iload rL_law_1528 rfl ?_
      refine w_i2l rL_law_1530 ?_
      refine w_lcmp rL_law_1531 ?_
      refine w_ifeq rL_law_1532 (fun h1532 => ?_) (fun h1532 => ?_)
      · replace q := q.1 h1532
        refine w_goto rL_law_1537 ?_
        refine w_iinc rL_law_1721 rfl rfl trivial ?_
        refine w_goto rL_law_1724 ?_
        exact q
      · replace q := q.2 h1532
        refine w_iconst rL_law_1535 (x := 0) (by decide) ?_
        refine w_ireturn rL_law_1536 (Or.inl rfl) ?_
        exact q
  · replace q := q.2 h1515
    refine w_iconst rL_law_1518 (x := 0) (by decide) ?_
    refine w_ireturn rL_law_1519 (Or.inl rfl) ?_
    exact q
theorem k_L_law_1551 {X : Nat × (Nat → Int32)} {I : Nat → Nat → Int32} {L : Nat → Nat → Int64} {F : Nat → Nat → UInt32} {Q : AQ} {c s : Nat} {x4 : Int32} {d5 : Option Value} {d6 : Option Value} {e0 : Int32} (q : vp_in (x4 + 1) X.1 ∧ ((c + am_bc mX10_trust ≤ am_bc mL_law ∧ s + am_bs mX10_trust ≤ am_bs mL_law) ∧ (WP mX10_trust 0 (am_ent 2 [.ref 498, .int (X.2 (Int32.toNatClampNeg (x4 + 1)))]) [] (G X I L F) 0 0 (am_kq mL_law 1560 [some (.ref 1000000), some (.ref 0), some (.ref 498), some (.ref 540), some (.int x4), some (.int e0), d6] [] (c + am_bc mX10_trust) (s + am_bs mX10_trust) Q)))) : WP mL_law 1551 [some (.ref 1000000), some (.ref 0), some (.ref 498), some (.ref 540), some (.int x4), d5, d6] [.int e0] (G X I L F) c s Q := by
  refine w_istore rL_law_1551 rfl trivial ?_
  refine w_aload_n rL_law_1553 rfl ?_
  refine w_aload_n rL_law_1554 rfl ?_
  refine w_iload rL_law_1555 rfl ?_
  refine w_iconst rL_law_1557 (x := 1) (by decide) ?_
  refine w_iadd rL_law_1558 ?_
  refine w_ialoadX rL_law_1559 rfl q.1 ?_
  replace q := q.2
  refine w_invokevirtual rL_law_1560 rfl rfl rfl (Nat.le_of_ble_eq_true rfl) ⟨trivial, trivial, trivial⟩ (G_is (by decide) rfl) q.1.1 q.1.2 ?_
  replace q := q.2
  exact q
theorem k_L_law_1563 {X : Nat × (Nat → Int32)} {I : Nat → Nat → Int32} {L : Nat → Nat → Int64} {F : Nat → Nat → UInt32} {Q : AQ} {c s : Nat} {x4 : Int32} {x5 : Int32} {d6 : Option Value} {e0 : Int32} (q : (c + am_bc mX10_thrown ≤ am_bc mL_law ∧ s + am_bs mX10_thrown ≤ am_bs mL_law) ∧ (WP mX10_thrown 0 (am_ent 1 [.ref 498]) [] (G X I L F) 0 0 (am_kq mL_law 1566 [some (.ref 1000000), some (.ref 0), some (.ref 498), some (.ref 540), some (.int x4), some (.int x5), some (.int e0)] [] (c + am_bc mX10_thrown) (s + am_bs mX10_thrown) Q))) : WP mL_law 1563 [some (.ref 1000000), some (.ref 0), some (.ref 498), some (.ref 540), some (.int x4), some (.int x5), d6] [.int e0] (G X I L F) c s Q := by
  refine w_istore rL_law_1563 rfl trivial ?_
  refine w_aload_n rL_law_1565 rfl ?_
  refine w_invokevirtual rL_law_1566 rfl rfl rfl (Nat.le_of_ble_eq_true rfl) ⟨trivial, trivial⟩ (G_is (by decide) rfl) q.1.1 q.1.2 ?_
  replace q := q.2
  exact q
theorem k_L_law_1569 {X : Nat × (Nat → Int32)} {I : Nat → Nat → Int32} {L : Nat → Nat → Int64} {F : Nat → Nat → UInt32} {Q : AQ} {c s : Nat} {x4 : Int32} {x5 : Int32} {x6 : Int32} {e0 : Int32} (q : (e0 = x5 → (x5 = 0 → ((lg_cmp (L 540 0) (Int32.toInt64 x6)) = 0 → WP mL_law 23 [some (.ref 1000000), some (.ref 0), some (.ref 498), some (.ref 540), some (.int (x4 + 5)), some (.int x5), some (.int x6)] [] (G X I L F) c s Q) ∧ (¬ (lg_cmp (L 540 0) (Int32.toInt64 x6)) = 0 → Q (.inl (some (.int 0))) (G X I L F))) ∧ (¬ x5 = 0 → WP mL_law 23 [some (.ref 1000000), some (.ref 0), some (.ref 498), some (.ref 540), some (.int (x4 + 5)), some (.int x5), some (.int x6)] [] (G X I L F) c s Q)) ∧ (¬ e0 = x5 → Q (.inl (some (.int 0))) (G X I L F))) : WP mL_law 1569 [some (.ref 1000000), some (.ref 0), some (.ref 498), some (.ref 540), some (.int x4), some (.int x5), some (.int x6)] [.int e0] (G X I L F) c s Q := by
  refine w_iload rL_law_1569 rfl ?_
  refine w_icmpeq rL_law_1571 (fun h1571 => ?_) (fun h1571 => ?_)
  · replace q := q.1 h1571
    refine w_iload rL_law_1576 rfl ?_
    refine w_ifne rL_law_1578 (fun h1578 => ?_) (fun h1578 => ?_)
    · replace q := q.2 h1578
      refine w_goto rL_law_1593 ?_
      refine w_iinc rL_law_1721 rfl rfl trivial ?_
      refine w_goto rL_law_1724 ?_
      exact q
    · replace q := q.1 h1578
      refine w_aload_n rL_law_1581 rfl ?_
      refine w_iconst rL_law_1582 (x := 0) (by decide) ?_
      refine xl_laload rL_law_1583 (G_at (by decide) rfl rfl (by unfold vp_in; decide)) (i := 0) (by decide) ?_
      refine w_iload rL_law_1584 rfl ?_
      refine w_i2l rL_law_1586 ?_
      refine w_lcmp rL_law_1587 ?_
      refine w_ifeq rL_law_1588 (fun h1588 => ?_) (fun h1588 => ?_)
      · replace q := q.1 h1588
        refine w_goto rL_law_1593 ?_
        refine w_iinc rL_law_1721 rfl rfl trivial ?_
        refine w_goto rL_law_1724 ?_
        exact q
      · replace q := q.2 h1588
        refine w_iconst rL_law_1591 (x := 0) (by decide) ?_
        refine w_ireturn rL_law_1592 (Or.inl rfl) ?_
        exact q
  · replace q := q.2 h1571
    refine w_iconst rL_law_1574 (x := 0) (by decide) ?_
    refine w_ireturn rL_law_1575 (Or.inl rfl) ?_
    exact q
theorem k_L_law_1607 {X : Nat × (Nat → Int32)} {I : Nat → Nat → Int32} {L : Nat → Nat → Int64} {F : Nat → Nat → UInt32} {Q : AQ} {c s : Nat} {x4 : Int32} {d5 : Option Value} {d6 : Option Value} {e0 : Int32} (q : vp_in (x4 + 1) X.1 ∧ ((c + am_bc mX10_saved ≤ am_bc mL_law ∧ s + am_bs mX10_saved ≤ am_bs mL_law) ∧ (WP mX10_saved 0 (am_ent 2 [.ref 498, .int (X.2 (Int32.toNatClampNeg (x4 + 1)))]) [] (G X I L F) 0 0 (am_kq mL_law 1616 [some (.ref 1000000), some (.ref 0), some (.ref 498), some (.ref 540), some (.int x4), some (.int e0), d6] [] (c + am_bc mX10_saved) (s + am_bs mX10_saved) Q)))) : WP mL_law 1607 [some (.ref 1000000), some (.ref 0), some (.ref 498), some (.ref 540), some (.int x4), d5, d6] [.int e0] (G X I L F) c s Q := by
  refine w_istore rL_law_1607 rfl trivial ?_
  refine w_aload_n rL_law_1609 rfl ?_
  refine w_aload_n rL_law_1610 rfl ?_
  refine w_iload rL_law_1611 rfl ?_
  refine w_iconst rL_law_1613 (x := 1) (by decide) ?_
  refine w_iadd rL_law_1614 ?_
  refine w_ialoadX rL_law_1615 rfl q.1 ?_
  replace q := q.2
  refine w_invokevirtual rL_law_1616 rfl rfl rfl (Nat.le_of_ble_eq_true rfl) ⟨trivial, trivial, trivial⟩ (G_is (by decide) rfl) q.1.1 q.1.2 ?_
  replace q := q.2
  exact q
theorem k_L_law_1619 {X : Nat × (Nat → Int32)} {I : Nat → Nat → Int32} {L : Nat → Nat → Int64} {F : Nat → Nat → UInt32} {Q : AQ} {c s : Nat} {x4 : Int32} {x5 : Int32} {d6 : Option Value} {e0 : Int32} (q : (c + am_bc mX10_thrown ≤ am_bc mL_law ∧ s + am_bs mX10_thrown ≤ am_bs mL_law) ∧ (WP mX10_thrown 0 (am_ent 1 [.ref 498]) [] (G X I L F) 0 0 (am_kq mL_law 1622 [some (.ref 1000000), some (.ref 0), some (.ref 498), some (.ref 540), some (.int x4), some (.int x5), some (.int e0)] [] (c + am_bc mX10_thrown) (s + am_bs mX10_thrown) Q))) : WP mL_law 1619 [some (.ref 1000000), some (.ref 0), some (.ref 498), some (.ref 540), some (.int x4), some (.int x5), d6] [.int e0] (G X I L F) c s Q := by
  refine w_istore rL_law_1619 rfl trivial ?_
  refine w_aload_n rL_law_1621 rfl ?_
  refine w_invokevirtual rL_law_1622 rfl rfl rfl (Nat.le_of_ble_eq_true rfl) ⟨trivial, trivial⟩ (G_is (by decide) rfl) q.1.1 q.1.2 ?_
  replace q := q.2
  exact q
theorem k_L_law_1625 {X : Nat × (Nat → Int32)} {I : Nat → Nat → Int32} {L : Nat → Nat → Int64} {F : Nat → Nat → UInt32} {Q : AQ} {c s : Nat} {x4 : Int32} {x5 : Int32} {x6 : Int32} {e0 : Int32} (q : (e0 = x5 → (x5 = 0 → ((lg_cmp (L 540 0) (Int32.toInt64 x6)) = 0 → WP mL_law 23 [some (.ref 1000000), some (.ref 0), some (.ref 498), some (.ref 540), some (.int (x4 + 5)), some (.int x5), some (.int x6)] [] (G X I L F) c s Q) ∧ (¬ (lg_cmp (L 540 0) (Int32.toInt64 x6)) = 0 → Q (.inl (some (.int 0))) (G X I L F))) ∧ (¬ x5 = 0 → WP mL_law 23 [some (.ref 1000000), some (.ref 0), some (.ref 498), some (.ref 540), some (.int (x4 + 5)), some (.int x5), some (.int x6)] [] (G X I L F) c s Q)) ∧ (¬ e0 = x5 → Q (.inl (some (.int 0))) (G X I L F))) : WP mL_law 1625 [some (.ref 1000000), some (.ref 0), some (.ref 498), some (.ref 540), some (.int x4), some (.int x5), some (.int x6)] [.int e0] (G X I L F) c s Q := by
  refine w_iload rL_law_1625 rfl ?_
  refine w_icmpeq rL_law_1627 (fun h1627 => ?_) (fun h1627 => ?_)
  · replace q := q.1 h1627
    refine w_iload rL_law_1632 rfl ?_
    refine w_ifne rL_law_1634 (fun h1634 => ?_) (fun h1634 => ?_)
    · replace q := q.2 h1634
      refine w_goto rL_law_1649 ?_
      refine w_iinc rL_law_1721 rfl rfl trivial ?_
      refine w_goto rL_law_1724 ?_
      exact q
    · replace q := q.1 h1634
      refine w_aload_n rL_law_1637 rfl ?_
      refine w_iconst rL_law_1638 (x := 0) (by decide) ?_
      refine xl_laload rL_law_1639 (G_at (by decide) rfl rfl (by unfold vp_in; decide)) (i := 0) (by decide) ?_
      refine w_iload rL_law_1640 rfl ?_
      refine w_i2l rL_law_1642 ?_
      refine w_lcmp rL_law_1643 ?_
      refine w_ifeq rL_law_1644 (fun h1644 => ?_) (fun h1644 => ?_)
      · replace q := q.1 h1644
        refine w_goto rL_law_1649 ?_
        refine w_iinc rL_law_1721 rfl rfl trivial ?_
        refine w_goto rL_law_1724 ?_
        exact q
      · replace q := q.2 h1644
        refine w_iconst rL_law_1647 (x := 0) (by decide) ?_
        refine w_ireturn rL_law_1648 (Or.inl rfl) ?_
        exact q
  · replace q := q.2 h1627
    refine w_iconst rL_law_1630 (x := 0) (by decide) ?_
    refine w_ireturn rL_law_1631 (Or.inl rfl) ?_
    exact q
theorem k_L_law_1656 {X : Nat × (Nat → Int32)} {I : Nat → Nat → Int32} {L : Nat → Nat → Int64} {F : Nat → Nat → UInt32} {Q : AQ} {c s : Nat} {x4 : Int32} {d5 : Option Value} {d6 : Option Value} {e0 : Int32} (q : (c + am_bc mX10_alarm ≤ am_bc mL_law ∧ s + am_bs mX10_alarm ≤ am_bs mL_law) ∧ (WP mX10_alarm 0 (am_ent 6 [.ref 498]) [] (G X I L F) 0 0 (am_kq mL_law 1657 [some (.ref 1000000), some (.ref 0), some (.ref 498), some (.ref 540), some (.int x4), d5, d6] [.int e0] (c + am_bc mX10_alarm) (s + am_bs mX10_alarm) Q))) : WP mL_law 1656 [some (.ref 1000000), some (.ref 0), some (.ref 498), some (.ref 540), some (.int x4), d5, d6] [.int e0] (G X I L F) c s Q := by
  refine w_aload_n rL_law_1656 rfl ?_
  refine w_invokevirtual rL_law_1657 rfl rfl rfl (Nat.le_of_ble_eq_true rfl) ⟨trivial, trivial⟩ (G_is (by decide) rfl) q.1.1 q.1.2 ?_
  replace q := q.2
  exact q
theorem k_L_law_1660 {X : Nat × (Nat → Int32)} {I : Nat → Nat → Int32} {L : Nat → Nat → Int64} {F : Nat → Nat → UInt32} {Q : AQ} {c s : Nat} {x4 : Int32} {d5 : Option Value} {d6 : Option Value} {e0 : Int32} {e1 : Int32} (q : (e0 = e1 → WP mL_law 23 [some (.ref 1000000), some (.ref 0), some (.ref 498), some (.ref 540), some (.int (x4 + 5)), d5, d6] [] (G X I L F) c s Q) ∧ (¬ e0 = e1 → Q (.inl (some (.int 0))) (G X I L F))) : WP mL_law 1660 [some (.ref 1000000), some (.ref 0), some (.ref 498), some (.ref 540), some (.int x4), d5, d6] [.int e1, .int e0] (G X I L F) c s Q := by
  refine w_icmpeq rL_law_1660 (fun h1660 => ?_) (fun h1660 => ?_)
  · replace q := q.1 h1660
    refine w_iinc rL_law_1721 rfl rfl trivial ?_
    refine w_goto rL_law_1724 ?_
    exact q
  · replace q := q.2 h1660
    refine w_iconst rL_law_1663 (x := 0) (by decide) ?_
    refine w_ireturn rL_law_1664 (Or.inl rfl) ?_
    exact q
theorem k_L_law_1676 {X : Nat × (Nat → Int32)} {I : Nat → Nat → Int32} {L : Nat → Nat → Int64} {F : Nat → Nat → UInt32} {Q : AQ} {c s : Nat} {x4 : Int32} {d5 : Option Value} {d6 : Option Value} {e0 : Int32} (q : vp_in (x4 + 1) X.1 ∧ ((c + am_bc mX10_pass ≤ am_bc mL_law ∧ s + am_bs mX10_pass ≤ am_bs mL_law) ∧ (WP mX10_pass 0 (am_ent 4 [.ref 498, .int (X.2 (Int32.toNatClampNeg (x4 + 1)))]) [] (G X I L F) 0 0 (am_kq mL_law 1685 [some (.ref 1000000), some (.ref 0), some (.ref 498), some (.ref 540), some (.int x4), some (.int e0), d6] [] (c + am_bc mX10_pass) (s + am_bs mX10_pass) Q)))) : WP mL_law 1676 [some (.ref 1000000), some (.ref 0), some (.ref 498), some (.ref 540), some (.int x4), d5, d6] [.int e0] (G X I L F) c s Q := by
  refine w_istore rL_law_1676 rfl trivial ?_
  refine w_aload_n rL_law_1678 rfl ?_
  refine w_aload_n rL_law_1679 rfl ?_
  refine w_iload rL_law_1680 rfl ?_
  refine w_iconst rL_law_1682 (x := 1) (by decide) ?_
  refine w_iadd rL_law_1683 ?_
  refine w_ialoadX rL_law_1684 rfl q.1 ?_
  replace q := q.2
  refine w_invokevirtual rL_law_1685 rfl rfl rfl (Nat.le_of_ble_eq_true rfl) ⟨trivial, trivial, trivial⟩ (G_is (by decide) rfl) q.1.1 q.1.2 ?_
  replace q := q.2
  exact q
theorem k_L_law_1688 {X : Nat × (Nat → Int32)} {I : Nat → Nat → Int32} {L : Nat → Nat → Int64} {F : Nat → Nat → UInt32} {Q : AQ} {c s : Nat} {x4 : Int32} {x5 : Int32} {d6 : Option Value} {e0 : Int32} (q : (c + am_bc mX10_thrown ≤ am_bc mL_law ∧ s + am_bs mX10_thrown ≤ am_bs mL_law) ∧ (WP mX10_thrown 0 (am_ent 1 [.ref 498]) [] (G X I L F) 0 0 (am_kq mL_law 1691 [some (.ref 1000000), some (.ref 0), some (.ref 498), some (.ref 540), some (.int x4), some (.int x5), some (.int e0)] [] (c + am_bc mX10_thrown) (s + am_bs mX10_thrown) Q))) : WP mL_law 1688 [some (.ref 1000000), some (.ref 0), some (.ref 498), some (.ref 540), some (.int x4), some (.int x5), d6] [.int e0] (G X I L F) c s Q := by
  refine w_istore rL_law_1688 rfl trivial ?_
  refine w_aload_n rL_law_1690 rfl ?_
  refine w_invokevirtual rL_law_1691 rfl rfl rfl (Nat.le_of_ble_eq_true rfl) ⟨trivial, trivial⟩ (G_is (by decide) rfl) q.1.1 q.1.2 ?_
  replace q := q.2
  exact q
theorem k_L_law_1694 {X : Nat × (Nat → Int32)} {I : Nat → Nat → Int32} {L : Nat → Nat → Int64} {F : Nat → Nat → UInt32} {Q : AQ} {c s : Nat} {x4 : Int32} {x5 : Int32} {x6 : Int32} {e0 : Int32} (q : (e0 = x5 → (x5 = 0 → ((lg_cmp (L 540 0) (Int32.toInt64 x6)) = 0 → WP mL_law 23 [some (.ref 1000000), some (.ref 0), some (.ref 498), some (.ref 540), some (.int (x4 + 5)), some (.int x5), some (.int x6)] [] (G X I L F) c s Q) ∧ (¬ (lg_cmp (L 540 0) (Int32.toInt64 x6)) = 0 → Q (.inl (some (.int 0))) (G X I L F))) ∧ (¬ x5 = 0 → WP mL_law 23 [some (.ref 1000000), some (.ref 0), some (.ref 498), some (.ref 540), some (.int (x4 + 5)), some (.int x5), some (.int x6)] [] (G X I L F) c s Q)) ∧ (¬ e0 = x5 → Q (.inl (some (.int 0))) (G X I L F))) : WP mL_law 1694 [some (.ref 1000000), some (.ref 0), some (.ref 498), some (.ref 540), some (.int x4), some (.int x5), some (.int x6)] [.int e0] (G X I L F) c s Q := by
  refine w_iload rL_law_1694 rfl ?_
  refine w_icmpeq rL_law_1696 (fun h1696 => ?_) (fun h1696 => ?_)
  · replace q := q.1 h1696
    refine w_iload rL_law_1701 rfl ?_
    refine w_ifne rL_law_1703 (fun h1703 => ?_) (fun h1703 => ?_)
    · replace q := q.2 h1703
      refine w_goto rL_law_1718 ?_
      refine w_iinc rL_law_1721 rfl rfl trivial ?_
      refine w_goto rL_law_1724 ?_
      exact q
    · replace q := q.1 h1703
      refine w_aload_n rL_law_1706 rfl ?_
      refine w_iconst rL_law_1707 (x := 0) (by decide) ?_
      refine xl_laload rL_law_1708 (G_at (by decide) rfl rfl (by unfold vp_in; decide)) (i := 0) (by decide) ?_
      refine w_iload rL_law_1709 rfl ?_
      refine w_i2l rL_law_1711 ?_
      refine w_lcmp rL_law_1712 ?_
      refine w_ifeq rL_law_1713 (fun h1713 => ?_) (fun h1713 => ?_)
      · replace q := q.1 h1713
        refine w_goto rL_law_1718 ?_
        refine w_iinc rL_law_1721 rfl rfl trivial ?_
        refine w_goto rL_law_1724 ?_
        exact q
      · replace q := q.2 h1713
        refine w_iconst rL_law_1716 (x := 0) (by decide) ?_
        refine w_ireturn rL_law_1717 (Or.inl rfl) ?_
        exact q
  · replace q := q.2 h1696
    refine w_iconst rL_law_1699 (x := 0) (by decide) ?_
    refine w_ireturn rL_law_1700 (Or.inl rfl) ?_
    exact q
