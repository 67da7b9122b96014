/-! own: the fixed heap: what the rules ask of it -/
theorem am_vin {x : Int32} {n : Nat} (hn : n < 2 ^ 31) (h0 : ¬ x < 0) (h1 : x < nI n) : vp_in x n := by
  obtain ⟨j, hj, rfl⟩ := nI_of h0
  exact nI_in ((nI_ltI hj hn).mp h1) hn
section GG
variable {X : Nat × (Nat → Int32)} {I : Nat → Nat → Int32} {L : Nat → Nat → Int64} {F : Nat → Nat → UInt32}
theorem G_is {o a : Nat} (h1 : o < 541) (h2 : gK o = a) : am_is (G X I L F) o a := ⟨h1, h2⟩
theorem G_at {o a n : Nat} {j : Int32} (h1 : o < 541) (h2 : gK o = a) (h3 : gN o = n) (h4 : vp_in j n) : am_at (G X I L F) o a j := ⟨h1, h2, by rw [← h3] at h4; exact h4⟩
theorem G_sI {o j : Nat} {v : Int32} : sI (G X I L F) o j v = G X (am_u I o j v) L F := rfl
theorem G_sL {o j : Nat} {v : Int64} : sL (G X I L F) o j v = G X I (am_u L o j v) F := rfl
theorem G_sF {o j : Nat} {v : UInt32} : sF (G X I L F) o j v = G X I L (am_u F o j v) := rfl
theorem G_len {k pc b n : Nat} {Lc : List (Option Value)} {r : List Value} {c s o : Nat} {Q : AQ} (hr : am_rw k pc = some (.arraylength, 1, 0, b)) (h1 : o < 541) (h2 : Nat.ble 20 (gK o) = true) (h3 : gN o = n) (q : WP k (pc + 1) Lc (.int (nI n) :: r) (G X I L F) c s Q) : WP k pc Lc (.ref o :: r) (G X I L F) c s Q := w_len hr ⟨h1, Nat.le_of_ble_eq_true h2⟩ (by show WP k (pc + 1) Lc (.int (nI (gN o)) :: r) (G X I L F) c s Q; rw [h3]; exact q)
theorem s_X9_isModel {m : Int32} {Q : AQ} (q : ∀ x : Int32, (0 ≤ m ∧ m < 6 → x = 1) → (¬ (0 ≤ m ∧ m < 6) → x = 0) → Q (.inl (some (.int x))) (G X I L F)) : WP mX9_isModel 0 (am_ent 1 [.int m]) [] (G X I L F) 0 0 Q := by
  refine w_iload_n rX9_isModel_0 rfl ?_
  refine w_iflt rX9_isModel_1 (fun h0 => ?_) (fun h0 => ?_)
  · refine w_iconst rX9_isModel_14 (x := 0) (by decide) ?_
    refine w_ireturn rX9_isModel_15 (Or.inl rfl) ?_
    exact q 0 (fun z => absurd h0 (Int32.not_lt.mpr z.1)) (fun _ => rfl)
  · refine w_iload_n rX9_isModel_4 rfl ?_
    refine w_bipush rX9_isModel_5 (x := 6) (by decide) ?_
    refine w_icmpge rX9_isModel_7 (fun h1 => ?_) (fun h1 => ?_)
    · refine w_iconst rX9_isModel_14 (x := 0) (by decide) ?_
      refine w_ireturn rX9_isModel_15 (Or.inl rfl) ?_
      exact q 0 (fun z => absurd z.2 (Int32.not_lt.mpr h1)) (fun _ => rfl)
    · refine w_iconst rX9_isModel_10 (x := 1) (by decide) ?_
      refine w_goto rX9_isModel_11 ?_
      refine w_ireturn rX9_isModel_15 (Or.inr rfl) ?_
      exact q 1 (fun _ => rfl) (fun z => absurd ⟨Int32.not_lt.mp h0, Int32.not_le.mp h1⟩ z)
theorem s_X6_latestOf {m : Int32} {Q : AQ} (q : ∀ x : Int32, (0 ≤ m ∧ m < 6 → x = I 14 m.toNatClampNeg) → (¬ (0 ≤ m ∧ m < 6) → x = -1) → Q (.inl (some (.int x))) (G X I L F)) : WP mX6_latestOf 0 (am_ent 2 [.ref 9, .int m]) [] (G X I L F) 0 0 Q := by
  refine w_iload_n rX6_latestOf_0 rfl ?_
  refine w_iflt rX6_latestOf_1 (fun h0 => ?_) (fun h0 => ?_)
  · refine w_iconst rX6_latestOf_22 (x := -1) (by decide) ?_
    refine w_ireturn rX6_latestOf_23 trivial ?_
    exact q (-1) (fun z => absurd h0 (Int32.not_lt.mpr z.1)) (fun _ => rfl)
  · refine w_iload_n rX6_latestOf_4 rfl ?_
    refine w_aload_n rX6_latestOf_5 rfl ?_
    refine w_getR rX6_latestOf_6 rfl rfl (G_is (by decide) rfl) (x := 14) rfl ?_
    refine G_len rX6_latestOf_9 (by decide) rfl (n := 6) rfl ?_
    refine w_icmpge rX6_latestOf_10 (fun h1 => ?_) (fun h1 => ?_)
    · refine w_iconst rX6_latestOf_22 (x := -1) (by decide) ?_
      refine w_ireturn rX6_latestOf_23 trivial ?_
      exact q (-1) (fun z => absurd z.2 (Int32.not_lt.mpr h1)) (fun _ => rfl)
    · refine w_aload_n rX6_latestOf_13 rfl ?_
      refine w_getR rX6_latestOf_14 rfl rfl (G_is (by decide) rfl) (x := 14) rfl ?_
      refine w_iload_n rX6_latestOf_17 rfl ?_
      have h2 : m < 6 := Int32.not_le.mp h1
      have h3 : vp_in m 6 := am_vin (by decide) h0 h2
      refine w_iaload rX6_latestOf_18 (G_at (by decide) rfl rfl h3) ?_
      refine w_goto rX6_latestOf_19 ?_
      refine w_ireturn rX6_latestOf_23 trivial ?_
      exact q _ (fun _ => rfl) (fun z => absurd ⟨Int32.not_lt.mp h0, h2⟩ z)
theorem s_X9_latest {m : Int32} {Q : AQ} (q1 : 0 ≤ m ∧ m < 6 → Q (.inl (some (.int (I 14 m.toNatClampNeg)))) (G X I L F)) (q2 : ¬ (0 ≤ m ∧ m < 6) → Q (.inr 0) (G X I L F)) : WP mX9_latest 0 (am_ent 2 [.ref 0, .int m]) [] (G X I L F) 0 0 Q := by
  refine w_iload_n rX9_latest_0 rfl ?_
  refine w_invokestatic rX9_latest_1 rfl rfl rfl (by decide) ⟨trivial, trivial⟩ trivial (by decide) (by decide) ?_
  refine s_X9_isModel (fun x e1 e2 => ?_)
  show WP mX9_latest 4 _ _ _ _ _ _
  refine w_ifne rX9_latest_4 (fun h4 => ?_) (fun h4 => ?_)
  · have hz : 0 ≤ m ∧ m < 6 := Classical.byContradiction fun z => h4 (e2 z)
    refine w_aload_n rX9_latest_17 rfl ?_
    refine w_getR rX9_latest_18 rfl rfl (G_is (by decide) rfl) (x := 9) rfl ?_
    refine w_iload_n rX9_latest_21 rfl ?_
    refine w_invokevirtual rX9_latest_22 rfl rfl rfl (by decide) ⟨trivial, trivial, trivial⟩ (G_is (by decide) rfl) (by decide) (by decide) ?_
    refine s_X6_latestOf (fun y f1 _ => ?_)
    show WP mX9_latest 25 _ _ _ _ _ _
    refine w_ireturn rX9_latest_25 trivial ?_
    rw [f1 hz]
    exact q1 hz
  · have hz : ¬ (0 ≤ m ∧ m < 6) := fun z => absurd (e1 z) (by rw [h4]; decide)
    exact w_throw (by rfl) (by decide) (by decide) (by decide) (q2 hz)
end GG
