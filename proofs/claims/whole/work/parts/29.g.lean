/-! own: the fixed heap: what the rules ask of it -/
theorem am_vin {x : Int32} {n : Nat} (hn : n < 2 ^ 31) (h0 : ¬ x < 0) (h1 : x < nI n) : vp_in x n := by
  obtain ⟨j, hj, rfl⟩ := nI_of h0
  exact nI_in ((nI_ltI hj hn).mp h1) hn
section GG
variable {X : Nat × (Nat → Int32)} {I : Nat → Nat → Int32} {L : Nat → Nat → Int64} {F : Nat → Nat → UInt32}
theorem G_is {o a : Nat} (h1 : o < 541) (h2 : gK o = a) : am_is (G X I L F) o a := ⟨h1, h2⟩
theorem G_at {o a n : Nat} {j : Int32} (h1 : o < 541) (h2 : gK o = a) (h3 : gN o = n) (h4 : vp_in j n) : am_at (G X I L F) o a j := ⟨h1, h2, by rw [← h3] at h4; exact h4⟩
theorem G_sI {o j : Nat} {v : Int32} : sI (G X I L F) o j v = G X (am_u I o j v) L F := rfl
theorem G_sL {o j : Nat} {v : Int64} : sL (G X I L F) o j v = G X I (am_u L o j v) F := rfl
theorem G_sF {o j : Nat} {v : UInt32} : sF (G X I L F) o j v = G X I L (am_u F o j v) := rfl
theorem G_len {k pc b n : Nat} {Lc : List (Option Value)} {r : List Value} {c s o : Nat} {Q : AQ} (hr : am_rw k pc = some (.arraylength, 1, 0, b)) (h1 : o < 541) (h2 : Nat.ble 20 (gK o) = true) (h3 : gN o = n) (q : WP k (pc + 1) Lc (.int (nI n) :: r) (G X I L F) c s Q) : WP k pc Lc (.ref o :: r) (G X I L F) c s Q := w_len hr ⟨h1, Nat.le_of_ble_eq_true h2⟩ (by show WP k (pc + 1) Lc (.int (nI (gN o)) :: r) (G X I L F) c s Q; rw [h3]; exact q)
end GG
