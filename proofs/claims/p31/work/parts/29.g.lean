/-! own: the fixed heap: what the rules ask of it -/
theorem am_vin {x : Int32} {n : Nat} (hn : n < 2 ^ 31) (h0 : ¬ x < 0) (h1 : x < nI n) : vp_in x n := by
  obtain ⟨j, hj, rfl⟩ := nI_of h0
  exact nI_in ((nI_ltI hj hn).mp h1) hn
section GG
variable {X : Nat × (Nat × (Nat → Int32))} {I : Nat → Nat → Int32} {L : Nat → Nat → Int64} {F : Nat → Nat → UInt32}
theorem X_lt {o : Nat} (h : o < 502) : o < 502 + X.1 := Nat.lt_of_lt_of_le h (Nat.le_add_right _ _)
theorem G_isX {o a : Nat} (h1 : o < 502 + X.1) (h2 : gK o = a) : am_is (G X I L F) o a := ⟨h1, (mN_at h1).trans h2⟩
theorem G_is {o a : Nat} (h1 : o < 502) (h2 : gK o = a) : am_is (G X I L F) o a := G_isX (X_lt h1) h2
theorem G_atX {o a n : Nat} {j : Int32} (h1 : o < 502 + X.1) (h2 : gK o = a) (h3 : gN o = n) (h4 : vp_in j n) : am_at (G X I L F) o a j := ⟨h1, (mN_at h1).trans h2, by show vp_in j (mN (502 + X.1) gN o); rw [mN_at h1, h3]; exact h4⟩
theorem G_at {o a n : Nat} {j : Int32} (h1 : o < 502) (h2 : gK o = a) (h3 : gN o = n) (h4 : vp_in j n) : am_at (G X I L F) o a j := G_atX (X_lt h1) h2 h3 h4
theorem G_kd {o a : Nat} (z : am_is (G X I L F) o a) : gK o = a := (mN_at z.1).symm.trans z.2
theorem mI_u {n o j : Nat} {v : Int32} (h : o < n) : am_u (mI n I) o j v = mI n (am_u I o j v) := by
  funext a b
  unfold am_u
  by_cases e : a = o ∧ b = j
  · rw [if_pos e, mI_at (by rw [e.1]; exact h), if_pos e]
  · rw [if_neg e]
    by_cases l : a < n
    · rw [mI_at l, mI_at l, if_neg e]
    · rw [mI_big l, mI_big l]
theorem mL_u {o j : Nat} {v : Int64} (h : o < 498) : am_u (mL L) o j v = mL (am_u L o j v) := by
  funext a b
  unfold am_u
  by_cases e : a = o ∧ b = j
  · rw [if_pos e, mL_at (by rw [e.1]; exact h), if_pos e]
  · rw [if_neg e]
    by_cases l : a < 498
    · rw [mL_at l, mL_at l, if_neg e]
    · rw [mL_big l, mL_big l]
theorem mF_u {o j : Nat} {v : UInt32} (h : o < 498) : am_u (mF F) o j v = mF (am_u F o j v) := by
  funext a b
  unfold am_u
  by_cases e : a = o ∧ b = j
  · rw [if_pos e, mF_at (by rw [e.1]; exact h), if_pos e]
  · rw [if_neg e]
    by_cases l : a < 498
    · rw [mF_at l, mF_at l, if_neg e]
    · rw [mF_big l, mF_big l]
theorem G_sI {o j : Nat} {v : Int32} (h : o < 502 + X.1) : sI (G X I L F) o j v = G X (am_u I o j v) L F := by
  show (502 + X.1, mN (502 + X.1) gK, mN (502 + X.1) gN, am_u (mI (502 + X.1) I) o j v, mL L, mF F, gR, X.2) = _
  rw [mI_u h]
  rfl
theorem G_sL {o j : Nat} {v : Int64} (h : o < 498) : sL (G X I L F) o j v = G X I (am_u L o j v) F := by
  show (502 + X.1, mN (502 + X.1) gK, mN (502 + X.1) gN, mI (502 + X.1) I, am_u (mL L) o j v, mF F, gR, X.2) = _
  rw [mL_u h]
  rfl
theorem G_sF {o j : Nat} {v : UInt32} (h : o < 498) : sF (G X I L F) o j v = G X I L (am_u F o j v) := by
  show (502 + X.1, mN (502 + X.1) gK, mN (502 + X.1) gN, mI (502 + X.1) I, mL L, am_u (mF F) o j v, gR, X.2) = _
  rw [mF_u h]
  rfl
/-- what is said of cells that there are not is free -/
theorem G_eq {J : Nat → Nat → Int32} {H : Nat → Nat → UInt32} (h : ∀ o k, o < 502 + X.1 → J o k = I o k) (hf : ∀ o k, o < 498 → H o k = F o k) : G X I L F = G X J L H := by
  have e1 : mI (502 + X.1) I = mI (502 + X.1) J := by
    funext o k
    by_cases l : o < 502 + X.1
    · rw [mI_at l, mI_at l, h o k l]
    · rw [mI_big l, mI_big l]
  have e2 : mF F = mF H := by
    funext o k
    by_cases l : o < 498
    · rw [mF_at l, mF_at l, hf o k l]
    · rw [mF_big l, mF_big l]
  unfold G
  rw [e1, e2]
theorem G_len {k pc b n : Nat} {Lc : List (Option Value)} {r : List Value} {c s o : Nat} {Q : AQ} (hr : am_rw k pc = some (.arraylength, 1, 0, b)) (h1 : o < 502) (h2 : Nat.ble 20 (gK o) = true) (h3 : gN o = n) (q : WP k (pc + 1) Lc (.int (nI n) :: r) (G X I L F) c s Q) : WP k pc Lc (.ref o :: r) (G X I L F) c s Q := w_len hr ⟨X_lt h1, by show 20 ≤ mN (502 + X.1) gK o; rw [mN_at (X_lt h1)]; exact Nat.le_of_ble_eq_true h2⟩ (by show WP k (pc + 1) Lc (.int (nI (mN (502 + X.1) gN o)) :: r) (G X I L F) c s Q; rw [mN_at (X_lt h1), h3]; exact q)
/-- a row of the text's making -/
def isT (X : Nat × (Nat × (Nat → Int32))) (o n : Nat) : Prop := o < 502 + X.1 ∧ 502 ≤ o ∧ gN o = n
theorem G_att {o n : Nat} {j : Int32} (h : isT X o n) (v : vp_in j n) : am_at (G X I L F) o 20 j := G_atX h.1 (gK_hi (Nat.le_trans (by decide) h.2.1)) h.2.2 v
theorem mN_up {n : Nat} {f : Nat → Nat} : va_up (mN n f) n (f n) = mN (n + 1) f := by
  funext o
  by_cases e : o = n
  · subst e
    rw [va_up_self, mN_at (Nat.lt_succ_self o)]
  · rw [va_up_ne _ _ e]
    by_cases l : o < n
    · rw [mN_at l, mN_at (Nat.lt_succ_of_lt l)]
    · rw [mN_big l, mN_big (fun z => l (Nat.lt_of_le_of_ne (Nat.le_of_lt_succ z) e))]
theorem mI_z {n : Nat} : am_z (mI n I) n 0 = mI (n + 1) (am_z I n 0) := by
  funext o j
  unfold am_z
  by_cases e : o = n
  · subst e
    rw [if_pos rfl, mI_at (Nat.lt_succ_self o), if_pos rfl]
  · rw [if_neg e]
    by_cases l : o < n
    · rw [mI_at l, mI_at (Nat.lt_succ_of_lt l), if_neg e]
    · rw [mI_big l, mI_big (fun z => l (Nat.lt_of_le_of_ne (Nat.le_of_lt_succ z) e))]
theorem G_new {n : Nat} (hn : gN (502 + X.1) = n) : hnew (G X I L F) 20 n = G (X.1 + 1, X.2) (am_z I (502 + X.1) 0) L F := by
  have e1 : va_up (mN (502 + X.1) gK) (502 + X.1) 20 = mN (502 + (X.1 + 1)) gK := by
    have := mN_up (n := 502 + X.1) (f := gK)
    rw [gK_hi (o := 502 + X.1) (by omega)] at this
    exact this
  have e2 : va_up (mN (502 + X.1) gN) (502 + X.1) n = mN (502 + (X.1 + 1)) gN := by
    have := mN_up (n := 502 + X.1) (f := gN)
    rw [hn] at this
    exact this
  have e3 : am_z (mL L) (502 + X.1) 0 = mL L := by
    funext o j
    unfold am_z
    by_cases e : o = 502 + X.1
    · rw [if_pos e, mL_big (by omega)]
    · rw [if_neg e]
  have e4 : am_z (mF F) (502 + X.1) 0 = mF F := by
    funext o j
    unfold am_z
    by_cases e : o = 502 + X.1
    · rw [if_pos e, mF_big (by omega)]
    · rw [if_neg e]
  have e5 : am_z gR (502 + X.1) none = gR := by
    funext o j
    unfold am_z
    by_cases e : o = 502 + X.1
    · rw [if_pos e, gR_hi (by omega)]
    · rw [if_neg e]
  show (502 + X.1 + 1, va_up (mN (502 + X.1) gK) (502 + X.1) 20, va_up (mN (502 + X.1) gN) (502 + X.1) n, am_z (mI (502 + X.1) I) (502 + X.1) 0, am_z (mL L) (502 + X.1) 0, am_z (mF F) (502 + X.1) 0, am_z gR (502 + X.1) none, X.2) = _
  rw [e1, e2, mI_z, e3, e4, e5]
  rfl
end GG
