/-! own: calls that ask, both sides -/
set_option maxRecDepth 100000
def plA (e : Nat) : Nat := if e = 0 then 1 else 0
def plB (e : Nat) : Nat := if e = 1 then 1 else if e = 2 then 2 else 0
def plC (e : Nat) : Nat := if e < 3 then e + 1 else 0
def plD (e : Nat) : Nat := if e = 0 then 1 else if e = 2 then 2 else 0
def plE (e : Nat) : Nat := if e = 0 then 1 else if e = 1 then 2 else 0
section RG
variable {I : Nat → Nat → Int32} {x : Int32} {c rc sc t n : Nat}
theorem m9_1 (i : InN x 6) : f_X9_isModel x = 1 := by
  obtain ⟨k, hk, e⟩ := i
  rw [e]; exact isM9 hk
theorem m9_0 (i : ¬ InN x 6) : f_X9_isModel x = 0 := by
  unfold f_X9_isModel
  by_cases a : x < 0
  · rw [if_pos a]
  · rw [if_neg a]
    by_cases b : 6 ≤ x
    · rw [if_pos b]
    · exact absurd ((inN_lt (n := 6) (by decide)).mp ⟨a, Int32.not_le.mp b⟩) i
theorem d9_1 (i : InN x 3) : f_X9_isDam x = 1 := by
  obtain ⟨k, hk, e⟩ := i
  rw [e]; exact isDm hk
theorem d9_0 (i : ¬ InN x 3) : f_X9_isDam x = 0 := by
  unfold f_X9_isDam
  by_cases a : x < 0
  · rw [if_pos a]
  · rw [if_neg a]
    by_cases b : 3 ≤ x
    · rw [if_pos b]
    · exact absurd ((inN_lt (n := 3) (by decide)).mp ⟨a, Int32.not_le.mp b⟩) i
theorem tri_0 {m : Nat} (hn : n < 2147483648) (i : ¬ InN x n) : (if x < 0 then (0 : Int32) else (if nI n ≤ x then 0 else (if nI m ≤ x then 0 else 1))) = 0 := by
  by_cases a : x < 0
  · rw [if_pos a]
  · rw [if_neg a]
    by_cases b : nI n ≤ x
    · rw [if_pos b]
    · exact absurd ((inN_lt hn).mp ⟨a, Int32.not_le.mp b⟩) i
theorem tri_1 {m : Nat} (hm : m < 2147483648) (h : n ≤ m) (i : InN x n) : (if x < 0 then (0 : Int32) else (if nI n ≤ x then 0 else (if nI m ≤ x then 0 else 1))) = 1 := by
  obtain ⟨k, hk, e⟩ := i
  subst e
  rw [if_neg (nI_pos (by omega)), if_neg (fun z => by have := (nI_leI (by omega) (by omega)).mp z; omega), if_neg (fun z => by have := (nI_leI (by omega) (by omega)).mp z; omega)]
theorem r9_1 (hr : rc ≤ 40) (e : I 0 7 = nI rc) (i : InN x rc) : f_X9_isRun x I = 1 := by
  unfold f_X9_isRun; rw [e]; exact tri_1 (m := 40) (by decide) hr i
theorem r9_0 (hr : rc ≤ 40) (e : I 0 7 = nI rc) (i : ¬ InN x rc) : f_X9_isRun x I = 0 := by
  unfold f_X9_isRun; rw [e]; exact tri_0 (m := 40) (by omega) i
theorem v9_1 (hr : c ≤ 60) (e : I 9 4 = nI c) (i : InN x c) : f_X6_has x I = 1 := by
  unfold f_X6_has; rw [e]; exact tri_1 (m := 60) (by decide) hr i
theorem v9_0 (hr : c ≤ 60) (e : I 9 4 = nI c) (i : ¬ InN x c) : f_X6_has x I = 0 := by
  unfold f_X6_has; rw [e]; exact tri_0 (m := 60) (by omega) i
theorem s9_1 (hr : sc ≤ 60) (e : I 0 8 = nI sc) (i : InN x sc) : f_X9_isSiren x I = 1 := by
  unfold f_X9_isSiren; rw [e]; exact tri_1 (m := 60) (by decide) hr i
theorem s9_0 (hr : sc ≤ 60) (e : I 0 8 = nI sc) (i : ¬ InN x sc) : f_X9_isSiren x I = 0 := by
  unfold f_X9_isSiren; rw [e]; exact tri_0 (m := 60) (by omega) i
theorem n10 : ¬ (1 : Int32) = 0 := by decide
end RG
section OA
variable {X : Nat × (Nat × (Nat → Int32))} {I J : Nat → Nat → Int32} {L M : Nat → Nat → Int64} {F H : Nat → Nat → UInt32} {N : Nat} {p0 p1 p2 p3 : Int32}
theorem Inv.thr2 {y : Int32} {z : Int64} (iv : Inv N I L F) : Inv (N + 1) (am_u I 1000498 0 y) (am_u L 1000540 0 z) F := (iv.thr.l540).up (by omega)
theorem Inv.thr1 {y : Int32} (iv : Inv N I L F) : Inv (N + 1) (am_u I 1000498 0 y) L F := iv.thr.up (by omega)
end OA
