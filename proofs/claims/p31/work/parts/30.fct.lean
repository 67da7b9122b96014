/-! own: facts of the layout for symbolic cells, and what the rules ask of them -/
set_option maxRecDepth 100000
set_option maxRecDepth 100000 in
theorem g_ver {v : Nat} (h : v < 60) : gR 13 v = some (19 + 6 * v) ∧ gK (19 + 6 * v) = 8 ∧ gR (19 + 6 * v) 0 = some (20 + 6 * v) ∧ gR (19 + 6 * v) 1 = some (23 + 6 * v) ∧ gR (19 + 6 * v) 2 = some (24 + 6 * v) ∧ gK (20 + 6 * v) = 2 ∧ gR (20 + 6 * v) 0 = some (21 + 6 * v) ∧ gR (20 + 6 * v) 1 = some (22 + 6 * v) ∧ gK (21 + 6 * v) = 20 ∧ gN (21 + 6 * v) = 40 ∧ gK (22 + 6 * v) = 20 ∧ gN (22 + 6 * v) = 40 ∧ gK (23 + 6 * v) = 20 ∧ gN (23 + 6 * v) = 6 ∧ gK (24 + 6 * v) = 22 ∧ gN (24 + 6 * v) = 201 := by
  have h2 : ∀ v, v < 60 → gR 13 v = some (19 + 6 * v) ∧ gK (19 + 6 * v) = 8 ∧ gR (19 + 6 * v) 0 = some (20 + 6 * v) ∧ gR (19 + 6 * v) 1 = some (23 + 6 * v) ∧ gR (19 + 6 * v) 2 = some (24 + 6 * v) ∧ gK (20 + 6 * v) = 2 ∧ gR (20 + 6 * v) 0 = some (21 + 6 * v) ∧ gR (20 + 6 * v) 1 = some (22 + 6 * v) ∧ gK (21 + 6 * v) = 20 ∧ gN (21 + 6 * v) = 40 ∧ gK (22 + 6 * v) = 20 ∧ gN (22 + 6 * v) = 40 ∧ gK (23 + 6 * v) = 20 ∧ gN (23 + 6 * v) = 6 ∧ gK (24 + 6 * v) = 22 ∧ gN (24 + 6 * v) = 201 := by decide +kernel
  exact h2 v h
set_option maxRecDepth 100000 in
theorem g_run {r : Nat} (h : r < 40) : gR 379 r = some (383 + r) ∧ gK (383 + r) = 5 := by
  have h2 : ∀ r, r < 40 → gR 379 r = some (383 + r) ∧ gK (383 + r) = 5 := by decide +kernel
  exact h2 r h
set_option maxRecDepth 100000 in
theorem g_dam {d : Nat} (h : d < 3) : gR 381 d = some (423 + 5 * d) ∧ gK (423 + 5 * d) = 0 ∧ gR (423 + 5 * d) 0 = some (424 + 5 * d) ∧ gR (423 + 5 * d) 1 = some (427 + 5 * d) ∧ gK (424 + 5 * d) = 2 ∧ gR (424 + 5 * d) 0 = some (425 + 5 * d) ∧ gR (424 + 5 * d) 1 = some (426 + 5 * d) ∧ gK (425 + 5 * d) = 20 ∧ gN (425 + 5 * d) = 40 ∧ gK (426 + 5 * d) = 20 ∧ gN (426 + 5 * d) = 40 ∧ gK (427 + 5 * d) = 22 ∧ gN (427 + 5 * d) = 201 := by
  have h2 : ∀ d, d < 3 → gR 381 d = some (423 + 5 * d) ∧ gK (423 + 5 * d) = 0 ∧ gR (423 + 5 * d) 0 = some (424 + 5 * d) ∧ gR (423 + 5 * d) 1 = some (427 + 5 * d) ∧ gK (424 + 5 * d) = 2 ∧ gR (424 + 5 * d) 0 = some (425 + 5 * d) ∧ gR (424 + 5 * d) 1 = some (426 + 5 * d) ∧ gK (425 + 5 * d) = 20 ∧ gN (425 + 5 * d) = 40 ∧ gK (426 + 5 * d) = 20 ∧ gN (426 + 5 * d) = 40 ∧ gK (427 + 5 * d) = 22 ∧ gN (427 + 5 * d) = 201 := by decide +kernel
  exact h2 d h
set_option maxRecDepth 100000 in
theorem g_sir {s : Nat} (h : s < 60) : gR 382 s = some (438 + s) ∧ gK (438 + s) = 7 := by
  have h2 : ∀ s, s < 60 → gR 382 s = some (438 + s) ∧ gK (438 + s) = 7 := by decide +kernel
  exact h2 s h

theorem au_ne {α : Type} {f : Nat → Nat → α} {o k a b : Nat} {v : α} (h : ¬ (a = o ∧ b = k)) : am_u f o k v a b = f a b := if_neg h
theorem vp_lt {j : Int32} {n : Nat} (h : vp_in j n) : j.toNatClampNeg < n := Nat.lt_of_not_le (fun z => h (Or.inr z))
theorem vi_b {j m : Int32} {n : Nat} (hn : n < 2 ^ 31) (hm : nI n = m) (h0 : ¬ j < 0) (h1 : ¬ m ≤ j) : vp_in j n := am_vin hn h0 (by rw [hm]; exact Int32.not_le.mp h1)
theorem vi_c {j m : Int32} {n : Nat} (hn : n < 2 ^ 31) (hm : (nI n).toInt = m.toInt + 1) (h0 : ¬ j < 0) (h1 : ¬ m < j) : vp_in j n := am_vin hn h0 (by rw [Int32.lt_iff_toInt_lt, hm]; have h2 := Int32.not_lt.mp h1; rw [Int32.le_iff_toInt_le] at h2; omega)
theorem b01_ite {c : Prop} [Decidable c] {a b : Int32} (h1 : a = 0 ∨ a = 1) (h2 : b = 0 ∨ b = 1) : (if c then a else b) = 0 ∨ (if c then a else b) = 1 := by
  by_cases z : c
  · rw [if_pos z]; exact h1
  · rw [if_neg z]; exact h2
def isK (o c : Nat) : Prop := o < 502 ∧ gK o = c
def isA (o kd n : Nat) : Prop := o < 502 ∧ gK o = kd ∧ gN o = n
def isFor (o : Nat) : Prop := isK o 2 ∧ gR o 0 = some (o + 1) ∧ gR o 1 = some (o + 2) ∧ isA (o + 1) 20 40 ∧ isA (o + 2) 20 40
def isVer (o : Nat) : Prop := isK o 8 ∧ gR o 0 = some (o + 1) ∧ gR o 1 = some (o + 4) ∧ gR o 2 = some (o + 5) ∧ isFor (o + 1) ∧ isA (o + 4) 20 6 ∧ isA (o + 5) 22 201
def isRun (o : Nat) : Prop := isK o 5
def isSir (o : Nat) : Prop := isK o 7
def isDam (o : Nat) : Prop := isK o 0 ∧ gR o 0 = some (o + 1) ∧ gR o 1 = some (o + 4) ∧ isFor (o + 1) ∧ isA (o + 4) 22 201
theorem isFor_4 : isFor 4 := ⟨⟨by decide, rfl⟩, rfl, rfl, ⟨by decide, rfl, rfl⟩, ⟨by decide, rfl, rfl⟩⟩
theorem isRun_380 : isRun 380 := ⟨by decide, rfl⟩
theorem gi_verN {v : Nat} (h : v < 60) : isVer (19 + 6 * v) := by
  have e1 : 19 + 6 * v + 1 = 20 + 6 * v := by omega
  have e2 : 19 + 6 * v + 4 = 23 + 6 * v := by omega
  have e3 : 19 + 6 * v + 5 = 24 + 6 * v := by omega
  have e4 : 20 + 6 * v + 1 = 21 + 6 * v := by omega
  have e5 : 20 + 6 * v + 2 = 22 + 6 * v := by omega
  obtain ⟨_, a1, a2, a3, a4, a5, a6, a7, a8, a9, b1, b2, b3, b4, b5, b6⟩ := g_ver h
  unfold isVer isFor isK isA
  rw [e1, e2, e3, e4, e5]
  exact ⟨⟨by omega, a1⟩, a2, a3, a4, ⟨⟨by omega, a5⟩, a6, a7, ⟨by omega, a8, a9⟩, ⟨by omega, b1, b2⟩⟩, ⟨by omega, b3, b4⟩, ⟨by omega, b5, b6⟩⟩
theorem gi_damN {d : Nat} (h : d < 3) : isDam (423 + 5 * d) := by
  have e1 : 423 + 5 * d + 1 = 424 + 5 * d := by omega
  have e2 : 423 + 5 * d + 4 = 427 + 5 * d := by omega
  have e4 : 424 + 5 * d + 1 = 425 + 5 * d := by omega
  have e5 : 424 + 5 * d + 2 = 426 + 5 * d := by omega
  obtain ⟨_, a1, a2, a3, a4, a5, a6, a7, a8, a9, b1, b2, b3⟩ := g_dam h
  unfold isDam isFor isK isA
  rw [e1, e2, e4, e5]
  exact ⟨⟨by omega, a1⟩, a2, a3, ⟨⟨by omega, a4⟩, a5, a6, ⟨by omega, a7, a8⟩, ⟨by omega, a9, b1⟩⟩, ⟨by omega, b2, b3⟩⟩
theorem gi_runN {r : Nat} (h : r < 40) : isRun (383 + r) := ⟨by omega, (g_run h).2⟩
theorem gi_sirN {s : Nat} (h : s < 60) : isSir (438 + s) := ⟨by omega, (g_sir h).2⟩
theorem gi_ver {j : Int32} (h : vp_in j 60) : isVer (19 + 6 * Int32.toNatClampNeg j) := gi_verN (vp_lt h)
theorem gi_dam {j : Int32} (h : vp_in j 3) : isDam (423 + 5 * Int32.toNatClampNeg j) := gi_damN (vp_lt h)
theorem gi_run {j : Int32} (h : vp_in j 40) : isRun (383 + Int32.toNatClampNeg j) := gi_runN (vp_lt h)
theorem gi_sir {j : Int32} (h : vp_in j 60) : isSir (438 + Int32.toNatClampNeg j) := gi_sirN (vp_lt h)
theorem ga_ver {j : Int32} (h : vp_in j 60) : gR 13 (Int32.toNatClampNeg j) = some (19 + 6 * Int32.toNatClampNeg j) := (g_ver (vp_lt h)).1
theorem ga_dam {j : Int32} (h : vp_in j 3) : gR 381 (Int32.toNatClampNeg j) = some (423 + 5 * Int32.toNatClampNeg j) := (g_dam (vp_lt h)).1
theorem ga_run {j : Int32} (h : vp_in j 40) : gR 379 (Int32.toNatClampNeg j) = some (383 + Int32.toNatClampNeg j) := (g_run (vp_lt h)).1
theorem ga_sir {j : Int32} (h : vp_in j 60) : gR 382 (Int32.toNatClampNeg j) = some (438 + Int32.toNatClampNeg j) := (g_sir (vp_lt h)).1
theorem g_rai {g : Nat} (h : g < 3) : gR 15 g = some (16 + g) ∧ gK (16 + g) = 20 ∧ gN (16 + g) = 201 := by
  have h2 : ∀ g, g < 3 → gR 15 g = some (16 + g) ∧ gK (16 + g) = 20 ∧ gN (16 + g) = 201 := by decide +kernel
  exact h2 g h
theorem ga_rai {j : Int32} (h : vp_in j 3) : gR 15 (Int32.toNatClampNeg j) = some (16 + Int32.toNatClampNeg j) := (g_rai (vp_lt h)).1
theorem gi_rai {j : Int32} (h : vp_in j 3) : isA (16 + Int32.toNatClampNeg j) 20 201 := ⟨by have := vp_lt h; omega, (g_rai (vp_lt h)).2⟩
section GG2
variable {X : Nat × (Nat × (Nat → Int32))} {I : Nat → Nat → Int32} {L : Nat → Nat → Int64} {F : Nat → Nat → UInt32}
theorem G_isk {o c : Nat} (h : isK o c) : am_is (G X I L F) o c := G_is h.1 h.2
theorem G_atk {o kd n : Nat} {j : Int32} (h : isA o kd n) (v : vp_in j n) : am_at (G X I L F) o kd j := G_at h.1 h.2.1 h.2.2 v
theorem G_aa {o n : Nat} {j : Int32} (h1 : o < 502) (h2 : Nat.ble 30 (gK o) = true) (h3 : gN o = n) (v : vp_in j n) : o < hn (G X I L F) ∧ 30 ≤ hK (G X I L F) o ∧ vp_in j (hN (G X I L F) o) := ⟨X_lt h1, by show 30 ≤ mN (502 + X.1) gK o; rw [mN_at (X_lt h1)]; exact Nat.le_of_ble_eq_true h2, by show vp_in j (mN (502 + X.1) gN o); rw [mN_at (X_lt h1), h3]; exact v⟩
theorem G_lenc {k pc b n : Nat} {Lc : List (Option Value)} {r : List Value} {c s o : Nat} {Q : AQ} {x : Int32} (hr : am_rw k pc = some (.arraylength, 1, 0, b)) (h1 : o < 502) (h2 : Nat.ble 20 (gK o) = true) (h3 : gN o = n) (e : nI n = x) (q : WP k (pc + 1) Lc (.int x :: r) (G X I L F) c s Q) : WP k pc Lc (.ref o :: r) (G X I L F) c s Q := G_len hr h1 h2 h3 (by rw [e]; exact q)
theorem G_lenk {k pc b n kd : Nat} {Lc : List (Option Value)} {r : List Value} {c s o : Nat} {Q : AQ} {x : Int32} (hr : am_rw k pc = some (.arraylength, 1, 0, b)) (h : isA o kd n) (h2 : Nat.ble 20 kd = true) (e : nI n = x) (q : WP k (pc + 1) Lc (.int x :: r) (G X I L F) c s Q) : WP k pc Lc (.ref o :: r) (G X I L F) c s Q := G_len hr h.1 (by rw [h.2.1]; exact h2) h.2.2 (by rw [e]; exact q)
theorem x_getI {k pc a b : Nat} {Lc : List (Option Value)} {r : List Value} {c s : Nat} {Q : AQ} {n o : Nat} (hr : am_rw k pc = some (.getfield n, 3, a, b)) (ha : Nat.beq a 20 = false) (ht : am_ft a b = 0) (z : am_is (G X I L F) o a) (q : WP k (pc + 3) Lc (.int (I o b) :: r) (G X I L F) c s Q) : WP k pc Lc (.ref o :: r) (G X I L F) c s Q := w_getI hr ha ht z (by show WP k (pc + 3) Lc (.int (mI (502 + X.1) I o b) :: r) (G X I L F) c s Q; rw [mI_at (n := 502 + X.1) z.1]; exact q)
theorem x_putI {k pc a b : Nat} {Lc : List (Option Value)} {r : List Value} {c s : Nat} {Q : AQ} {n o : Nat} {x : Int32} (hr : am_rw k pc = some (.putfield n, 3, a, b)) (ht : am_ft a b = 0) (z : am_is (G X I L F) o a) (z2 : am_b01 (am_fz a b) x) (q : WP k (pc + 3) Lc r (G X (am_u I o b x) L F) c s Q) : WP k pc Lc (.int x :: .ref o :: r) (G X I L F) c s Q := w_putI hr ht z z2 (by rw [G_sI z.1]; exact q)
theorem ft_20 {a b t : Nat} (h : am_ft a b = t + 1) : a ≠ 20 := fun e => by
  rw [e, show am_ft 20 b = am_nt [] b 0 from rfl, am_nt_nil] at h
  cases h
theorem x_getL {k pc a b : Nat} {Lc : List (Option Value)} {r : List Value} {c s : Nat} {Q : AQ} {n o : Nat} (hr : am_rw k pc = some (.getfield n, 3, a, b)) (ha : Nat.beq a 20 = false) (ht : am_ft a b = 1) (z : am_is (G X I L F) o a) (q : WP k (pc + 3) Lc (.long (L o b) :: r) (G X I L F) c s Q) : WP k pc Lc (.ref o :: r) (G X I L F) c s Q := w_getL hr ha ht z (by show WP k (pc + 3) Lc (.long (mL L o b) :: r) (G X I L F) c s Q; rw [mL_at (gK_lo (G_kd z) (ft_20 ht))]; exact q)
theorem x_putL {k pc a b : Nat} {Lc : List (Option Value)} {r : List Value} {c s : Nat} {Q : AQ} {n o : Nat} {x : Int64} (hr : am_rw k pc = some (.putfield n, 3, a, b)) (ht : am_ft a b = 1) (z : am_is (G X I L F) o a) (q : WP k (pc + 3) Lc r (G X I (am_u L o b x) F) c s Q) : WP k pc Lc (.long x :: .ref o :: r) (G X I L F) c s Q := w_putL hr ht z (by rw [G_sL (gK_lo (G_kd z) (ft_20 ht))]; exact q)
theorem x_getF {k pc a b : Nat} {Lc : List (Option Value)} {r : List Value} {c s : Nat} {Q : AQ} {n o : Nat} (hr : am_rw k pc = some (.getfield n, 3, a, b)) (ha : Nat.beq a 20 = false) (ht : am_ft a b = 2) (z : am_is (G X I L F) o a) (q : WP k (pc + 3) Lc (.float (F o b) :: r) (G X I L F) c s Q) : WP k pc Lc (.ref o :: r) (G X I L F) c s Q := w_getF hr ha ht z (by show WP k (pc + 3) Lc (.float (mF F o b) :: r) (G X I L F) c s Q; rw [mF_at (gK_lo (G_kd z) (ft_20 ht))]; exact q)
theorem x_putF {k pc a b : Nat} {Lc : List (Option Value)} {r : List Value} {c s : Nat} {Q : AQ} {n o : Nat} {x : UInt32} (hr : am_rw k pc = some (.putfield n, 3, a, b)) (ht : am_ft a b = 2) (z : am_is (G X I L F) o a) (q : WP k (pc + 3) Lc r (G X I L (am_u F o b x)) c s Q) : WP k pc Lc (.float x :: .ref o :: r) (G X I L F) c s Q := w_putF hr ht z (by rw [G_sF (gK_lo (G_kd z) (ft_20 ht))]; exact q)
theorem x_iaload {k pc b : Nat} {Lc : List (Option Value)} {r : List Value} {c s : Nat} {Q : AQ} {o : Nat} {j : Int32} (hr : am_rw k pc = some (.iaload, 1, 0, b)) (z : am_at (G X I L F) o 20 j) (q : WP k (pc + 1) Lc (.int (I o j.toNatClampNeg) :: r) (G X I L F) c s Q) : WP k pc Lc (.int j :: .ref o :: r) (G X I L F) c s Q := w_iaload hr z (by show WP k (pc + 1) Lc (.int (mI (502 + X.1) I o j.toNatClampNeg) :: r) (G X I L F) c s Q; rw [mI_at (n := 502 + X.1) z.1]; exact q)
theorem x_faload {k pc a b : Nat} {Lc : List (Option Value)} {r : List Value} {c s : Nat} {Q : AQ} {o : Nat} {j : Int32} (hr : am_rw k pc = some (.faload, 1, a, b)) (z : am_at (G X I L F) o 22 j) (q : WP k (pc + 1) Lc (.float (F o j.toNatClampNeg) :: r) (G X I L F) c s Q) : WP k pc Lc (.int j :: .ref o :: r) (G X I L F) c s Q := w_faload hr z (by show WP k (pc + 1) Lc (.float (mF F o j.toNatClampNeg) :: r) (G X I L F) c s Q; rw [mF_at (gK_lo (G_kd ⟨z.1, z.2.1⟩) (by decide))]; exact q)
theorem x_caload {k pc a b : Nat} {Lc : List (Option Value)} {r : List Value} {c s : Nat} {Q : AQ} {o : Nat} {j : Int32} (hr : am_rw k pc = some (.caload, 1, a, b)) (z : am_at (G X I L F) o 24 j) (q : WP k (pc + 1) Lc (.int (I o j.toNatClampNeg) :: r) (G X I L F) c s Q) : WP k pc Lc (.int j :: .ref o :: r) (G X I L F) c s Q := w_caload hr z (by show WP k (pc + 1) Lc (.int (mI (502 + X.1) I o j.toNatClampNeg) :: r) (G X I L F) c s Q; rw [mI_at (n := 502 + X.1) z.1]; exact q)
theorem x_iastore {k pc a b : Nat} {Lc : List (Option Value)} {r : List Value} {c s : Nat} {Q : AQ} {o : Nat} {j : Int32} {x : Int32} (hr : am_rw k pc = some (.iastore, 1, a, b)) (z : am_at (G X I L F) o 20 j) (q : WP k (pc + 1) Lc r (G X (am_u I o j.toNatClampNeg x) L F) c s Q) : WP k pc Lc (.int x :: .int j :: .ref o :: r) (G X I L F) c s Q := w_iastore hr z (by rw [G_sI z.1]; exact q)
theorem x_fastore {k pc a b : Nat} {Lc : List (Option Value)} {r : List Value} {c s : Nat} {Q : AQ} {o : Nat} {j : Int32} {x : UInt32} (hr : am_rw k pc = some (.fastore, 1, a, b)) (z : am_at (G X I L F) o 22 j) (q : WP k (pc + 1) Lc r (G X I L (am_u F o j.toNatClampNeg x)) c s Q) : WP k pc Lc (.float x :: .int j :: .ref o :: r) (G X I L F) c s Q := w_fastore hr z (by rw [G_sF (gK_lo (G_kd ⟨z.1, z.2.1⟩) (by decide))]; exact q)
theorem x_castore {k pc a b : Nat} {Lc : List (Option Value)} {r : List Value} {c s : Nat} {Q : AQ} {o : Nat} {j : Int32} {x : Int32} (hr : am_rw k pc = some (.castore, 1, a, b)) (z : am_at (G X I L F) o 24 j) (q : WP k (pc + 1) Lc r (G X (am_u I o j.toNatClampNeg (vp_nar .char x)) L F) c s Q) : WP k pc Lc (.int x :: .int j :: .ref o :: r) (G X I L F) c s Q := w_castore hr z (by rw [G_sI z.1]; exact q)
theorem xl_iaload {k pc b : Nat} {Lc : List (Option Value)} {r : List Value} {c s : Nat} {Q : AQ} {o : Nat} {j : Int32} {i : Nat} (hr : am_rw k pc = some (.iaload, 1, 0, b)) (z : am_at (G X I L F) o 20 j) (e : j.toNatClampNeg = i) (q : WP k (pc + 1) Lc (.int (I o i) :: r) (G X I L F) c s Q) : WP k pc Lc (.int j :: .ref o :: r) (G X I L F) c s Q := by
  subst e
  exact x_iaload hr z q
theorem xl_faload {k pc a b : Nat} {Lc : List (Option Value)} {r : List Value} {c s : Nat} {Q : AQ} {o : Nat} {j : Int32} {i : Nat} (hr : am_rw k pc = some (.faload, 1, a, b)) (z : am_at (G X I L F) o 22 j) (e : j.toNatClampNeg = i) (q : WP k (pc + 1) Lc (.float (F o i) :: r) (G X I L F) c s Q) : WP k pc Lc (.int j :: .ref o :: r) (G X I L F) c s Q := by
  subst e
  exact x_faload hr z q
theorem xl_caload {k pc a b : Nat} {Lc : List (Option Value)} {r : List Value} {c s : Nat} {Q : AQ} {o : Nat} {j : Int32} {i : Nat} (hr : am_rw k pc = some (.caload, 1, a, b)) (z : am_at (G X I L F) o 24 j) (e : j.toNatClampNeg = i) (q : WP k (pc + 1) Lc (.int (I o i) :: r) (G X I L F) c s Q) : WP k pc Lc (.int j :: .ref o :: r) (G X I L F) c s Q := by
  subst e
  exact x_caload hr z q
theorem xl_iastore {k pc a b : Nat} {Lc : List (Option Value)} {r : List Value} {c s : Nat} {Q : AQ} {o : Nat} {j : Int32} {x : Int32} {i : Nat} (hr : am_rw k pc = some (.iastore, 1, a, b)) (z : am_at (G X I L F) o 20 j) (e : j.toNatClampNeg = i) (q : WP k (pc + 1) Lc r (G X (am_u I o i x) L F) c s Q) : WP k pc Lc (.int x :: .int j :: .ref o :: r) (G X I L F) c s Q := by
  subst e
  exact x_iastore hr z q
theorem xl_fastore {k pc a b : Nat} {Lc : List (Option Value)} {r : List Value} {c s : Nat} {Q : AQ} {o : Nat} {j : Int32} {x : UInt32} {i : Nat} (hr : am_rw k pc = some (.fastore, 1, a, b)) (z : am_at (G X I L F) o 22 j) (e : j.toNatClampNeg = i) (q : WP k (pc + 1) Lc r (G X I L (am_u F o i x)) c s Q) : WP k pc Lc (.float x :: .int j :: .ref o :: r) (G X I L F) c s Q := by
  subst e
  exact x_fastore hr z q
theorem xl_castore {k pc a b : Nat} {Lc : List (Option Value)} {r : List Value} {c s : Nat} {Q : AQ} {o : Nat} {j : Int32} {x : Int32} {i : Nat} (hr : am_rw k pc = some (.castore, 1, a, b)) (z : am_at (G X I L F) o 24 j) (e : j.toNatClampNeg = i) (q : WP k (pc + 1) Lc r (G X (am_u I o i (vp_nar .char x)) L F) c s Q) : WP k pc Lc (.int x :: .int j :: .ref o :: r) (G X I L F) c s Q := by
  subst e
  exact x_castore hr z q
theorem x_newI {k pc b n : Nat} {t : ArrayType} {Lc : List (Option Value)} {r : List Value} {c s : Nat} {Q : AQ} {x : Int32} (hr : am_rw k pc = some (.newarray t, 2, 20, b)) (e : x.toNatClampNeg = n) (z1 : ¬ x < 0) (z2 : n ≤ 20000) (hX : X.1 ≤ 400000) (h1 : c + 1 ≤ am_bc k) (h2 : s + n ≤ am_bs k) (hn0 : gN (502 + X.1) = n) (q : WP k (pc + 2) Lc (.ref (502 + X.1) :: r) (G (X.1 + 1, X.2) (am_z I (502 + X.1) 0) L F) (c + 1) (s + n) Q) : WP k pc Lc (.int x :: r) (G X I L F) c s Q := by
  refine w_newarray (n := n) hr e z1 z2 ⟨by show 502 + X.1 + 4 ≤ 1000000; omega, h1, h2⟩ ?_
  rw [G_new hn0]
  exact q
theorem x_ialoadX {k pc b : Nat} {Lc : List (Option Value)} {r : List Value} {c s : Nat} {Q : AQ} {j : Int32} (hr : am_rw k pc = some (.iaload, 1, 1, b)) (z2 : vp_in j X.2.1) (q : WP k (pc + 1) Lc (.int (X.2.2 j.toNatClampNeg) :: r) (G X I L F) c s Q) : WP k pc Lc (.int j :: .ref 1000000 :: r) (G X I L F) c s Q := w_ialoadX hr z2 q
theorem x_lenX {k pc b : Nat} {Lc : List (Option Value)} {r : List Value} {c s : Nat} {Q : AQ} (hr : am_rw k pc = some (.arraylength, 1, 1, b)) (q : WP k (pc + 1) Lc (.int (nI X.2.1) :: r) (G X I L F) c s Q) : WP k pc Lc (.ref 1000000 :: r) (G X I L F) c s Q := w_lenX hr q
end GG2
