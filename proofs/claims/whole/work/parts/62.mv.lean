/-! own: the model's values and what waits -/
set_option maxRecDepth 100000
def kl (k : Int32) : Int32 := if k = 12 then 40 else if k = 6 then 126 else if k = 7 then 120 else if k = 8 then 110 else if k = 9 then 105 else if k = 10 then 116 else if k = 11 then 97 else if k = 2 then 43 else if k = 3 then 45 else if k = 4 then 42 else 47
def StkG (F : Nat → Nat → UInt32) : List UInt32 → Prop
  | [] => True
  | x :: l => F 538 l.length = x ∧ StkG F l
def MV (I : Nat → Nat → Int32) (F : Nat → Nat → UInt32) (s : List UInt32) : Prop := I 498 48 = nI s.length ∧ StkG F s ∧ kvs s ∧ s.length ≤ 40
def MW (I : Nat → Nat → Int32) (w : List Int32) : Prop := I 498 50 = nI w.length ∧ Stk1 I 539 w ∧ w.length ≤ 40
def MIF (I J : Nat → Nat → Int32) : Prop := ∀ o k, ¬ (o = 498 ∧ (k = 48 ∨ k = 50)) → o ≠ 539 → J o k = I o k
def MFF (F H : Nat → Nat → UInt32) : Prop := ∀ o k, o ≠ 538 → H o k = F o k
section MV
variable {I J K : Nat → Nat → Int32} {F H H2 : Nat → Nat → UInt32} {s : List UInt32} {w : List Int32} {x : UInt32} {v : Int32}
theorem MIF.refl : MIF I I := fun _ _ _ _ => rfl
theorem MFF.refl : MFF F F := fun _ _ _ => rfl
theorem MIF.trans (h1 : MIF I J) (h2 : MIF J K) : MIF I K := fun o k n m => (h2 o k n m).trans (h1 o k n m)
theorem MFF.trans (h1 : MFF F H) (h2 : MFF H H2) : MFF F H2 := fun o k n => (h2 o k n).trans (h1 o k n)
theorem MIF_48 : MIF I (am_u I 498 48 v) := fun o k n _ => if_neg (fun z => n ⟨z.1, Or.inl z.2⟩)
theorem MIF_50 : MIF I (am_u I 498 50 v) := fun o k n _ => if_neg (fun z => n ⟨z.1, Or.inr z.2⟩)
theorem MIF_539 {j : Nat} : MIF I (am_u I 539 j v) := fun o k _ m => am_u_ne (Or.inl m)
theorem MFF_u {j : Nat} : MFF F (am_u F 538 j x) := fun o k m => am_u_ne (Or.inl m)
theorem StkG_ge : ∀ {l : List UInt32} {j : Nat}, l.length ≤ j → StkG F l → StkG (am_u F 538 j x) l
  | [], _, _, _ => trivial
  | y :: l, j, h, ⟨h1, h2⟩ => by
    simp only [List.length_cons] at h
    exact ⟨by rw [am_u_ne (by omega)]; exact h1, StkG_ge (by omega) h2⟩
theorem Stk1_ne {o j : Nat} {l : List Int32} (h : o ≠ 539) (z : Stk1 I 539 l) : Stk1 (am_u I o j v) 539 l := Stk1_fr (fun k _ => am_u_ne (Or.inl (Ne.symm h))) z
theorem mpop_ok (z : MV I F (x :: s)) : p_X10_pops I ∧ f_X10_pops I F = x ∧ MV (fI_X10_pops I) F s ∧ MIF I (fI_X10_pops I) := by
  obtain ⟨h1, h2, h3, h4⟩ := z
  simp only [List.length_cons] at h1 h4
  have e : nI (s.length + 1) - 1 = nI s.length := nI_pred s.length
  unfold p_X10_pops f_X10_pops fI_X10_pops
  rw [h1, e, nI_clamp (by omega)]
  exact ⟨⟨nI_in (by omega) (by decide), trivial⟩, h2.1, ⟨am_u_eq, h2.2, h3.2, by omega⟩, MIF_48⟩
theorem mpop_W (z : MW I w) : MW (fI_X10_pops I) w := by
  obtain ⟨h1, h2, h3⟩ := z
  unfold fI_X10_pops
  exact ⟨by rw [am_u_ne (by decide)]; exact h1, Stk1_ne (by decide) h2, h3⟩
theorem mkept {x : UInt32} (hx : nn x) : f_X10_kept x = kp x := by
  have a1 : nn 1315859240 := nn_lit (by decide)
  have a2 : nn 3463342888 := nn_lit (by decide)
  have b1 : fk 1315859240 = 1315859240 := by decide
  have b2 : fk 3463342888 = -1315859240 := by decide
  unfold kp f_X10_kept
  by_cases c1 : 1315859240 < fk x
  · rw [if_pos c1, if_neg (fun n => by rw [fc_le hx a1, b1] at n; omega)]
  · rw [if_neg c1, if_pos (by rw [fc_le hx a1, b1]; omega)]
    by_cases c2 : fk x < -1315859240
    · rw [if_pos c2, if_neg (fun n => by rw [fc_ge hx a2, b2] at n; omega)]
    · rw [if_neg c2, if_pos (by rw [fc_ge hx a2, b2]; omega)]
      by_cases c3 : fk x = 0
      · rw [if_pos c3, if_pos (by rw [fc_eq hx nn_0, fk_zero]; exact c3)]
      · rw [if_neg c3, if_neg (by rw [fc_eq hx nn_0, fk_zero]; exact c3)]
theorem mput_ok (z : MV I F s) (hl : s.length < 40) (hx : nn x) : p_X10_puts x I ∧ MV (fI_X10_puts x I) (fF_X10_puts x I F) (kp x :: s) ∧ MIF I (fI_X10_puts x I) ∧ MFF F (fF_X10_puts x I F) := by
  obtain ⟨h1, h2, h3, h4⟩ := z
  unfold p_X10_puts fI_X10_puts fF_X10_puts
  rw [h1, nI_clamp (by omega), mkept hx, nI_1]
  exact ⟨⟨nI_in (by omega) (by decide), trivial⟩, ⟨am_u_eq, ⟨am_u_eq, StkG_ge (Nat.le_refl _) h2⟩, ⟨kp_kv, h3⟩, by show s.length + 1 ≤ 40; omega⟩, MIF_48, MFF_u⟩
theorem mput_W (z : MW I w) : MW (fI_X10_puts x I) w := by
  obtain ⟨h1, h2, h3⟩ := z
  unfold fI_X10_puts
  exact ⟨by rw [am_u_ne (by decide)]; exact h1, Stk1_ne (by decide) h2, h3⟩
/-- what waits on top is taken away -/
theorem mtop (z : MW I (v :: w)) (zv : MV I F s) : vp_in ((I 498 50) - 1) 48 ∧ I 539 (Int32.toNatClampNeg ((I 498 50) - 1)) = v ∧ MW (am_u I 498 50 ((I 498 50) - 1)) w ∧ MV (am_u I 498 50 ((I 498 50) - 1)) F s := by
  obtain ⟨h1, h2, h3⟩ := z
  simp only [List.length_cons] at h1 h3
  have e : nI (w.length + 1) - 1 = nI w.length := nI_pred w.length
  rw [h1, e, nI_clamp (by omega)]
  refine ⟨nI_in (by omega) (by decide), h2.1, ⟨am_u_eq, Stk1_ne (by decide) h2.2, by omega⟩, ⟨?_, zv.2.1, zv.2.2.1, zv.2.2.2⟩⟩
  rw [am_u_ne (by decide)]; exact zv.1
theorem mwait_ok (z : MW I w) (hl : w.length < 40) : p_X10_waitsOn v I ∧ MW (fI_X10_waitsOn v I) (v :: w) ∧ MIF I (fI_X10_waitsOn v I) ∧ (∀ F s, MV I F s → MV (fI_X10_waitsOn v I) F s) := by
  obtain ⟨h1, h2, h3⟩ := z
  unfold p_X10_waitsOn fI_X10_waitsOn
  rw [h1, nI_clamp (by omega), nI_1]
  refine ⟨⟨nI_in (by omega) (by decide), trivial⟩, ⟨am_u_eq, ⟨?_, ?_⟩, by show w.length + 1 ≤ 40; omega⟩, MIF_539.trans MIF_50, fun F s zv => ⟨?_, zv.2⟩⟩
  · rw [am_u_ne (by omega), am_u_eq]
  · exact Stk1_ne (by decide) (Stk1_ge (Nat.le_refl _) h2)
  · rw [am_u_ne (by omega), am_u_ne (by omega)]; exact zv.1
def nk (k : Int32) : Nat := if k = 6 then 1 else if k = 10 then 1 else if k = 11 then 1 else if k = 9 then 3 else 2
def kinds : List Int32 := [2, 3, 4, 5, 6, 7, 8, 9, 10, 11]
def ApOk (I : Nat → Nat → Int32) (F : Nat → Nat → UInt32) (s2 : List UInt32) (w : List Int32) : Prop := p_X10_applies I F ∧ MV (fI_X10_applies I F) (fF_X10_applies I F) s2 ∧ MW (fI_X10_applies I F) w ∧ MIF I (fI_X10_applies I F) ∧ MFF F (fF_X10_applies I F)
theorem ap_2 (zw : MW I (43 :: w)) (zv : MV I F s) (hn : nk 2 ≤ s.length) : ApOk I F (eop 2 s) w := by
  obtain ⟨t1, t2, t3, t4⟩ := mtop zw zv
  have hn2 : 2 ≤ s.length := hn
  have l40 := zv.2.2.2
  match s, hn2, zv, t4, l40 with
  | x :: y :: s2, _, zv, t4, l40 =>
    simp only [List.length_cons] at l40
    have u1 := mpop_ok t4
    have v1 : kv x := zv.2.2.1.1
    have u2 := mpop_ok u1.2.2.1
    have v2 : kv y := zv.2.2.1.2.1
    unfold ApOk p_X10_applies fI_X10_applies fF_X10_applies
    rw [t2]
    simp only [if_neg (show ¬ (43 : Int32) = 126 by decide), if_neg (show ¬ (43 : Int32) = 116 by decide), if_neg (show ¬ (43 : Int32) = 97 by decide), if_neg (show ¬ (43 : Int32) = 105 by decide), if_neg (show ¬ (43 : Int32) = 45 by decide), if_neg (show ¬ (43 : Int32) = 42 by decide), if_neg (show ¬ (43 : Int32) = 120 by decide), if_neg (show ¬ (43 : Int32) = 110 by decide), if_pos (show (43 : Int32) = 43 from rfl)]
    rw [u2.2.1, u1.2.1]
    have nx : nn (FP.fadd y x) := nn_add v2.nn v1.fin
    have c := mput_ok u2.2.2.1 (by omega) nx
    have e : eop 2 (x :: y :: s2) = kp (FP.fadd y x) :: s2 := rfl
    rw [e]
    refine ⟨?_, c.2.1, mput_W (x := 0) (mpop_W (mpop_W t3)), MIF_50.trans ((u1.2.2.2.trans u2.2.2.2).trans c.2.2.1), c.2.2.2⟩
    exact ⟨t1, u1.1, ⟨(fun h => absurd h (by decide)), fun _ => ⟨(fun h => absurd h (by decide)), fun _ => ⟨(fun h => absurd h (by decide)), fun _ => ⟨(fun h => absurd h (by decide)), fun _ => ⟨u2.1, ⟨fun _ => ⟨nn_vf.mpr nx, trivial⟩, fun h => absurd h (by decide)⟩, c.1, trivial⟩⟩⟩⟩⟩, trivial⟩
theorem ap_3 (zw : MW I (45 :: w)) (zv : MV I F s) (hn : nk 3 ≤ s.length) : ApOk I F (eop 3 s) w := by
  obtain ⟨t1, t2, t3, t4⟩ := mtop zw zv
  have hn2 : 2 ≤ s.length := hn
  have l40 := zv.2.2.2
  match s, hn2, zv, t4, l40 with
  | x :: y :: s2, _, zv, t4, l40 =>
    simp only [List.length_cons] at l40
    have u1 := mpop_ok t4
    have v1 : kv x := zv.2.2.1.1
    have u2 := mpop_ok u1.2.2.1
    have v2 : kv y := zv.2.2.1.2.1
    unfold ApOk p_X10_applies fI_X10_applies fF_X10_applies
    rw [t2]
    simp only [if_neg (show ¬ (45 : Int32) = 126 by decide), if_neg (show ¬ (45 : Int32) = 116 by decide), if_neg (show ¬ (45 : Int32) = 97 by decide), if_neg (show ¬ (45 : Int32) = 105 by decide), if_neg (show ¬ (45 : Int32) = 43 by decide), if_neg (show ¬ (45 : Int32) = 42 by decide), if_neg (show ¬ (45 : Int32) = 120 by decide), if_neg (show ¬ (45 : Int32) = 110 by decide), if_pos (show (45 : Int32) = 45 from rfl)]
    rw [u2.2.1, u1.2.1]
    have nx : nn (FP.fsub y x) := nn_sub v2.nn v1.fin
    have c := mput_ok u2.2.2.1 (by omega) nx
    have e : eop 3 (x :: y :: s2) = kp (FP.fsub y x) :: s2 := rfl
    rw [e]
    refine ⟨?_, c.2.1, mput_W (x := 0) (mpop_W (mpop_W t3)), MIF_50.trans ((u1.2.2.2.trans u2.2.2.2).trans c.2.2.1), c.2.2.2⟩
    exact ⟨t1, u1.1, ⟨(fun h => absurd h (by decide)), fun _ => ⟨(fun h => absurd h (by decide)), fun _ => ⟨(fun h => absurd h (by decide)), fun _ => ⟨(fun h => absurd h (by decide)), fun _ => ⟨u2.1, ⟨(fun h => absurd h (by decide)), fun _ => ⟨fun _ => ⟨nn_vf.mpr nx, trivial⟩, fun h => absurd h (by decide)⟩⟩, c.1, trivial⟩⟩⟩⟩⟩, trivial⟩
theorem ap_4 (zw : MW I (42 :: w)) (zv : MV I F s) (hn : nk 4 ≤ s.length) : ApOk I F (eop 4 s) w := by
  obtain ⟨t1, t2, t3, t4⟩ := mtop zw zv
  have hn2 : 2 ≤ s.length := hn
  have l40 := zv.2.2.2
  match s, hn2, zv, t4, l40 with
  | x :: y :: s2, _, zv, t4, l40 =>
    simp only [List.length_cons] at l40
    have u1 := mpop_ok t4
    have v1 : kv x := zv.2.2.1.1
    have u2 := mpop_ok u1.2.2.1
    have v2 : kv y := zv.2.2.1.2.1
    unfold ApOk p_X10_applies fI_X10_applies fF_X10_applies
    rw [t2]
    simp only [if_neg (show ¬ (42 : Int32) = 126 by decide), if_neg (show ¬ (42 : Int32) = 116 by decide), if_neg (show ¬ (42 : Int32) = 97 by decide), if_neg (show ¬ (42 : Int32) = 105 by decide), if_neg (show ¬ (42 : Int32) = 43 by decide), if_neg (show ¬ (42 : Int32) = 45 by decide), if_neg (show ¬ (42 : Int32) = 120 by decide), if_neg (show ¬ (42 : Int32) = 110 by decide), if_pos (show (42 : Int32) = 42 from rfl)]
    rw [u2.2.1, u1.2.1]
    have nx : nn (FP.fmul y x) := nn_mul v2.fin v1.fin
    have c := mput_ok u2.2.2.1 (by omega) nx
    have e : eop 4 (x :: y :: s2) = kp (FP.fmul y x) :: s2 := rfl
    rw [e]
    refine ⟨?_, c.2.1, mput_W (x := 0) (mpop_W (mpop_W t3)), MIF_50.trans ((u1.2.2.2.trans u2.2.2.2).trans c.2.2.1), c.2.2.2⟩
    exact ⟨t1, u1.1, ⟨(fun h => absurd h (by decide)), fun _ => ⟨(fun h => absurd h (by decide)), fun _ => ⟨(fun h => absurd h (by decide)), fun _ => ⟨(fun h => absurd h (by decide)), fun _ => ⟨u2.1, ⟨(fun h => absurd h (by decide)), fun _ => ⟨(fun h => absurd h (by decide)), fun _ => ⟨fun _ => ⟨nn_vf.mpr nx, trivial⟩, fun h => absurd h (by decide)⟩⟩⟩, c.1, trivial⟩⟩⟩⟩⟩, trivial⟩
theorem ap_5 (zw : MW I (47 :: w)) (zv : MV I F s) (hn : nk 5 ≤ s.length) : ApOk I F (eop 5 s) w := by
  obtain ⟨t1, t2, t3, t4⟩ := mtop zw zv
  have hn2 : 2 ≤ s.length := hn
  have l40 := zv.2.2.2
  match s, hn2, zv, t4, l40 with
  | x :: y :: s2, _, zv, t4, l40 =>
    simp only [List.length_cons] at l40
    have u1 := mpop_ok t4
    have v1 : kv x := zv.2.2.1.1
    have u2 := mpop_ok u1.2.2.1
    have v2 : kv y := zv.2.2.1.2.1
    unfold ApOk p_X10_applies fI_X10_applies fF_X10_applies
    rw [t2]
    simp only [if_neg (show ¬ (47 : Int32) = 126 by decide), if_neg (show ¬ (47 : Int32) = 116 by decide), if_neg (show ¬ (47 : Int32) = 97 by decide), if_neg (show ¬ (47 : Int32) = 105 by decide), if_neg (show ¬ (47 : Int32) = 43 by decide), if_neg (show ¬ (47 : Int32) = 45 by decide), if_neg (show ¬ (47 : Int32) = 42 by decide), if_neg (show ¬ (47 : Int32) = 120 by decide), if_neg (show ¬ (47 : Int32) = 110 by decide)]
    rw [u2.2.1, u1.2.1]
    have g : Op.cmpValue (FP.fcmp x 0) .l = 0 ↔ fk x = 0 := by rw [fc_eq v1.nn nn_0, fk_zero]
    have nx : nn (if (Op.cmpValue (FP.fcmp x 0) .l) = 0 then 0 else FP.fdiv y x) := by
      split
      · exact nn_0
      · rename_i n; exact nn_div v2.nn v1.fin (fun h => n (g.mpr h))
    have c := mput_ok u2.2.2.1 (by omega) nx
    have e : eop 5 (x :: y :: s2) = kp (if (Op.cmpValue (FP.fcmp x 0) .l) = 0 then 0 else FP.fdiv y x) :: s2 := by
      show kp (if fk x = 0 then 0 else FP.fdiv y x) :: s2 = _
      by_cases h : fk x = 0
      · rw [if_pos h, if_pos (g.mpr h)]
      · rw [if_neg h, if_neg (fun n => h (g.mp n))]
    rw [e]
    refine ⟨?_, c.2.1, mput_W (x := 0) (mpop_W (mpop_W t3)), MIF_50.trans ((u1.2.2.2.trans u2.2.2.2).trans c.2.2.1), c.2.2.2⟩
    exact ⟨t1, u1.1, ⟨(fun h => absurd h (by decide)), fun _ => ⟨(fun h => absurd h (by decide)), fun _ => ⟨(fun h => absurd h (by decide)), fun _ => ⟨(fun h => absurd h (by decide)), fun _ => ⟨u2.1, ⟨(fun h => absurd h (by decide)), fun _ => ⟨(fun h => absurd h (by decide)), fun _ => ⟨(fun h => absurd h (by decide)), fun _ _ _ n => ⟨nn_vf.mpr (nn_div v2.nn v1.fin (fun h => n (g.mpr h))), trivial⟩⟩⟩⟩, c.1, trivial⟩⟩⟩⟩⟩, trivial⟩
theorem ap_6 (zw : MW I (126 :: w)) (zv : MV I F s) (hn : nk 6 ≤ s.length) : ApOk I F (eop 6 s) w := by
  obtain ⟨t1, t2, t3, t4⟩ := mtop zw zv
  have hn2 : 1 ≤ s.length := hn
  have l40 := zv.2.2.2
  match s, hn2, zv, t4, l40 with
  | x :: s1, _, zv, t4, l40 =>
    simp only [List.length_cons] at l40
    have u1 := mpop_ok t4
    have v1 : kv x := zv.2.2.1.1
    unfold ApOk p_X10_applies fI_X10_applies fF_X10_applies
    rw [t2]
    simp only [if_neg (show ¬ (126 : Int32) = 116 by decide), if_neg (show ¬ (126 : Int32) = 97 by decide), if_neg (show ¬ (126 : Int32) = 105 by decide), if_neg (show ¬ (126 : Int32) = 43 by decide), if_neg (show ¬ (126 : Int32) = 45 by decide), if_neg (show ¬ (126 : Int32) = 42 by decide), if_neg (show ¬ (126 : Int32) = 120 by decide), if_neg (show ¬ (126 : Int32) = 110 by decide), if_pos (show (126 : Int32) = 126 from rfl)]
    rw [u1.2.1]
    have nx : nn (FP.fneg x) := (fin_fneg v1.fin).nn
    have c := mput_ok u1.2.2.1 (by omega) nx
    have e : eop 6 (x :: s1) = kp (FP.fneg x) :: s1 := by rw [← kp_neg v1.fin]; rfl
    rw [e]
    refine ⟨?_, c.2.1, mput_W (x := 0) (mpop_W t3), MIF_50.trans (u1.2.2.2.trans c.2.2.1), c.2.2.2⟩
    exact ⟨t1, u1.1, ⟨fun _ => ⟨c.1, trivial⟩, fun h => absurd h (by decide)⟩, trivial⟩
theorem ap_7 (zw : MW I (120 :: w)) (zv : MV I F s) (hn : nk 7 ≤ s.length) : ApOk I F (eop 7 s) w := by
  obtain ⟨t1, t2, t3, t4⟩ := mtop zw zv
  have hn2 : 2 ≤ s.length := hn
  have l40 := zv.2.2.2
  match s, hn2, zv, t4, l40 with
  | x :: y :: s2, _, zv, t4, l40 =>
    simp only [List.length_cons] at l40
    have u1 := mpop_ok t4
    have v1 : kv x := zv.2.2.1.1
    have u2 := mpop_ok u1.2.2.1
    have v2 : kv y := zv.2.2.1.2.1
    unfold ApOk p_X10_applies fI_X10_applies fF_X10_applies
    rw [t2]
    simp only [if_neg (show ¬ (120 : Int32) = 126 by decide), if_neg (show ¬ (120 : Int32) = 116 by decide), if_neg (show ¬ (120 : Int32) = 97 by decide), if_neg (show ¬ (120 : Int32) = 105 by decide), if_neg (show ¬ (120 : Int32) = 43 by decide), if_neg (show ¬ (120 : Int32) = 45 by decide), if_neg (show ¬ (120 : Int32) = 42 by decide), if_neg (show ¬ (120 : Int32) = 110 by decide), if_pos (show (120 : Int32) = 120 from rfl)]
    rw [u2.2.1, u1.2.1]
    have nx : nn (if (Op.cmpValue (FP.fcmp y x) .l) ≤ 0 then x else y) := by
      split
      · exact v1.nn
      · exact v2.nn
    have c := mput_ok u2.2.2.1 (by omega) nx
    have g : Op.cmpValue (FP.fcmp y x) .l ≤ 0 ↔ fk y ≤ fk x := fc_le v2.nn v1.nn
    have e : eop 7 (x :: y :: s2) = kp (if (Op.cmpValue (FP.fcmp y x) .l) ≤ 0 then x else y) :: s2 := by
      show kp (if fk y < fk x then x else y) :: s2 = _
      by_cases h : fk y < fk x
      · rw [if_pos h, if_pos (g.mpr (by omega))]
      · rw [if_neg h]
        by_cases h2 : fk y ≤ fk x
        · rw [if_pos (g.mpr h2), kv_eq v2 v1 (by omega)]
        · rw [if_neg (fun n => h2 (g.mp n))]
    rw [e]
    refine ⟨?_, c.2.1, mput_W (x := 0) (mpop_W (mpop_W t3)), MIF_50.trans ((u1.2.2.2.trans u2.2.2.2).trans c.2.2.1), c.2.2.2⟩
    exact ⟨t1, u1.1, ⟨(fun h => absurd h (by decide)), fun _ => ⟨(fun h => absurd h (by decide)), fun _ => ⟨(fun h => absurd h (by decide)), fun _ => ⟨(fun h => absurd h (by decide)), fun _ => ⟨u2.1, ⟨(fun h => absurd h (by decide)), fun _ => ⟨(fun h => absurd h (by decide)), fun _ => ⟨(fun h => absurd h (by decide)), fun _ h => absurd h (by decide)⟩⟩⟩, c.1, trivial⟩⟩⟩⟩⟩, trivial⟩
theorem ap_8 (zw : MW I (110 :: w)) (zv : MV I F s) (hn : nk 8 ≤ s.length) : ApOk I F (eop 8 s) w := by
  obtain ⟨t1, t2, t3, t4⟩ := mtop zw zv
  have hn2 : 2 ≤ s.length := hn
  have l40 := zv.2.2.2
  match s, hn2, zv, t4, l40 with
  | x :: y :: s2, _, zv, t4, l40 =>
    simp only [List.length_cons] at l40
    have u1 := mpop_ok t4
    have v1 : kv x := zv.2.2.1.1
    have u2 := mpop_ok u1.2.2.1
    have v2 : kv y := zv.2.2.1.2.1
    unfold ApOk p_X10_applies fI_X10_applies fF_X10_applies
    rw [t2]
    simp only [if_neg (show ¬ (110 : Int32) = 126 by decide), if_neg (show ¬ (110 : Int32) = 116 by decide), if_neg (show ¬ (110 : Int32) = 97 by decide), if_neg (show ¬ (110 : Int32) = 105 by decide), if_neg (show ¬ (110 : Int32) = 43 by decide), if_neg (show ¬ (110 : Int32) = 45 by decide), if_neg (show ¬ (110 : Int32) = 42 by decide), if_neg (show ¬ (110 : Int32) = 120 by decide), if_pos (show (110 : Int32) = 110 from rfl)]
    rw [u2.2.1, u1.2.1]
    have nx : nn (if 0 ≤ (Op.cmpValue (FP.fcmp y x) .g) then x else y) := by
      split
      · exact v1.nn
      · exact v2.nn
    have c := mput_ok u2.2.2.1 (by omega) nx
    have g : 0 ≤ Op.cmpValue (FP.fcmp y x) .g ↔ fk x ≤ fk y := fc_ge v2.nn v1.nn
    have e : eop 8 (x :: y :: s2) = kp (if 0 ≤ (Op.cmpValue (FP.fcmp y x) .g) then x else y) :: s2 := by
      show kp (if fk x < fk y then x else y) :: s2 = _
      by_cases h : fk x < fk y
      · rw [if_pos h, if_pos (g.mpr (by omega))]
      · rw [if_neg h]
        by_cases h2 : fk x ≤ fk y
        · rw [if_pos (g.mpr h2), kv_eq v2 v1 (by omega)]
        · rw [if_neg (fun n => h2 (g.mp n))]
    rw [e]
    refine ⟨?_, c.2.1, mput_W (x := 0) (mpop_W (mpop_W t3)), MIF_50.trans ((u1.2.2.2.trans u2.2.2.2).trans c.2.2.1), c.2.2.2⟩
    exact ⟨t1, u1.1, ⟨(fun h => absurd h (by decide)), fun _ => ⟨(fun h => absurd h (by decide)), fun _ => ⟨(fun h => absurd h (by decide)), fun _ => ⟨(fun h => absurd h (by decide)), fun _ => ⟨u2.1, ⟨(fun h => absurd h (by decide)), fun _ => ⟨(fun h => absurd h (by decide)), fun _ => ⟨(fun h => absurd h (by decide)), fun _ _ h => absurd h (by decide)⟩⟩⟩, c.1, trivial⟩⟩⟩⟩⟩, trivial⟩
theorem ap_9 (zw : MW I (105 :: w)) (zv : MV I F s) (hn : nk 9 ≤ s.length) : ApOk I F (eop 9 s) w := by
  obtain ⟨t1, t2, t3, t4⟩ := mtop zw zv
  have hn2 : 3 ≤ s.length := hn
  have l40 := zv.2.2.2
  match s, hn2, zv, t4, l40 with
  | x :: y :: z :: s3, _, zv, t4, l40 =>
    simp only [List.length_cons] at l40
    have u1 := mpop_ok t4
    have v1 : kv x := zv.2.2.1.1
    have u2 := mpop_ok u1.2.2.1
    have v2 : kv y := zv.2.2.1.2.1
    have u3 := mpop_ok u2.2.2.1
    have v3 : kv z := zv.2.2.1.2.2.1
    unfold ApOk p_X10_applies fI_X10_applies fF_X10_applies
    rw [t2]
    simp only [if_neg (show ¬ (105 : Int32) = 126 by decide), if_neg (show ¬ (105 : Int32) = 116 by decide), if_neg (show ¬ (105 : Int32) = 97 by decide), if_neg (show ¬ (105 : Int32) = 43 by decide), if_neg (show ¬ (105 : Int32) = 45 by decide), if_neg (show ¬ (105 : Int32) = 42 by decide), if_neg (show ¬ (105 : Int32) = 120 by decide), if_neg (show ¬ (105 : Int32) = 110 by decide), if_pos (show (105 : Int32) = 105 from rfl)]
    rw [u3.2.1, u2.2.1, u1.2.1]
    have g : Op.cmpValue (FP.fcmp z 0) .l ≤ 0 ↔ fk z ≤ 0 := by rw [fc_le v3.nn nn_0, fk_zero]
    have nx : nn (if Op.cmpValue (FP.fcmp z 0) .l ≤ 0 then x else y) := by
      split
      · exact v1.nn
      · exact v2.nn
    have c := mput_ok u3.2.2.1 (by omega) nx
    have e : eop 9 (x :: y :: z :: s3) = kp (if Op.cmpValue (FP.fcmp z 0) .l ≤ 0 then x else y) :: s3 := by
      show kp (if fk z ≤ 0 then x else y) :: s3 = _
      by_cases h : fk z ≤ 0
      · rw [if_pos h, if_pos (g.mpr h)]
      · rw [if_neg h, if_neg (fun n => h (g.mp n))]
    rw [e]
    refine ⟨?_, c.2.1, mput_W (x := 0) (mpop_W (mpop_W (mpop_W t3))), MIF_50.trans ((u1.2.2.2.trans (u2.2.2.2.trans u3.2.2.2)).trans c.2.2.1), c.2.2.2⟩
    exact ⟨t1, u1.1, ⟨(fun h => absurd h (by decide)), fun _ => ⟨(fun h => absurd h (by decide)), fun _ => ⟨(fun h => absurd h (by decide)), fun _ => ⟨fun _ => ⟨u2.1, u3.1, c.1, trivial⟩, fun h => absurd h (by decide)⟩⟩⟩⟩, trivial⟩
theorem ap_10 (zw : MW I (116 :: w)) (zv : MV I F s) (hn : nk 10 ≤ s.length) : ApOk I F (eop 10 s) w := by
  obtain ⟨t1, t2, t3, t4⟩ := mtop zw zv
  have hn2 : 1 ≤ s.length := hn
  have l40 := zv.2.2.2
  match s, hn2, zv, t4, l40 with
  | x :: s1, _, zv, t4, l40 =>
    simp only [List.length_cons] at l40
    have u1 := mpop_ok t4
    have v1 : kv x := zv.2.2.1.1
    unfold ApOk p_X10_applies fI_X10_applies fF_X10_applies
    rw [t2]
    simp only [if_neg (show ¬ (116 : Int32) = 126 by decide), if_neg (show ¬ (116 : Int32) = 97 by decide), if_neg (show ¬ (116 : Int32) = 105 by decide), if_neg (show ¬ (116 : Int32) = 43 by decide), if_neg (show ¬ (116 : Int32) = 45 by decide), if_neg (show ¬ (116 : Int32) = 42 by decide), if_neg (show ¬ (116 : Int32) = 120 by decide), if_neg (show ¬ (116 : Int32) = 110 by decide), if_pos (show (116 : Int32) = 116 from rfl)]
    rw [u1.2.1]
    have c := mput_ok u1.2.2.1 (by omega) (fin_i2f (FP.f2i x)).nn
    have e : eop 10 (x :: s1) = kp (FP.i2f (FP.f2i x)) :: s1 := rfl
    rw [e]
    refine ⟨?_, c.2.1, mput_W (x := 0) (mpop_W t3), MIF_50.trans (u1.2.2.2.trans c.2.2.1), c.2.2.2⟩
    exact ⟨t1, u1.1, ⟨(fun h => absurd h (by decide)), fun _ => ⟨fun _ => ⟨c.1, trivial⟩, fun h => absurd h (by decide)⟩⟩, trivial⟩
theorem ap_11 (zw : MW I (97 :: w)) (zv : MV I F s) (hn : nk 11 ≤ s.length) : ApOk I F (eop 11 s) w := by
  obtain ⟨t1, t2, t3, t4⟩ := mtop zw zv
  have hn2 : 1 ≤ s.length := hn
  have l40 := zv.2.2.2
  match s, hn2, zv, t4, l40 with
  | x :: s1, _, zv, t4, l40 =>
    simp only [List.length_cons] at l40
    have u1 := mpop_ok t4
    have v1 : kv x := zv.2.2.1.1
    unfold ApOk p_X10_applies fI_X10_applies fF_X10_applies
    rw [t2]
    simp only [if_neg (show ¬ (97 : Int32) = 126 by decide), if_neg (show ¬ (97 : Int32) = 116 by decide), if_neg (show ¬ (97 : Int32) = 105 by decide), if_neg (show ¬ (97 : Int32) = 43 by decide), if_neg (show ¬ (97 : Int32) = 45 by decide), if_neg (show ¬ (97 : Int32) = 42 by decide), if_neg (show ¬ (97 : Int32) = 120 by decide), if_neg (show ¬ (97 : Int32) = 110 by decide), if_pos (show (97 : Int32) = 97 from rfl)]
    rw [u1.2.1]
    have g : 0 ≤ Op.cmpValue (FP.fcmp x 0) .g ↔ 0 ≤ fk x := by rw [fc_ge v1.nn nn_0, fk_zero]
    have nx : nn (if 0 ≤ Op.cmpValue (FP.fcmp x 0) .g then x else FP.fneg x) := by
      split
      · exact v1.nn
      · exact (fin_fneg v1.fin).nn
    have c := mput_ok u1.2.2.1 (by omega) nx
    have e : eop 11 (x :: s1) = kp (if 0 ≤ Op.cmpValue (FP.fcmp x 0) .g then x else FP.fneg x) :: s1 := by
      show kp (if 0 ≤ fk x then x else FP.fsub 0 x) :: s1 = _
      by_cases y : 0 ≤ fk x
      · rw [if_pos y, if_pos (g.mpr y)]
      · rw [if_neg y, if_neg (fun n => y (g.mp n)), kp_neg v1.fin]
    rw [e]
    refine ⟨?_, c.2.1, mput_W (x := 0) (mpop_W t3), MIF_50.trans (u1.2.2.2.trans c.2.2.1), c.2.2.2⟩
    exact ⟨t1, u1.1, ⟨(fun h => absurd h (by decide)), fun _ => ⟨(fun h => absurd h (by decide)), fun _ => ⟨fun _ => ⟨c.1, trivial⟩, fun h => absurd h (by decide)⟩⟩⟩, trivial⟩
theorem ap_ok {k : Int32} (hk : k ∈ kinds) (zw : MW I (kl k :: w)) (zv : MV I F s) (hn : nk k ≤ s.length) : ApOk I F (eop k s) w := by
  unfold kinds at hk
  simp only [List.mem_cons, List.mem_nil_iff, or_false] at hk
  rcases hk with e | e | e | e | e | e | e | e | e | e <;> subst e
  · exact ap_2 zw zv hn
  · exact ap_3 zw zv hn
  · exact ap_4 zw zv hn
  · exact ap_5 zw zv hn
  · exact ap_6 zw zv hn
  · exact ap_7 zw zv hn
  · exact ap_8 zw zv hn
  · exact ap_9 zw zv hn
  · exact ap_10 zw zv hn
  · exact ap_11 zw zv hn
end MV
