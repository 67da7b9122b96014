/-! own: the two faults of a text agree, over whole texts -/
set_option maxRecDepth 100000
section SX
variable {rule ch st fg le : Int32} {r : RS}
theorem rEnd_H : rH (rEnd r) = rH r := by
  unfold rEnd
  split
  · rfl
  · split <;> rfl
theorem both_op {k s : Int32} (hs : 1 ≤ s) (hkk : ¬ f_X3_strengthOf k < 1) (hk : HOk (rH r)) : Both (rOp k s r) (some (0, frL (rH r), fg, le)) := by
  unfold rOp
  refine both_some ⟨⟨Or.inl rfl, HOk_settle (rH r) (rF r) hk⟩, Or.inl ⟨rfl, rfl, ?_⟩⟩
  have e : frL ((k, 0) :: (rSettle s (rH r) (rF r)).2) = frL (rH r) := (frL_o (p := (k, 0)) hkk).trans (frL_settle hs (rH r) (rF r))
  exact e.symm
theorem both_sign (ho : ¬ mOver st = 0) (h6 : rS r = 6) (hk : HOk (rH r)) : Both (rSign ch r) (mRest st (frL (rH r)) fg le ch) := by
  unfold rSign mRest
  rw [if_neg ho, if_pos h6]
  have ef : frL (rH (rSet 1 r)) = frL (rH r) := frL_settle (by decide) (rH r) (rF r)
  have kk : HOk (rH (rSet 1 r)) := HOk_settle (rH r) (rF r) hk
  by_cases c41 : ch = 41
  · subst c41
    rw [if_pos rfl, if_neg (by decide), if_neg (by decide), if_pos rfl, ← ef]
    unfold rBrack
    cases hh : rH (rSet 1 r) with
    | nil => exact both_none
    | cons p h =>
      have tp : f_X3_strengthOf p.1 < 1 := settle_top (rH r) (rF r) p h hh
      rw [hh] at kk
      rw [frL_b tp]
      dsimp only
      by_cases p0 : p.2 = 0
      · rw [if_pos p0, if_pos (show p.2 + 1 = 1 by rw [p0]; decide)]
        by_cases k12 : p.1 = 12
        · rw [if_pos k12]
          exact both_some ⟨kk.2, Or.inr (Or.inr (Or.inr (Or.inr (Or.inr (Or.inr ⟨h6, Or.inl rfl, rfl⟩)))))⟩
        · rw [if_neg k12]
          exact both_some ⟨kk.2, Or.inr (Or.inr (Or.inr (Or.inr (Or.inr (Or.inr ⟨h6, Or.inl rfl, rfl⟩)))))⟩
      · rw [if_neg p0, if_neg (by rcases kk.1 with e | e | e <;> rw [e] at p0 ⊢ <;> first | exact absurd rfl p0 | decide)]
        exact both_none
  rw [if_neg c41]
  by_cases c42 : ch = 42
  · subst c42
    rw [if_pos rfl, if_pos (by decide)]
    exact both_op (by decide) (by decide) hk
  rw [if_neg c42]
  by_cases c43 : ch = 43
  · subst c43
    rw [if_pos rfl, if_pos (by decide)]
    exact both_op (by decide) (by decide) hk
  rw [if_neg c43]
  by_cases c44 : ch = 44
  · subst c44
    rw [if_pos rfl, if_neg (by decide), if_pos rfl, ← ef]
    unfold rComma
    cases hh : rH (rSet 1 r) with
    | nil => exact both_none
    | cons p h =>
      have tp : f_X3_strengthOf p.1 < 1 := settle_top (rH r) (rF r) p h hh
      rw [hh] at kk
      rw [frL_b tp]
      dsimp only
      by_cases p0 : p.2 = 0
      · rw [if_pos p0, if_pos (show p.2 + 1 ≤ 1 by rw [p0]; decide)]
        exact both_none
      · rw [if_neg p0, if_neg (by rcases kk.1 with e | e | e <;> rw [e] at p0 ⊢ <;> first | exact absurd rfl p0 | decide)]
        have e1 : p.2 + 1 - 1 = p.2 - 1 + 1 := by rcases kk.1 with e | e | e <;> rw [e] <;> decide
        have e2 : p.2 - 1 = 0 ∨ p.2 - 1 = 1 ∨ p.2 - 1 = 2 := by
          rcases kk.1 with e | e | e
          · exact absurd e p0
          · left; rw [e]; decide
          · right; left; rw [e]; decide
        refine both_some ⟨⟨e2, kk.2⟩, Or.inl ⟨rfl, rfl, ?_⟩⟩
        show (p.2 + 1 - 1) :: frL h = frL ((p.1, p.2 - 1) :: h)
        rw [frL_b (p := (p.1, p.2 - 1)) tp, e1]
  rw [if_neg c44]
  by_cases c45 : ch = 45
  · subst c45
    rw [if_pos rfl, if_pos (by decide)]
    exact both_op (by decide) (by decide) hk
  rw [if_neg c45]
  by_cases c47 : ch = 47
  · subst c47
    rw [if_pos rfl, if_pos (by decide)]
    exact both_op (by decide) (by decide) hk
  rw [if_neg c47]
  have e : f_X10_isSign ch = 0 := by
    unfold f_X10_isSign
    rw [if_neg c43, if_neg c45, if_neg c42, if_neg c47]
  rw [if_neg (fun n => n e), if_neg c44, if_neg c41]
  exact both_none
theorem rEnd_6 (h : rS r = 1 ∨ rS r = 3 ∨ rS r = 6) : rS (rEnd r) = 6 := by
  unfold rEnd
  rcases h with h | h | h
  · rw [if_pos h]; rfl
  · rw [if_neg (by rw [h]; decide), if_pos h]; rfl
  · rw [if_neg (by rw [h]; decide), if_neg (by rw [h]; decide)]; exact h
theorem both_over {m : MS} (hf : f_X10_isFigure ch = 0) (ho : ¬ mOver m.1 = 0) (h6 : rS r = 1 ∨ rS r = 3 ∨ rS r = 6) (hk : HOk (rH r)) (hm : m.2.1 = frL (rH r)) : Both (rSign ch (rEnd r)) (mRest m.1 m.2.1 m.2.2.1 m.2.2.2 ch) := by
  rw [hm, ← rEnd_H (r := r)]
  exact both_sign ho (rEnd_6 h6) (by rw [rEnd_H]; exact hk)
theorem mS2 {fr : List Int32} : mStep rule ch (2, fr, fg, le) = if f_X10_isFigure ch = 0 then (if ch = 46 then some (3, fr, fg, le) else mRest 2 fr fg le ch) else (if 3 ≤ fg then none else some (2, fr, fg + 1, le)) := by
  unfold mStep
  dsimp only
  rw [if_neg (show ¬ (2 : Int32) = 0 by decide), if_neg (fun n : (2 : Int32) = 7 ∧ ch = 40 => absurd n.1 (by decide)), if_pos (show (2 : Int32) = 2 from rfl)]
  by_cases c : ch = 46
  · rw [if_pos (show (2 : Int32) = 2 ∧ ch = 46 from ⟨rfl, c⟩), if_pos c]
  · rw [if_neg (show ¬ ((2 : Int32) = 2 ∧ ch = 46) from fun n => c n.2), if_neg c]
theorem mS3 {fr : List Int32} : mStep rule ch (3, fr, fg, le) = if f_X10_isFigure ch = 0 then mRest 3 fr fg le ch else some (4, fr, fg, le) := by
  unfold mStep
  dsimp only
  rw [if_neg (show ¬ (3 : Int32) = 0 by decide), if_neg (fun n : (3 : Int32) = 7 ∧ ch = 40 => absurd n.1 (by decide)), if_neg (fun n : (3 : Int32) = 2 ∧ ch = 46 => absurd n.1 (by decide)), if_neg (show ¬ (3 : Int32) = 2 by decide), if_pos (show (3 : Int32) = 3 from rfl)]
theorem mS4 {fr : List Int32} : mStep rule ch (4, fr, fg, le) = if f_X10_isFigure ch = 0 then mRest 4 fr fg le ch else some (5, fr, fg, le) := by
  unfold mStep
  dsimp only
  rw [if_neg (show ¬ (4 : Int32) = 0 by decide), if_neg (fun n : (4 : Int32) = 7 ∧ ch = 40 => absurd n.1 (by decide)), if_neg (fun n : (4 : Int32) = 2 ∧ ch = 46 => absurd n.1 (by decide)), if_neg (show ¬ (4 : Int32) = 2 by decide), if_neg (show ¬ (4 : Int32) = 3 by decide), if_pos (show (4 : Int32) = 4 from rfl)]
theorem mS6 {fr : List Int32} : mStep rule ch (6, fr, fg, le) = if f_X10_isFigure ch = 0 then mRest 6 fr fg le ch else if le ≤ ch - 48 then none else some (1, fr, fg, le) := by
  unfold mStep
  dsimp only
  rw [if_neg (show ¬ (6 : Int32) = 0 by decide), if_neg (fun n : (6 : Int32) = 7 ∧ ch = 40 => absurd n.1 (by decide)), if_neg (fun n : (6 : Int32) = 2 ∧ ch = 46 => absurd n.1 (by decide)), if_neg (show ¬ (6 : Int32) = 2 by decide), if_neg (show ¬ (6 : Int32) = 3 by decide), if_neg (show ¬ (6 : Int32) = 4 by decide), if_pos (show (6 : Int32) = 6 from rfl)]
theorem mS7 {fr : List Int32} : mStep rule ch (7, fr, fg, le) = if f_X10_isFigure ch = 0 then (if ch = 40 then some (0, le :: fr, fg, le) else mRest 7 fr fg le ch) else none := by
  unfold mStep
  dsimp only
  rw [if_neg (show ¬ (7 : Int32) = 0 by decide), if_neg (fun n : (7 : Int32) = 2 ∧ ch = 46 => absurd n.1 (by decide)), if_neg (show ¬ (7 : Int32) = 2 by decide), if_neg (show ¬ (7 : Int32) = 3 by decide), if_neg (show ¬ (7 : Int32) = 4 by decide), if_neg (show ¬ (7 : Int32) = 6 by decide)]
  by_cases c : ch = 40
  · rw [if_pos (show (7 : Int32) = 7 ∧ ch = 40 from ⟨rfl, c⟩), if_pos c]
  · rw [if_neg (show ¬ ((7 : Int32) = 7 ∧ ch = 40) from fun n => c n.2), if_neg c]
theorem mS1 {fr : List Int32} (h : st = 1 ∨ st = 5) : mStep rule ch (st, fr, fg, le) = if f_X10_isFigure ch = 0 then mRest st fr fg le ch else none := by
  rcases h with h | h
  · subst h
    unfold mStep
    dsimp only
    rw [if_neg (show ¬ (1 : Int32) = 0 by decide), if_neg (fun n : (1 : Int32) = 7 ∧ ch = 40 => absurd n.1 (by decide)), if_neg (fun n : (1 : Int32) = 2 ∧ ch = 46 => absurd n.1 (by decide)), if_neg (show ¬ (1 : Int32) = 2 by decide), if_neg (show ¬ (1 : Int32) = 3 by decide), if_neg (show ¬ (1 : Int32) = 4 by decide), if_neg (show ¬ (1 : Int32) = 6 by decide)]
  · subst h
    unfold mStep
    dsimp only
    rw [if_neg (show ¬ (5 : Int32) = 0 by decide), if_neg (fun n : (5 : Int32) = 7 ∧ ch = 40 => absurd n.1 (by decide)), if_neg (fun n : (5 : Int32) = 2 ∧ ch = 46 => absurd n.1 (by decide)), if_neg (show ¬ (5 : Int32) = 2 by decide), if_neg (show ¬ (5 : Int32) = 3 by decide), if_neg (show ¬ (5 : Int32) = 4 by decide), if_neg (show ¬ (5 : Int32) = 6 by decide)]
theorem sim_step (hr : rule = 0 ∨ rule = 1) {m : MS} (h : Sim r m) : Both (rStep rule ch r) (mStep rule ch m) := by
  obtain ⟨st, fr, fg, le⟩ := m
  obtain ⟨hk, h⟩ := h
  dsimp only at h
  have fg0 := figs_not (ch := ch)
  have rs : ∀ k j : Int32, rS r = k → ¬ k = j → ¬ rS r = j := fun k j e n z => n (e.symm.trans z)
  rcases h with ⟨hs, h1, h2⟩ | ⟨hs, h1, h2, h3⟩ | ⟨hs, h1, h2⟩ | ⟨hs, h1, h2⟩ | ⟨hs, h1, h2, h3⟩ | ⟨hs, h1, p, t, h2, h3, h4, h5⟩ | ⟨hs, h1, h2⟩
  · subst h1 h2
    by_cases g : rFig ch = -1
    · unfold rStep
      rw [if_pos hs, if_pos g]
      exact both_fac hr hs hk (fg0.mp g)
    · have g2 : ¬ f_X10_isFigure ch = 0 := fun n => g (fg0.mpr n)
      unfold rStep mStep
      dsimp only
      have e : f_X10_begun ch rule = 2 := by unfold f_X10_begun; rw [if_neg g2]
      rw [if_pos hs, if_neg g, if_pos (show (0 : Int32) = 0 from rfl), e, if_neg (show ¬ (2 : Int32) = -1 by decide)]
      have c40 : ¬ ch = 40 := fun n => g2 (by rw [n]; decide)
      rw [if_neg c40]
      exact both_some ⟨hk, Or.inr (Or.inl ⟨rfl, rfl, rfl, rfl⟩)⟩
  · subst h1 h2 h3
    rw [mS2]
    unfold rStep
    rw [if_neg (rs 1 0 hs (by decide)), if_neg (rs 1 4 hs (by decide)), if_neg (rs 1 5 hs (by decide))]
    by_cases g : rFig ch = -1
    · have g2 := fg0.mp g
      rw [if_pos g, if_pos g2]
      unfold rGo
      rw [if_pos hs]
      by_cases c46 : ch = 46
      · rw [if_pos c46, if_pos c46]
        exact both_some ⟨hk, Or.inr (Or.inr (Or.inl ⟨rfl, rfl, rfl⟩))⟩
      · rw [if_neg c46, if_neg c46]
        exact both_over (m := (2, frL (rH r), rG r, le)) g2 (show ¬ mOver 2 = 0 by decide) (Or.inl hs) hk rfl
    · rw [if_neg g, if_neg (fun n => g (fg0.mpr n))]
      unfold rFigs
      rw [if_pos hs]
      by_cases c : rG r < 3
      · rw [if_pos c, if_neg (Int32.not_le.mpr c)]
        exact both_some ⟨hk, Or.inr (Or.inl ⟨hs, rfl, rfl, rfl⟩)⟩
      · rw [if_neg c, if_pos (Int32.not_lt.mp c)]
        exact both_none
  · subst h1 h2
    rw [mS3]
    unfold rStep
    rw [if_neg (rs 2 0 hs (by decide)), if_neg (rs 2 4 hs (by decide)), if_neg (rs 2 5 hs (by decide))]
    by_cases g : rFig ch = -1
    · rw [if_pos g, if_pos (fg0.mp g)]
      unfold rGo
      rw [if_neg (rs 2 1 hs (by decide))]
      have e : rEnd r = r := by unfold rEnd; rw [if_neg (rs 2 1 hs (by decide)), if_neg (rs 2 3 hs (by decide))]
      rw [e]
      unfold rSign
      rw [if_neg (rs 2 6 hs (by decide)), mRest_none (by decide)]
      exact both_none
    · rw [if_neg g, if_neg (fun n => g (fg0.mpr n))]
      unfold rFigs
      rw [if_neg (rs 2 1 hs (by decide)), if_pos hs]
      exact both_some ⟨hk, Or.inr (Or.inr (Or.inr (Or.inl ⟨rfl, rfl, rfl⟩)))⟩
  · subst h1 h2
    rw [mS4]
    unfold rStep
    rw [if_neg (rs 3 0 hs (by decide)), if_neg (rs 3 4 hs (by decide)), if_neg (rs 3 5 hs (by decide))]
    by_cases g : rFig ch = -1
    · have g2 := fg0.mp g
      rw [if_pos g, if_pos g2]
      unfold rGo
      rw [if_neg (rs 3 1 hs (by decide))]
      exact both_over (m := (4, frL (rH r), fg, le)) g2 (show ¬ mOver 4 = 0 by decide) (Or.inr (Or.inl hs)) hk rfl
    · rw [if_neg g, if_neg (fun n => g (fg0.mpr n))]
      unfold rFigs
      rw [if_neg (rs 3 1 hs (by decide)), if_neg (rs 3 2 hs (by decide)), if_pos hs]
      exact both_some ⟨hk, Or.inr (Or.inr (Or.inr (Or.inr (Or.inr (Or.inr ⟨rfl, Or.inr rfl, rfl⟩)))))⟩
  · subst h1 h2 h3
    rw [mS6]
    unfold rStep
    rw [if_neg (rs 4 0 hs (by decide)), if_pos hs]
    by_cases g : rFig ch = -1
    · rw [if_pos g, if_pos (fg0.mp g), mRest_none (by decide)]
      exact both_none
    · rw [if_neg g, if_neg (fun n => g (fg0.mpr n)), ← fig_eq g]
      by_cases c : rC r ≤ rFig ch
      · rw [if_pos c, if_pos c]
        exact both_none
      · rw [if_neg c, if_neg c]
        exact both_some ⟨hk, Or.inr (Or.inr (Or.inr (Or.inr (Or.inr (Or.inr ⟨rfl, Or.inl rfl, rfl⟩)))))⟩
  · subst h1 h4 h5
    rw [mS7]
    unfold rStep
    rw [if_neg (rs 5 0 hs (by decide)), if_neg (rs 5 4 hs (by decide)), if_pos hs]
    by_cases c40 : ch = 40
    · rw [if_pos c40, if_pos (show f_X10_isFigure ch = 0 by rw [c40]; decide), if_pos c40]
      refine both_some ⟨hk, Or.inl ⟨rfl, rfl, ?_⟩⟩
      show (p.2 + 1) :: frL t = frL (rH r)
      rw [h2, frL_b h3]
    · rw [if_neg c40, if_neg c40]
      by_cases g : rFig ch = -1
      · rw [if_pos (fg0.mp g), mRest_none (by decide)]
        exact both_none
      · rw [if_neg (fun n => g (fg0.mpr n))]
        exact both_none
  · subst h2
    rw [mS1 h1]
    unfold rStep
    rw [if_neg (rs 6 0 hs (by decide)), if_neg (rs 6 4 hs (by decide)), if_neg (rs 6 5 hs (by decide))]
    have ov : ¬ mOver st = 0 := by rcases h1 with e | e <;> rw [e] <;> decide
    by_cases g : rFig ch = -1
    · have g2 := fg0.mp g
      rw [if_pos g, if_pos g2]
      unfold rGo
      rw [if_neg (rs 6 1 hs (by decide))]
      exact both_over (m := (st, frL (rH r), fg, le)) g2 ov (Or.inr (Or.inr hs)) hk rfl
    · rw [if_neg g, if_neg (fun n => g (fg0.mpr n))]
      unfold rFigs
      rw [if_neg (rs 6 1 hs (by decide)), if_neg (rs 6 2 hs (by decide)), if_neg (rs 6 3 hs (by decide))]
      exact both_none
theorem settle1_nil : ∀ (h f : FM), ((rSettle 1 h f).2).length = 0 ↔ (frL h).length = 0
  | [], f => Iff.rfl
  | p :: h, f => by
    unfold rSettle
    by_cases c : f_X3_strengthOf p.1 < 1
    · rw [if_pos c, frL_b c]
      simp only [List.length_cons]
      omega
    · rw [if_neg c, frL_o c]
      exact settle1_nil h ((p.1, 0) :: f)
theorem sim_end {m : MS} {n : Nat} (h : Sim r m) : rEndv n r = mEndv n m := by
  obtain ⟨st, fr, fg, le⟩ := m
  obtain ⟨hk, h⟩ := h
  dsimp only at h
  have e6 : rS (rFin r) = rS (rEnd r) := rfl
  have el : (rH (rFin r)).length = 0 ↔ (frL (rH r)).length = 0 := by
    have := settle1_nil (rH (rEnd r)) (rF (rEnd r))
    rw [rEnd_H] at this
    unfold rFin
    show ((rSettle 1 (rH (rEnd r)) (rF (rEnd r))).2).length = 0 ↔ _
    rw [rEnd_H]
    exact this
  unfold rEndv mEndv
  rw [e6]
  dsimp only
  have over : (rS r = 1 ∨ rS r = 3 ∨ rS r = 6) → ¬ mOver st = 0 → fr = frL (rH r) → (if rS (rEnd r) = 6 then (if (rH (rFin r)).length = 0 then -1 else nI n) else nI n) = (if fr.length = 0 then (if mOver st = 0 then nI n else -1) else nI n) := by
    intro a b c
    rw [rEnd_6 a, if_pos rfl, c, if_neg b]
    by_cases d : (frL (rH r)).length = 0
    · rw [if_pos d, if_pos (el.mpr d)]
    · rw [if_neg d, if_neg (fun z => d (el.mp z))]
  have not : (rS r = 0 ∨ rS r = 2 ∨ rS r = 4 ∨ rS r = 5) → mOver st = 0 → (if rS (rEnd r) = 6 then (if (rH (rFin r)).length = 0 then -1 else nI n) else nI n) = (if fr.length = 0 then (if mOver st = 0 then nI n else -1) else nI n) := by
    intro a b
    have e : rEnd r = r := by
      unfold rEnd
      rcases a with a | a | a | a <;> rw [if_neg (by rw [a]; decide), if_neg (by rw [a]; decide)]
    rw [e, if_neg (by rcases a with a | a | a | a <;> rw [a] <;> decide), b, if_pos rfl]
    split <;> rfl
  rcases h with ⟨hs, h1, h2⟩ | ⟨hs, h1, h2, h3⟩ | ⟨hs, h1, h2⟩ | ⟨hs, h1, h2⟩ | ⟨hs, h1, h2, h3⟩ | ⟨hs, h1, p, t, h2, h3, h4, h5⟩ | ⟨hs, h1, h2⟩
  · exact not (Or.inl hs) (by rw [h1]; decide)
  · exact over (Or.inl hs) (by rw [h1]; decide) h2
  · exact not (Or.inr (Or.inl hs)) (by rw [h1]; decide)
  · exact over (Or.inr (Or.inl hs)) (by rw [h1]; decide) h2
  · exact not (Or.inr (Or.inr (Or.inl hs))) (by rw [h1]; decide)
  · exact not (Or.inr (Or.inr (Or.inr hs))) (by rw [h1]; decide)
  · exact over (Or.inr (Or.inr hs)) (by rcases h1 with e | e <;> rw [e] <;> decide) h2
theorem sim_run (hr : rule = 0 ∨ rule = 1) : ∀ (l : List Int32) (i : Nat) (r : RS) (m : MS), Sim r m → (∃ k, rRun rule l i r = .inl k ∧ mRun rule l i m = .inl k) ∨ (∃ r2 m2, rRun rule l i r = .inr r2 ∧ mRun rule l i m = .inr m2 ∧ Sim r2 m2)
  | [], i, r, m, h => Or.inr ⟨r, m, rfl, rfl, h⟩
  | ch :: l, i, r, m, h => by
    unfold rRun mRun
    rcases sim_step (ch := ch) hr h with ⟨e1, e2⟩ | ⟨r2, m2, e1, e2, h2⟩
    · rw [e1, e2]; exact Or.inl ⟨i, rfl, rfl⟩
    · rw [e1, e2]; exact sim_run hr l (i + 1) r2 m2 h2
/-- the class's fault of a text is the model's -/
theorem fault_eq (hr : rule = 0 ∨ rule = 1) (t : List Int32) : rFault rule t = mFault rule t := by
  unfold rFault mFault
  have h0 : Sim r0 (0, [], 0, 0) := ⟨trivial, Or.inl ⟨rfl, rfl, rfl⟩⟩
  rcases sim_run hr t 0 r0 (0, [], 0, 0) h0 with ⟨k, e1, e2⟩ | ⟨r2, m2, e1, e2, h2⟩
  · rw [e1, e2]
  · rw [e1, e2]; exact sim_end h2
end SX
