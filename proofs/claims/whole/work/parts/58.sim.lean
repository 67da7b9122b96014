/-! own: the two faults of a text agree -/
set_option maxRecDepth 100000
/-- open brackets of what is held, with one more than the commas to come -/
def frL : FM → List Int32
  | [] => []
  | p :: h => if f_X3_strengthOf p.1 < 1 then (p.2 + 1) :: frL h else frL h
def HOk : FM → Prop
  | [] => True
  | p :: h => (p.2 = 0 ∨ p.2 = 1 ∨ p.2 = 2) ∧ HOk h
def Sim (r : RS) (m : MS) : Prop := HOk (rH r) ∧
  ((rS r = 0 ∧ m.1 = 0 ∧ m.2.1 = frL (rH r)) ∨ (rS r = 1 ∧ m.1 = 2 ∧ m.2.1 = frL (rH r) ∧ m.2.2.1 = rG r) ∨
   (rS r = 2 ∧ m.1 = 3 ∧ m.2.1 = frL (rH r)) ∨ (rS r = 3 ∧ m.1 = 4 ∧ m.2.1 = frL (rH r)) ∨
   (rS r = 4 ∧ m.1 = 6 ∧ m.2.1 = frL (rH r) ∧ m.2.2.2 = rC r) ∨
   (rS r = 5 ∧ m.1 = 7 ∧ ∃ p h, rH r = p :: h ∧ f_X3_strengthOf p.1 < 1 ∧ m.2.2.2 = p.2 + 1 ∧ m.2.1 = frL h) ∨
   (rS r = 6 ∧ (m.1 = 1 ∨ m.1 = 5) ∧ m.2.1 = frL (rH r)))
def Both (a : Option RS) (b : Option MS) : Prop := (a = none ∧ b = none) ∨ ∃ r m, a = some r ∧ b = some m ∧ Sim r m
theorem frL_settle {s : Int32} (hs : 1 ≤ s) : ∀ (h f : FM), frL (rSettle s h f).2 = frL h
  | [], f => rfl
  | p :: h, f => by
    unfold rSettle
    split
    · rfl
    · rename_i c
      rw [frL_settle hs h ((p.1, 0) :: f)]
      have d : ¬ f_X3_strengthOf p.1 < 1 := by
        rw [Int32.lt_iff_toInt_lt] at c ⊢
        rw [Int32.le_iff_toInt_le] at hs
        omega
      show frL h = if f_X3_strengthOf p.1 < 1 then (p.2 + 1) :: frL h else frL h
      rw [if_neg d]
theorem HOk_settle {s : Int32} : ∀ (h f : FM), HOk h → HOk (rSettle s h f).2
  | [], f, _ => trivial
  | p :: h, f, z => by
    unfold rSettle
    split
    · exact z
    · exact HOk_settle h ((p.1, 0) :: f) z.2
theorem settle_top : ∀ (h f : FM) (p : Int32 × Int32) (t : FM), (rSettle 1 h f).2 = p :: t → f_X3_strengthOf p.1 < 1
  | [], f, p, t, z => by cases z
  | a :: h, f, p, t, z => by
    unfold rSettle at z
    split at z
    · cases z; assumption
    · exact settle_top h ((a.1, 0) :: f) p t z
theorem figs_not {ch : Int32} : rFig ch = -1 ↔ f_X10_isFigure ch = 0 := by
  unfold rFig f_X10_isFigure f_X10_isIn
  by_cases a : ch < 48
  · rw [if_pos a, if_pos a]; exact ⟨fun _ => rfl, fun _ => rfl⟩
  · rw [if_neg a, if_neg a]
    by_cases b : 57 < ch
    · rw [if_pos b, if_pos b]; exact ⟨fun _ => rfl, fun _ => rfl⟩
    · rw [if_neg b, if_neg b]
      constructor
      · intro c
        have e1 : ch = 47 := by
          have : ch - 48 + 48 = -1 + 48 := by rw [c]
          rw [Int32.sub_add_cancel] at this
          exact this
        rw [e1] at a
        exact absurd (by decide) a
      · intro c; exact absurd c (by decide)
theorem fig_eq {ch : Int32} (h : ¬ rFig ch = -1) : rFig ch = ch - 48 := by
  unfold rFig at h ⊢
  split
  · rename_i a; rw [if_pos a] at h; exact absurd rfl h
  · rename_i a
    rw [if_neg a] at h
    split
    · rename_i b; rw [if_pos b] at h; exact absurd rfl h
    · rfl
theorem both_some {r : RS} {m : MS} (h : Sim r m) : Both (some r) (some m) := Or.inr ⟨r, m, rfl, rfl, h⟩
theorem both_none : Both none none := Or.inl ⟨rfl, rfl⟩
theorem frL_b {p : Int32 × Int32} {h : FM} (e : f_X3_strengthOf p.1 < 1) : frL (p :: h) = (p.2 + 1) :: frL h := if_pos e
theorem frL_o {p : Int32 × Int32} {h : FM} (e : ¬ f_X3_strengthOf p.1 < 1) : frL (p :: h) = frL h := if_neg e
section SM
variable {rule ch st fg le : Int32} {fr : List Int32} {r : RS}
theorem both_fac (hr : rule = 0 ∨ rule = 1) (h0 : rS r = 0) (hk : HOk (rH r)) (hn : f_X10_isFigure ch = 0) : Both (rFac rule ch r) (mStep rule ch (0, frL (rH r), fg, le)) := by
  unfold rFac mStep
  dsimp only
  rw [if_pos rfl]
  by_cases c40 : ch = 40
  · subst c40
    have e : f_X10_begun 40 rule = 0 := by rcases hr with e | e <;> subst e <;> decide
    rw [if_pos rfl, e, if_neg (by decide)]
    rw [if_pos rfl]
    refine both_some ⟨⟨Or.inl rfl, hk⟩, Or.inl ⟨h0, rfl, ?_⟩⟩
    exact (frL_b (p := (12, 0)) (h := rH r) (by decide)).symm
  by_cases c45 : ch = 45
  · subst c45
    have e : f_X10_begun 45 rule = 0 := by rcases hr with e | e <;> subst e <;> decide
    rw [if_neg (by decide), if_pos rfl, e, if_neg (by decide)]
    rw [if_neg (show ¬ (45 : Int32) = 40 by decide)]
    refine both_some ⟨⟨Or.inl rfl, hk⟩, Or.inl ⟨h0, rfl, ?_⟩⟩
    exact (frL_o (p := (6, 0)) (h := rH r) (by decide)).symm
  by_cases c97 : ch = 97
  · subst c97
    have e : f_X10_begun 97 rule = 7 := by rcases hr with e | e <;> subst e <;> decide
    rw [e, if_neg (show ¬ (7 : Int32) = -1 by decide), if_pos (show (7 : Int32) = 7 from rfl), if_neg (show ¬ (97 : Int32) = 40 by decide)]
    rw [if_neg (show ¬ (97 : Int32) = 40 by decide)]; rw [if_neg (show ¬ (97 : Int32) = 45 by decide)]; rw [if_pos (show (97 : Int32) = 97 from rfl)]
    exact both_some ⟨⟨by decide, hk⟩, Or.inr (Or.inr (Or.inr (Or.inr (Or.inr (Or.inl ⟨rfl, rfl, (11, 0), rH r, rfl, by decide, (show f_X10_inputs 97 = (0 : Int32) + 1 by decide), rfl⟩)))))⟩
  by_cases c102 : ch = 102
  · subst c102
    simp only [if_neg (show ¬ (102 : Int32) = 40 by decide), if_neg (show ¬ (102 : Int32) = 45 by decide), if_neg (show ¬ (102 : Int32) = 97 by decide), if_pos (show (102 : Int32) = 102 from rfl)]
    rcases hr with e | e
    · subst e
      rw [if_pos rfl]
      have e : f_X10_begun 102 0 = -1 := by decide
      rw [e, if_pos rfl]
      exact both_none
    · subst e
      rw [if_neg (show ¬ (1 : Int32) = 0 by decide)]
      have e : f_X10_begun 102 1 = 1 := by decide
      rw [e, if_neg (show ¬ (1 : Int32) = -1 by decide), if_neg (show ¬ (1 : Int32) = 7 by decide)]
      exact both_some ⟨hk, Or.inr (Or.inr (Or.inr (Or.inr (Or.inr (Or.inr ⟨rfl, Or.inl rfl, rfl⟩)))))⟩
  by_cases c103 : ch = 103
  · subst c103
    simp only [if_neg (show ¬ (103 : Int32) = 40 by decide), if_neg (show ¬ (103 : Int32) = 45 by decide), if_neg (show ¬ (103 : Int32) = 97 by decide), if_neg (show ¬ (103 : Int32) = 102 by decide), if_pos (show (103 : Int32) = 103 from rfl)]
    rcases hr with e | e
    · subst e
      rw [if_pos rfl]
      have e : f_X10_begun 103 0 = 6 := by decide
      rw [e, if_neg (show ¬ (6 : Int32) = -1 by decide), if_neg (show ¬ (6 : Int32) = 7 by decide)]
      exact both_some ⟨hk, Or.inr (Or.inr (Or.inr (Or.inr (Or.inl ⟨rfl, rfl, rfl, rfl⟩))))⟩
    · subst e
      rw [if_neg (show ¬ (1 : Int32) = 0 by decide)]
      have e : f_X10_begun 103 1 = -1 := by decide
      rw [e, if_pos rfl]
      exact both_none
  by_cases c104 : ch = 104
  · subst c104
    simp only [if_neg (show ¬ (104 : Int32) = 40 by decide), if_neg (show ¬ (104 : Int32) = 45 by decide), if_neg (show ¬ (104 : Int32) = 97 by decide), if_neg (show ¬ (104 : Int32) = 102 by decide), if_neg (show ¬ (104 : Int32) = 103 by decide), if_pos (show (104 : Int32) = 104 from rfl)]
    rcases hr with e | e
    · subst e
      have e : f_X10_begun 104 0 = 1 := by decide
      rw [e, if_neg (show ¬ (1 : Int32) = -1 by decide), if_neg (show ¬ (1 : Int32) = 7 by decide)]
      exact both_some ⟨hk, Or.inr (Or.inr (Or.inr (Or.inr (Or.inr (Or.inr ⟨rfl, Or.inl rfl, rfl⟩)))))⟩
    · subst e
      have e : f_X10_begun 104 1 = 1 := by decide
      rw [e, if_neg (show ¬ (1 : Int32) = -1 by decide), if_neg (show ¬ (1 : Int32) = 7 by decide)]
      exact both_some ⟨hk, Or.inr (Or.inr (Or.inr (Or.inr (Or.inr (Or.inr ⟨rfl, Or.inl rfl, rfl⟩)))))⟩
  by_cases c105 : ch = 105
  · subst c105
    have e : f_X10_begun 105 rule = 7 := by rcases hr with e | e <;> subst e <;> decide
    rw [e, if_neg (show ¬ (7 : Int32) = -1 by decide), if_pos (show (7 : Int32) = 7 from rfl), if_neg (show ¬ (105 : Int32) = 40 by decide)]
    rw [if_neg (show ¬ (105 : Int32) = 40 by decide)]; rw [if_neg (show ¬ (105 : Int32) = 45 by decide)]; rw [if_neg (show ¬ (105 : Int32) = 97 by decide)]; rw [if_neg (show ¬ (105 : Int32) = 102 by decide)]; rw [if_neg (show ¬ (105 : Int32) = 103 by decide)]; rw [if_neg (show ¬ (105 : Int32) = 104 by decide)]; rw [if_pos (show (105 : Int32) = 105 from rfl)]
    exact both_some ⟨⟨by decide, hk⟩, Or.inr (Or.inr (Or.inr (Or.inr (Or.inr (Or.inl ⟨rfl, rfl, (9, 2), rH r, rfl, by decide, (show f_X10_inputs 105 = (2 : Int32) + 1 by decide), rfl⟩)))))⟩
  by_cases c108 : ch = 108
  · subst c108
    simp only [if_neg (show ¬ (108 : Int32) = 40 by decide), if_neg (show ¬ (108 : Int32) = 45 by decide), if_neg (show ¬ (108 : Int32) = 97 by decide), if_neg (show ¬ (108 : Int32) = 102 by decide), if_neg (show ¬ (108 : Int32) = 103 by decide), if_neg (show ¬ (108 : Int32) = 104 by decide), if_neg (show ¬ (108 : Int32) = 105 by decide), if_pos (show (108 : Int32) = 108 from rfl)]
    rcases hr with e | e
    · subst e
      rw [if_pos rfl]
      have e : f_X10_begun 108 0 = -1 := by decide
      rw [e, if_pos rfl]
      exact both_none
    · subst e
      rw [if_neg (show ¬ (1 : Int32) = 0 by decide)]
      have e : f_X10_begun 108 1 = 1 := by decide
      rw [e, if_neg (show ¬ (1 : Int32) = -1 by decide), if_neg (show ¬ (1 : Int32) = 7 by decide)]
      exact both_some ⟨hk, Or.inr (Or.inr (Or.inr (Or.inr (Or.inr (Or.inr ⟨rfl, Or.inl rfl, rfl⟩)))))⟩
  by_cases c109 : ch = 109
  · subst c109
    simp only [if_neg (show ¬ (109 : Int32) = 40 by decide), if_neg (show ¬ (109 : Int32) = 45 by decide), if_neg (show ¬ (109 : Int32) = 97 by decide), if_neg (show ¬ (109 : Int32) = 102 by decide), if_neg (show ¬ (109 : Int32) = 103 by decide), if_neg (show ¬ (109 : Int32) = 104 by decide), if_neg (show ¬ (109 : Int32) = 105 by decide), if_neg (show ¬ (109 : Int32) = 108 by decide), if_pos (show (109 : Int32) = 109 from rfl)]
    rcases hr with e | e
    · subst e
      rw [if_pos rfl]
      have e : f_X10_begun 109 0 = 6 := by decide
      rw [e, if_neg (show ¬ (6 : Int32) = -1 by decide), if_neg (show ¬ (6 : Int32) = 7 by decide)]
      exact both_some ⟨hk, Or.inr (Or.inr (Or.inr (Or.inr (Or.inl ⟨rfl, rfl, rfl, rfl⟩))))⟩
    · subst e
      rw [if_neg (show ¬ (1 : Int32) = 0 by decide)]
      have e : f_X10_begun 109 1 = -1 := by decide
      rw [e, if_pos rfl]
      exact both_none
  by_cases c110 : ch = 110
  · subst c110
    have e : f_X10_begun 110 rule = 7 := by rcases hr with e | e <;> subst e <;> decide
    rw [e, if_neg (show ¬ (7 : Int32) = -1 by decide), if_pos (show (7 : Int32) = 7 from rfl), if_neg (show ¬ (110 : Int32) = 40 by decide)]
    rw [if_neg (show ¬ (110 : Int32) = 40 by decide)]; rw [if_neg (show ¬ (110 : Int32) = 45 by decide)]; rw [if_neg (show ¬ (110 : Int32) = 97 by decide)]; rw [if_neg (show ¬ (110 : Int32) = 102 by decide)]; rw [if_neg (show ¬ (110 : Int32) = 103 by decide)]; rw [if_neg (show ¬ (110 : Int32) = 104 by decide)]; rw [if_neg (show ¬ (110 : Int32) = 105 by decide)]; rw [if_neg (show ¬ (110 : Int32) = 108 by decide)]; rw [if_neg (show ¬ (110 : Int32) = 109 by decide)]; rw [if_pos (show (110 : Int32) = 110 from rfl)]
    exact both_some ⟨⟨by decide, hk⟩, Or.inr (Or.inr (Or.inr (Or.inr (Or.inr (Or.inl ⟨rfl, rfl, (8, 1), rH r, rfl, by decide, (show f_X10_inputs 110 = (1 : Int32) + 1 by decide), rfl⟩)))))⟩
  by_cases c112 : ch = 112
  · subst c112
    simp only [if_neg (show ¬ (112 : Int32) = 40 by decide), if_neg (show ¬ (112 : Int32) = 45 by decide), if_neg (show ¬ (112 : Int32) = 97 by decide), if_neg (show ¬ (112 : Int32) = 102 by decide), if_neg (show ¬ (112 : Int32) = 103 by decide), if_neg (show ¬ (112 : Int32) = 104 by decide), if_neg (show ¬ (112 : Int32) = 105 by decide), if_neg (show ¬ (112 : Int32) = 108 by decide), if_neg (show ¬ (112 : Int32) = 109 by decide), if_neg (show ¬ (112 : Int32) = 110 by decide), if_pos (show (112 : Int32) = 112 from rfl)]
    rcases hr with e | e
    · subst e
      rw [if_pos rfl]
      have e : f_X10_begun 112 0 = 1 := by decide
      rw [e, if_neg (show ¬ (1 : Int32) = -1 by decide), if_neg (show ¬ (1 : Int32) = 7 by decide)]
      exact both_some ⟨hk, Or.inr (Or.inr (Or.inr (Or.inr (Or.inr (Or.inr ⟨rfl, Or.inl rfl, rfl⟩)))))⟩
    · subst e
      rw [if_neg (show ¬ (1 : Int32) = 0 by decide)]
      have e : f_X10_begun 112 1 = -1 := by decide
      rw [e, if_pos rfl]
      exact both_none
  by_cases c113 : ch = 113
  · subst c113
    simp only [if_neg (show ¬ (113 : Int32) = 40 by decide), if_neg (show ¬ (113 : Int32) = 45 by decide), if_neg (show ¬ (113 : Int32) = 97 by decide), if_neg (show ¬ (113 : Int32) = 102 by decide), if_neg (show ¬ (113 : Int32) = 103 by decide), if_neg (show ¬ (113 : Int32) = 104 by decide), if_neg (show ¬ (113 : Int32) = 105 by decide), if_neg (show ¬ (113 : Int32) = 108 by decide), if_neg (show ¬ (113 : Int32) = 109 by decide), if_neg (show ¬ (113 : Int32) = 110 by decide), if_neg (show ¬ (113 : Int32) = 112 by decide), if_pos (show (113 : Int32) = 113 from rfl)]
    rcases hr with e | e
    · subst e
      rw [if_pos rfl]
      have e : f_X10_begun 113 0 = 6 := by decide
      rw [e, if_neg (show ¬ (6 : Int32) = -1 by decide), if_neg (show ¬ (6 : Int32) = 7 by decide)]
      exact both_some ⟨hk, Or.inr (Or.inr (Or.inr (Or.inr (Or.inl ⟨rfl, rfl, rfl, rfl⟩))))⟩
    · subst e
      rw [if_neg (show ¬ (1 : Int32) = 0 by decide)]
      have e : f_X10_begun 113 1 = -1 := by decide
      rw [e, if_pos rfl]
      exact both_none
  by_cases c114 : ch = 114
  · subst c114
    simp only [if_neg (show ¬ (114 : Int32) = 40 by decide), if_neg (show ¬ (114 : Int32) = 45 by decide), if_neg (show ¬ (114 : Int32) = 97 by decide), if_neg (show ¬ (114 : Int32) = 102 by decide), if_neg (show ¬ (114 : Int32) = 103 by decide), if_neg (show ¬ (114 : Int32) = 104 by decide), if_neg (show ¬ (114 : Int32) = 105 by decide), if_neg (show ¬ (114 : Int32) = 108 by decide), if_neg (show ¬ (114 : Int32) = 109 by decide), if_neg (show ¬ (114 : Int32) = 110 by decide), if_neg (show ¬ (114 : Int32) = 112 by decide), if_neg (show ¬ (114 : Int32) = 113 by decide), if_pos (show (114 : Int32) = 114 from rfl)]
    rcases hr with e | e
    · subst e
      rw [if_pos rfl]
      have e : f_X10_begun 114 0 = -1 := by decide
      rw [e, if_pos rfl]
      exact both_none
    · subst e
      rw [if_neg (show ¬ (1 : Int32) = 0 by decide)]
      have e : f_X10_begun 114 1 = 1 := by decide
      rw [e, if_neg (show ¬ (1 : Int32) = -1 by decide), if_neg (show ¬ (1 : Int32) = 7 by decide)]
      exact both_some ⟨hk, Or.inr (Or.inr (Or.inr (Or.inr (Or.inr (Or.inr ⟨rfl, Or.inl rfl, rfl⟩)))))⟩
  by_cases c116 : ch = 116
  · subst c116
    have e : f_X10_begun 116 rule = 7 := by rcases hr with e | e <;> subst e <;> decide
    rw [e, if_neg (show ¬ (7 : Int32) = -1 by decide), if_pos (show (7 : Int32) = 7 from rfl), if_neg (show ¬ (116 : Int32) = 40 by decide)]
    rw [if_neg (show ¬ (116 : Int32) = 40 by decide)]; rw [if_neg (show ¬ (116 : Int32) = 45 by decide)]; rw [if_neg (show ¬ (116 : Int32) = 97 by decide)]; rw [if_neg (show ¬ (116 : Int32) = 102 by decide)]; rw [if_neg (show ¬ (116 : Int32) = 103 by decide)]; rw [if_neg (show ¬ (116 : Int32) = 104 by decide)]; rw [if_neg (show ¬ (116 : Int32) = 105 by decide)]; rw [if_neg (show ¬ (116 : Int32) = 108 by decide)]; rw [if_neg (show ¬ (116 : Int32) = 109 by decide)]; rw [if_neg (show ¬ (116 : Int32) = 110 by decide)]; rw [if_neg (show ¬ (116 : Int32) = 112 by decide)]; rw [if_neg (show ¬ (116 : Int32) = 113 by decide)]; rw [if_neg (show ¬ (116 : Int32) = 114 by decide)]; rw [if_pos (show (116 : Int32) = 116 from rfl)]
    exact both_some ⟨⟨by decide, hk⟩, Or.inr (Or.inr (Or.inr (Or.inr (Or.inr (Or.inl ⟨rfl, rfl, (10, 0), rH r, rfl, by decide, (show f_X10_inputs 116 = (0 : Int32) + 1 by decide), rfl⟩)))))⟩
  by_cases c120 : ch = 120
  · subst c120
    have e : f_X10_begun 120 rule = 7 := by rcases hr with e | e <;> subst e <;> decide
    rw [e, if_neg (show ¬ (7 : Int32) = -1 by decide), if_pos (show (7 : Int32) = 7 from rfl), if_neg (show ¬ (120 : Int32) = 40 by decide)]
    rw [if_neg (show ¬ (120 : Int32) = 40 by decide)]; rw [if_neg (show ¬ (120 : Int32) = 45 by decide)]; rw [if_neg (show ¬ (120 : Int32) = 97 by decide)]; rw [if_neg (show ¬ (120 : Int32) = 102 by decide)]; rw [if_neg (show ¬ (120 : Int32) = 103 by decide)]; rw [if_neg (show ¬ (120 : Int32) = 104 by decide)]; rw [if_neg (show ¬ (120 : Int32) = 105 by decide)]; rw [if_neg (show ¬ (120 : Int32) = 108 by decide)]; rw [if_neg (show ¬ (120 : Int32) = 109 by decide)]; rw [if_neg (show ¬ (120 : Int32) = 110 by decide)]; rw [if_neg (show ¬ (120 : Int32) = 112 by decide)]; rw [if_neg (show ¬ (120 : Int32) = 113 by decide)]; rw [if_neg (show ¬ (120 : Int32) = 114 by decide)]; rw [if_neg (show ¬ (120 : Int32) = 116 by decide)]; rw [if_pos (show (120 : Int32) = 120 from rfl)]
    exact both_some ⟨⟨by decide, hk⟩, Or.inr (Or.inr (Or.inr (Or.inr (Or.inr (Or.inl ⟨rfl, rfl, (7, 1), rH r, rfl, by decide, (show f_X10_inputs 120 = (1 : Int32) + 1 by decide), rfl⟩)))))⟩
  have e : f_X10_begun ch rule = -1 := by
    have e1 : f_X10_inputs ch = 0 := by
      unfold f_X10_inputs
      simp only [if_neg c120, if_neg c110, if_neg c105, if_neg c116, if_neg c97]
    have e2 : f_X10_figures ch rule = 0 := by
      unfold f_X10_figures
      simp only [if_neg c103, if_neg c109, if_neg c113]
      split <;> rfl
    have e3 : f_X10_isPlain ch rule = 0 := by
      unfold f_X10_isPlain
      simp only [if_neg c104, if_neg c112, if_neg c108, if_neg c102, if_neg c114]
      split <;> rfl
    unfold f_X10_begun
    rw [if_pos hn, if_neg c45, if_neg c40, e1, e2, e3, if_pos (by decide), if_pos (by decide), if_pos rfl]
  rw [e, if_pos rfl]
  simp only [if_neg c40, if_neg c45, if_neg c97, if_neg c102, if_neg c103, if_neg c104, if_neg c105, if_neg c108, if_neg c109, if_neg c110, if_neg c112, if_neg c113, if_neg c114, if_neg c116, if_neg c120]
  exact both_none
end SM
