/-! own: the sets of names of a text -/
set_option maxRecDepth 100000
def gl (areG c : Int32) : Int32 := if areG = 0 then (if c = 109 then 1 else if c = 113 then 1 else 0) else if c = 103 then 1 else 0
def bitc (c : Int32) : Int32 := (1 : Int32) <<< ((c - 48) &&& 31 : Int32)
def hd0 : List Int32 → Int32
  | [] => 0
  | c :: _ => c
def msk (areG : Int32) : List Int32 → Int32
  | [] => 0
  | c :: l => (if gl areG c = 0 then 0 else bitc (hd0 l)) ||| msk areG l
def mk (areG : Int32) (r : RS) : Int32 := if areG = 0 then rM r else rA r
abbrev pd (areG : Int32) (r : RS) : Prop := rS r = 4 ∧ ((areG = 0 ∧ (rL r = 3 ∨ rL r = 9)) ∨ (areG = 1 ∧ rL r = 0))
section MK
variable {areG ch : Int32} {r r2 R : RS}
theorem mk_end : mk areG (rEnd r) = mk areG r := by
  unfold rEnd
  split
  · rfl
  · split <;> rfl
theorem sign_mk (h : rSign ch r = some r2) : mk areG r2 = mk areG r ∧ (rS r2 = 4 → rS r = 4) ∧ gl areG ch = 0 := by
  have nc : ∀ c : Int32, ch = c → gl areG c = 0 → gl areG ch = 0 := fun c e z => by rw [e]; exact z
  have g0 : ∀ c : Int32, c ≠ 109 → c ≠ 113 → c ≠ 103 → gl areG c = 0 := fun c a b d => by
    unfold gl
    rw [if_neg a, if_neg b, if_neg d]
    split <;> rfl
  have op : ∀ k s, rOp k s r = some r2 → mk areG r2 = mk areG r ∧ (rS r2 = 4 → rS r = 4) := fun k s e => by
    cases e
    exact ⟨rfl, fun n => absurd (show (0 : Int32) = 4 from n) (by decide)⟩
  unfold rSign at h
  split at h
  · split at h
    · rename_i c
      unfold rBrack at h
      split at h
      · cases h
      · split at h
        · split at h
          · cases h; exact ⟨rfl, fun n => n, nc _ c (g0 _ (by decide) (by decide) (by decide))⟩
          · cases h; exact ⟨rfl, fun n => n, nc _ c (g0 _ (by decide) (by decide) (by decide))⟩
        · cases h
    · split at h
      · rename_i c; exact ⟨(op _ _ h).1, (op _ _ h).2, nc _ c (g0 _ (by decide) (by decide) (by decide))⟩
      · split at h
        · rename_i c; exact ⟨(op _ _ h).1, (op _ _ h).2, nc _ c (g0 _ (by decide) (by decide) (by decide))⟩
        · split at h
          · rename_i c
            unfold rComma at h
            split at h
            · cases h
            · split at h
              · cases h
              · cases h; exact ⟨rfl, fun n => absurd (show (0 : Int32) = 4 from n) (by decide), nc _ c (g0 _ (by decide) (by decide) (by decide))⟩
          · split at h
            · rename_i c; exact ⟨(op _ _ h).1, (op _ _ h).2, nc _ c (g0 _ (by decide) (by decide) (by decide))⟩
            · split at h
              · rename_i c; exact ⟨(op _ _ h).1, (op _ _ h).2, nc _ c (g0 _ (by decide) (by decide) (by decide))⟩
              · cases h
  · cases h
theorem gl_fig (h : ¬ rFig ch = -1) : gl areG ch = 0 := by
  have n : ∀ c : Int32, rFig c = -1 → ch ≠ c := fun c e z => h (by rw [z]; exact e)
  unfold gl
  rw [if_neg (n 109 (by decide)), if_neg (n 113 (by decide)), if_neg (n 103 (by decide))]
  split <;> rfl
theorem gl0 (a : ch ≠ 109) (b : ch ≠ 113) (d : ch ≠ 103) : gl areG ch = 0 := by
  unfold gl
  rw [if_neg a, if_neg b, if_neg d]
  split <;> rfl
theorem step_mkA (hg : areG = 0 ∨ areG = 1) (h4 : rS r ≠ 4) (h : rStep 0 ch r = some r2) : mk areG r2 = mk areG r ∧ (pd areG r2 ↔ gl areG ch ≠ 0) := by
  have no : ∀ x : RS, rS x ≠ 4 → gl areG ch = 0 → (pd areG x ↔ gl areG ch ≠ 0) := fun x a b => ⟨fun z => absurd z.1 a, fun z => absurd b z⟩
  have n6 : ¬ ((6 : Int32) = 4) := by decide
  have sg : ∀ x : RS, rS x ≠ 4 → rSign ch (rEnd x) = some r2 → mk areG x = mk areG r → mk areG r2 = mk areG r ∧ (pd areG r2 ↔ gl areG ch ≠ 0) := fun x hx e em => by
    have z := sign_mk (areG := areG) e
    have e4 : rS (rEnd x) ≠ 4 := by
      unfold rEnd
      split
      · exact n6
      · split
        · exact n6
        · exact hx
    exact ⟨z.1.trans (mk_end.trans em), no _ (fun n => e4 (z.2.1 n)) z.2.2⟩
  unfold rStep at h
  split at h
  · split at h
    · unfold rFac at h
      have ho : ∀ k c, gl areG ch = 0 → some (rHold k c r) = some r2 → mk areG r2 = mk areG r ∧ (pd areG r2 ↔ gl areG ch ≠ 0) := fun k c z e => by cases e; exact ⟨rfl, no _ h4 z⟩
      have hf : ∀ k c, gl areG ch = 0 → some (rHold k c (rSt 5 r)) = some r2 → mk areG r2 = mk areG r ∧ (pd areG r2 ↔ gl areG ch ≠ 0) := fun k c z e => by cases e; exact ⟨rfl, no _ (show (5 : Int32) ≠ 4 by decide) z⟩
      have na : ∀ s, rMod s (rM r) = rM r → rGau s (rA r) = rA r → gl areG ch = 0 → some (rName s r) = some r2 → mk areG r2 = mk areG r ∧ (pd areG r2 ↔ gl areG ch ≠ 0) := fun s a b z e => by
        cases e
        refine ⟨?_, no _ (show (6 : Int32) ≠ 4 by decide) z⟩
        unfold mk
        split
        · exact a
        · exact b
      have nf : ∀ s c, ((areG = 0 ∧ (s = 3 ∨ s = 9)) ∨ (areG = 1 ∧ s = 0) ↔ gl areG ch ≠ 0) → some (rSt 4 (rNam s c r)) = some r2 → mk areG r2 = mk areG r ∧ (pd areG r2 ↔ gl areG ch ≠ 0) := fun s c z e => by
        cases e
        exact ⟨rfl, ⟨fun n => z.mp n.2, fun n => ⟨rfl, z.mpr n⟩⟩⟩
      by_cases c40 : ch = 40
      · rw [if_pos c40] at h
        exact ho _ _ (by rw [c40]; exact gl0 (by decide) (by decide) (by decide)) h
      rw [if_neg c40] at h
      by_cases c45 : ch = 45
      · rw [if_pos c45] at h
        exact ho _ _ (by rw [c45]; exact gl0 (by decide) (by decide) (by decide)) h
      rw [if_neg c45] at h
      by_cases c97 : ch = 97
      · rw [if_pos c97] at h
        exact hf _ _ (by rw [c97]; exact gl0 (by decide) (by decide) (by decide)) h
      rw [if_neg c97] at h
      by_cases c102 : ch = 102
      · rw [if_pos c102] at h
        rw [if_pos rfl] at h; cases h
      rw [if_neg c102] at h
      by_cases c103 : ch = 103
      · rw [if_pos c103] at h
        rw [if_pos rfl] at h
        refine nf _ _ ?_ h
        rw [c103]
        rcases hg with e | e <;> rw [e] <;> decide
      rw [if_neg c103] at h
      by_cases c104 : ch = 104
      · rw [if_pos c104] at h
        exact na 16 rfl rfl (by rw [c104]; exact gl0 (by decide) (by decide) (by decide)) h
      rw [if_neg c104] at h
      by_cases c105 : ch = 105
      · rw [if_pos c105] at h
        exact hf _ _ (by rw [c105]; exact gl0 (by decide) (by decide) (by decide)) h
      rw [if_neg c105] at h
      by_cases c108 : ch = 108
      · rw [if_pos c108] at h
        rw [if_pos rfl] at h; cases h
      rw [if_neg c108] at h
      by_cases c109 : ch = 109
      · rw [if_pos c109] at h
        rw [if_pos rfl] at h
        refine nf _ _ ?_ h
        rw [c109]
        rcases hg with e | e <;> rw [e] <;> decide
      rw [if_neg c109] at h
      by_cases c110 : ch = 110
      · rw [if_pos c110] at h
        exact hf _ _ (by rw [c110]; exact gl0 (by decide) (by decide) (by decide)) h
      rw [if_neg c110] at h
      by_cases c112 : ch = 112
      · rw [if_pos c112] at h
        rw [if_pos rfl] at h
        exact na 15 rfl rfl (by rw [c112]; exact gl0 (by decide) (by decide) (by decide)) h
      rw [if_neg c112] at h
      by_cases c113 : ch = 113
      · rw [if_pos c113] at h
        rw [if_pos rfl] at h
        refine nf _ _ ?_ h
        rw [c113]
        rcases hg with e | e <;> rw [e] <;> decide
      rw [if_neg c113] at h
      by_cases c114 : ch = 114
      · rw [if_pos c114] at h
        rw [if_pos rfl] at h; cases h
      rw [if_neg c114] at h
      by_cases c116 : ch = 116
      · rw [if_pos c116] at h
        exact hf _ _ (by rw [c116]; exact gl0 (by decide) (by decide) (by decide)) h
      rw [if_neg c116] at h
      by_cases c120 : ch = 120
      · rw [if_pos c120] at h
        exact hf _ _ (by rw [c120]; exact gl0 (by decide) (by decide) (by decide)) h
      rw [if_neg c120] at h
      cases h
    · rename_i g
      cases h
      exact ⟨rfl, no _ (show (1 : Int32) ≠ 4 by decide) (gl_fig g)⟩
  · skip
    split at h
    · split at h
      · rename_i c
        cases h
        exact ⟨rfl, no _ (show (0 : Int32) ≠ 4 by decide) (by rw [c]; exact gl0 (by decide) (by decide) (by decide))⟩
      · cases h
    · split at h
      · unfold rGo at h
        split at h
        · split at h
          · rename_i c
            cases h
            exact ⟨rfl, no _ (show (2 : Int32) ≠ 4 by decide) (by rw [c]; exact gl0 (by decide) (by decide) (by decide))⟩
          · exact sg r h4 h rfl
        · exact sg r h4 h rfl
      · rename_i g
        have g0 := gl_fig (areG := areG) g
        unfold rFigs at h
        split at h
        · split at h
          · cases h; exact ⟨rfl, no _ h4 g0⟩
          · cases h
        · split at h
          · cases h; exact ⟨rfl, no _ (show (3 : Int32) ≠ 4 by decide) g0⟩
          · split at h
            · cases h; exact ⟨rfl, no _ (show (6 : Int32) ≠ 4 by decide) g0⟩
            · cases h
end MK
