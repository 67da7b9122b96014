/-! own: the two faults of a text agree -/
set_option maxRecDepth 100000
theorem fig_eq {ch : Int32} (h : ¬ rFig ch = -1) : rFig ch = ch - 48 := by
  unfold rFig at h ⊢
  split
  · rename_i a; rw [if_pos a] at h; exact absurd rfl h
  · rename_i a
    rw [if_neg a] at h
    split
    · rename_i b; rw [if_pos b] at h; exact absurd rfl h
    · rfl
section SM
variable {rule ch st fg le : Int32} {fr : List Int32} {r : RS}
end SM
