/-! own: a letter where a factor begins; whole texts -/
set_option maxRecDepth 100000
section WF2
variable {X : Nat × (Nat × (Nat → Int32))} {I : Nat → Nat → Int32} {L : Nat → Nat → Int64} {F : Nat → Nat → UInt32} {Q : AQ} {nm : Nat → UInt32} {rule ver hour : Int32}
theorem step_nam {ch : Int32} {r r2 : RS} (h4 : rS r = 4) (h : rStep rule ch r = some r2) : ¬ rFig ch = -1 ∧ ¬ rC r ≤ rFig ch ∧ r2 = rName (rL r + rFig ch) r := by
  unfold rStep at h
  rw [if_neg (by rw [h4]; decide), if_pos h4] at h
  split at h
  · cases h
  · split at h
    · cases h
    · cases h; exact ⟨‹_›, ‹_›, rfl⟩

end WF2
