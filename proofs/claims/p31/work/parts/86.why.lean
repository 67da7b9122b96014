/-! own: the gauges under a version; why a run does not stand, by the model -/
set_option maxRecDepth 100000
/-- the gauge g is named by the version v, or by one under it -/
def GU (I : Nat → Nat → Int32) (v g : Nat) : Prop := ∃ u, u ≤ v ∧ Rch (I 1000504) v u ∧ ib (msk 1 (vT (I 1000502) (I 1000503) u)) g = true
/-- another rain was told behind a run's making that it hangs on -/
def RP (I : Nat → Nat → Int32) (r : Nat) (z : Nat → Prop) : Prop := ∃ k, k < 603 ∧ z (k / 201) ∧ nI (k % 201) ≤ I 1000513 r ∧ I 1000516 r < I 1000508 k
section WY
variable {X : Nat × (Nat × (Nat → Int32))} {I : Nat → Nat → Int32} {L : Nat → Nat → Int64} {F : Nat → Nat → UInt32} {Q : AQ} {c v r : Nat}
theorem d201 : ∀ k, k < 603 → nI k / 201 = nI (k / 201) ∧ nI k - nI k / 201 * 201 = nI (k % 201) := by decide +kernel
end WY
