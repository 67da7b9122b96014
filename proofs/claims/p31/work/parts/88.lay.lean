/-! own: closures over models, the model's -/
set_option maxRecDepth 100000
def LatOk (I : Nat → Nat → Int32) (c : Nat) : Prop := ∀ k, k < 6 → I 1000505 k = -1 ∨ ∃ v, v < c ∧ I 1000505 k = nI v
section LR
variable {X : Nat × (Nat × (Nat → Int32))} {I : Nat → Nat → Int32} {L : Nat → Nat → Int64} {F : Nat → Nat → UInt32} {Q : AQ} {c : Nat} {N : Nat → Int32}
end LR
