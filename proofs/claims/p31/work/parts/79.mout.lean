/-! own: the model's outputs -/
set_option maxRecDepth 100000
def OutM (I : Nat → Nat → Int32) (F : Nat → Nat → UInt32) (c : Nat) : Prop := c ≤ 60 ∧ VM I c ∧ OM I F c
section MU
variable {X : Nat × (Nat × (Nat → Int32))} {L : Nat → Nat → Int64} {Q : AQ} {c v h : Nat}
end MU
