/-! own: the model's fault of a text, as a function -/
set_option maxRecDepth 100000
def Fr1 (z : Nat) (I J : Nat → Nat → Int32) : Prop := ∀ o k, o ≠ z → J o k = I o k
section MF
variable {X : Nat × (Nat × (Nat → Int32))} {I J K : Nat → Nat → Int32} {L : Nat → Nat → Int64} {F : Nat → Nat → UInt32} {Q : AQ} {rule : Int32} {a k z : Nat} {v : Int32}
theorem Fr1.refl : Fr1 z I I := fun _ _ _ => rfl
end MF
