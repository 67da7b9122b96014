/-! own: the model's fault of a text is that function -/
set_option maxRecDepth 100000
section MX
variable {X : Nat × (Nat × (Nat → Int32))} {I : Nat → Nat → Int32} {L : Nat → Nat → Int64} {F : Nat → Nat → UInt32} {Q : AQ} {rule : Int32}
theorem Fr1.trans {z : Nat} {I J K : Nat → Nat → Int32} (h1 : Fr1 z I J) (h2 : Fr1 z J K) : Fr1 z I K := fun o k n => (h2 o k n).trans (h1 o k n)
end MX
