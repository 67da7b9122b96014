/-! own: a number in a text: the model's and the reader's -/
set_option maxRecDepth 100000
section NU
variable {X : Nat × (Nat × (Nat → Int32))} {I J : Nat → Nat → Int32} {L : Nat → Nat → Int64} {F H : Nat → Nat → UInt32} {Q : AQ} {nm : Nat → UInt32} {rule : Int32}
def good (R : RS) : Prop := rS (rFin R) = 6 ∧ (rH (rFin R)).length = 0
end NU
