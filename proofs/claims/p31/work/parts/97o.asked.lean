/-! own: what a rule asks for, in the model -/
set_option maxRecDepth 100000
/-- the names of a rule -/
def rnm (hour lev inf peak : UInt32) : Nat → UInt32 := fun j => if j = 16 then hour else if j = 17 then lev else if j = 18 then inf else if j = 19 then peak else 0
section AK
variable {X : Nat × (Nat × (Nat → Int32))} {I J K : Nat → Nat → Int32} {L : Nat → Nat → Int64} {F H : Nat → Nat → UInt32} {Q : AQ} {d l : Nat} {t0 : Int32}
end AK
