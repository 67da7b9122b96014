/-! own: a siren is judged, in the model -/
set_option maxRecDepth 100000
def mjI (I : Nat → Nat → Int32) (F : Nat → Nat → UInt32) (x d r t0 : Nat) : Nat → Nat → Int32 := if f_X9_reasonAgainst (nI r) I = 0 then (if Op.cmpValue (FP.fcmp (F 1000525 (201 * d + t0)) (FP.i2f (I 1000528 d))) .l < 0 then (if nI t0 < I 1000513 r then I else am_u I 1000535 x 2) else am_u (am_u I 1000535 x 1) 1000531 d (I 1000531 d + (if nI t0 - I 1000534 x < I 1000529 d then 0 else I 1000536 x))) else am_u I 1000535 x 3
def mjF (I : Nat → Nat → Int32) (F : Nat → Nat → UInt32) (d r t0 : Nat) : Nat → Nat → UInt32 := if f_X9_reasonAgainst (nI r) I = 0 then (if Op.cmpValue (FP.fcmp (F 1000525 (201 * d + t0)) (FP.i2f (I 1000528 d))) .l < 0 then (if nI t0 < I 1000513 r then F else am_u F 1000530 d (FP.fmul (F 1000530 d) 1061158912)) else am_u F 1000530 d (FP.fadd (F 1000530 d) (FP.fmul (FP.fsub 1065353216 (F 1000530 d)) 1056964608))) else am_u F 1000530 d (FP.fmul (F 1000530 d) 1063675494)
section JU
variable {X : Nat × (Nat × (Nat → Int32))} {I : Nat → Nat → Int32} {L : Nat → Nat → Int64} {F : Nat → Nat → UInt32} {Q : AQ} {d t0 rc r T x : Nat} {s : AS}
end JU
