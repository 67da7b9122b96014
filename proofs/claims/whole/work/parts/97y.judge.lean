/-! own: a siren is judged, in the model -/
set_option maxRecDepth 100000
def mjI (I : Nat → Nat → Int32) (F : Nat → Nat → UInt32) (x d r t0 : Nat) : Nat → Nat → Int32 := if f_X9_reasonAgainst (nI r) I = 0 then (if Op.cmpValue (FP.fcmp (F 525 (201 * d + t0)) (FP.i2f (I 528 d))) .l < 0 then (if nI t0 < I 513 r then I else am_u I 535 x 2) else am_u (am_u I 535 x 1) 531 d (I 531 d + (if nI t0 - I 534 x < I 529 d then 0 else I 536 x))) else am_u I 535 x 3
def mjF (I : Nat → Nat → Int32) (F : Nat → Nat → UInt32) (d r t0 : Nat) : Nat → Nat → UInt32 := if f_X9_reasonAgainst (nI r) I = 0 then (if Op.cmpValue (FP.fcmp (F 525 (201 * d + t0)) (FP.i2f (I 528 d))) .l < 0 then (if nI t0 < I 513 r then F else am_u F 530 d (FP.fmul (F 530 d) 1061158912)) else am_u F 530 d (FP.fadd (F 530 d) (FP.fmul (FP.fsub 1065353216 (F 530 d)) 1056964608))) else am_u F 530 d (FP.fmul (F 530 d) 1063675494)
section JU
variable {X : Nat × (Nat → Int32)} {I : Nat → Nat → Int32} {L : Nat → Nat → Int64} {F : Nat → Nat → UInt32} {Q : AQ} {d t0 rc r T x : Nat} {s : AS}
theorem sp_mjudges (w : WA s) (z : CA I L s) (z2 : MA I s) (rr : RunR I F (aC s) T rc) (hx : x < 60) (hd : d < 3) (hr : r < rc) (e532 : I 532 x = nI d) (e533 : I 533 x = nI r) (e1 : I 498 1 = nI t0) (ht : t0 < 200) (tr : TrOk (F 530 d)) (q : Q (.inl none) (G X (mjI I F x d r t0) L (mjF I F d r t0))) : WP mX10_judges 0 (am_ent 5 [.ref 498, .int (nI x)]) [] (G X I L F) 0 0 Q := by
  have r40 := rr.1
  have hxi : vp_in (nI x) 60 := nI_in hx (by decide)
  have hdi : vp_in (nI d) 3 := nI_in hd (by decide)
  have hri : vp_in (nI r) 40 := nI_in (by omega) (by decide)
  have ei : (201 : Int32) * nI d + nI t0 = nI (201 * d + t0) := by rw [show (201 : Int32) = nI 201 from rfl, nI_mul, nI_add]
  refine k_X10_judges_0 ⟨hxi, hxi, ?_⟩
  rw [nI_clamp (show x < 2 ^ 31 by omega), e532, e533]
  refine sp_whySame w z z2 rr hr (k_X10_judges_19 ?_)
  rw [nI_clamp (show x < 2 ^ 31 by omega), nI_clamp (show d < 2 ^ 31 by omega), nI_clamp (show r < 2 ^ 31 by omega), e1, ei, nI_clamp (show 201 * d + t0 < 2 ^ 31 by omega)]
  refine ⟨⟨fun _ => ⟨nI_in (by omega) (by decide), hdi, fun _ => ⟨hri, fun _ => ⟨hxi, hdi, nn_vf.mpr (tr.mul tr_075).1.nn, hdi, trivial⟩⟩, fun _ => ⟨hdi, nn_vf.mpr tr.lacks.1.nn, hxi, hdi, nn_vf.mpr (tr.lacks.mul tr_half).1.nn, nn_vf.mpr tr.rise.1.nn, hdi, hdi, hxi, hdi, fun _ => ⟨hxi, trivial⟩, hdi, trivial⟩⟩, fun _ => ⟨hxi, hdi, nn_vf.mpr (tr.mul tr_09).1.nn, hdi, trivial⟩⟩, fun J eJ H eH d4 _ => ?_⟩
  have a : J = mjI I F x d r t0 := eJ
  have b : H = mjF I F d r t0 := eH
  rw [a, b]
  exact q
end JU
