/-! own: publish and retire of the model -/
set_option maxRecDepth 100000
/-- what is laid while a call is judged -/
def MPF (I J : Nat → Nat → Int32) : Prop := ∀ o k, o ≠ 1000500 → o ≠ 1000506 → ¬ (o = 1000498 ∧ k = 0) → J o k = I o k
def retA (m : Nat) (s : AS) : AS := (aC s, aT s, aP s, (fun k => if k = m then -1 else aL s k), aM s)
section PY
variable {X : Nat × (Nat × (Nat → Int32))} {I J K : Nat → Nat → Int32} {L : Nat → Nat → Int64} {F : Nat → Nat → UInt32} {Q : AQ} {c m k : Nat} {s zf : AS} {t : List Int32} {f lat : Nat → Bool}
theorem MPF.refl : MPF I I := fun _ _ _ _ _ => rfl
end PY
