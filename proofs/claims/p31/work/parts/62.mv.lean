/-! own: the model's values and what waits -/
set_option maxRecDepth 100000
def MIF (I J : Nat → Nat → Int32) : Prop := ∀ o k, ¬ (o = 1000498 ∧ (k = 48 ∨ k = 50)) → o ≠ 1000539 → J o k = I o k
def MFF (F H : Nat → Nat → UInt32) : Prop := ∀ o k, o ≠ 1000538 → H o k = F o k
section MV
variable {I J K : Nat → Nat → Int32} {F H H2 : Nat → Nat → UInt32} {s : List UInt32} {w : List Int32} {x : UInt32} {v : Int32}
theorem MIF.refl : MIF I I := fun _ _ _ _ => rfl
theorem MFF.refl : MFF F F := fun _ _ _ => rfl
theorem MIF.trans (h1 : MIF I J) (h2 : MIF J K) : MIF I K := fun o k n m => (h2 o k n m).trans (h1 o k n m)
theorem MFF.trans (h1 : MFF F H) (h2 : MFF H H2) : MFF F H2 := fun o k n => (h2 o k n).trans (h1 o k n)
def nk (k : Int32) : Nat := if k = 6 then 1 else if k = 10 then 1 else if k = 11 then 1 else if k = 9 then 3 else 2
end MV
