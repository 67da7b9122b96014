/-! own: the model finds an output -/
set_option maxRecDepth 100000
def PinNamed (I : Nat → Nat → Int32) (v : Nat) : Prop := ∀ j, j < 6 → ((1, nI (3 + j)) ∈ rF (rForm 0 (vT (I 1000502) (I 1000503) v)) ∨ (1, nI (9 + j)) ∈ rF (rForm 0 (vT (I 1000502) (I 1000503) v))) → I 1000504 (6 * v + j) ≠ -1
def VM (I : Nat → Nat → Int32) (c : Nat) : Prop := ∀ v, v < c → Txt 0 (vT (I 1000502) (I 1000503) v) ∧ I 1000502 v = nI (vT (I 1000502) (I 1000503) v).length ∧ PinsOk (I 1000504) v ∧ PinNamed I v
def OM (I : Nat → Nat → Int32) (F : Nat → Nat → UInt32) (c : Nat) : Prop := ∀ v, v < c → ∃ kn, kn ≤ 201 ∧ I 1000510 v = nI kn ∧ ∀ h, h < kn → F 1000509 (201 * v + h) = OI I v h
def MOI (I J : Nat → Nat → Int32) : Prop := ∀ o k, ¬ (o = 1000498 ∧ (k = 46 ∨ k = 48 ∨ k = 50)) → o ≠ 1000537 → o ≠ 1000539 → o ≠ 1000510 → J o k = I o k
def MOF (F H : Nat → Nat → UInt32) : Prop := ∀ o k, o ≠ 1000538 → o ≠ 1000509 → H o k = F o k
section MF2
variable {X : Nat × (Nat × (Nat → Int32))} {I J K : Nat → Nat → Int32} {L : Nat → Nat → Int64} {F H H2 : Nat → Nat → UInt32} {Q : AQ} {c v h : Nat}
theorem MOI.refl : MOI I I := fun _ _ _ _ _ _ => rfl
theorem MOF.refl : MOF F F := fun _ _ _ _ => rfl
theorem MOI.trans (h1 : MOI I J) (h2 : MOI J K) : MOI I K := fun o k a b c d => (h2 o k a b c d).trans (h1 o k a b c d)
theorem MOF.trans (h1 : MOF F H) (h2 : MOF H H2) : MOF F H2 := fun o k a b => (h2 o k a b).trans (h1 o k a b)
theorem MOI.row (h : MOI I J) {o : Nat} (h1 : o ≠ 1000498) (h2 : o ≠ 1000537) (h3 : o ≠ 1000539) (h4 : o ≠ 1000510) : J o = I o := funext fun k => h o k (fun n => h1 n.1) h2 h3 h4
theorem MOI.oi (h : MOI I J) : OI J = OI I := OI_cong (h.row (by decide) (by decide) (by decide) (by decide)) (h.row (by decide) (by decide) (by decide) (by decide)) (h.row (by decide) (by decide) (by decide) (by decide)) (h.row (by decide) (by decide) (by decide) (by decide))
theorem MOI.vm (h : MOI I J) (z : VM I c) : VM J c := by
  intro v hv
  have z := z v hv
  unfold PinNamed at z ⊢
  rw [h.row (o := 1000502) (by decide) (by decide) (by decide) (by decide), h.row (o := 1000503) (by decide) (by decide) (by decide) (by decide), h.row (o := 1000504) (by decide) (by decide) (by decide) (by decide)]
  exact z
theorem MIF.moi (h : MIF I J) : MOI I J := fun o k a _ c _ => h o k (fun n => a ⟨n.1, by rcases n.2 with e | e; exact Or.inr (Or.inl e); exact Or.inr (Or.inr e)⟩) c
theorem nI_mul (a b : Nat) : nI a * nI b = nI (a * b) := (Int32.ofNat_mul a b).symm
section NMD
variable {ver hour fig : Int32}
end NMD
end MF2
