/-! own: what a version rests on; the model's closure -/
set_option maxRecDepth 100000
def rch (p : Nat → Int32) : Nat → Nat → Nat → Prop
  | 0, v, u => u = v
  | n + 1, v, u => u = v ∨ ∃ k w, k < 6 ∧ p (6 * v + k) = nI w ∧ w < v ∧ rch p n w u
/-- u is v, or rests under v by pins -/
def Rch (p : Nat → Int32) (v u : Nat) : Prop := rch p 60 v u
section RC
variable {p : Nat → Int32}
theorem rch_mono : ∀ (n : Nat) {v u : Nat}, rch p n v u → rch p (n + 1) v u
  | 0, v, u, h => Or.inl h
  | n + 1, v, u, h => by
    rcases h with h | ⟨k, w, h1, h2, h3, h4⟩
    · exact Or.inl h
    · exact Or.inr ⟨k, w, h1, h2, h3, rch_mono n h4⟩
theorem rch_add (n : Nat) : ∀ (m : Nat) {v u : Nat}, rch p n v u → rch p (n + m) v u
  | 0, _, _, h => h
  | m + 1, _, _, h => rch_mono (n + m) (rch_add n m h)
theorem rch_cut : ∀ (n : Nat) {v u : Nat}, rch p n v u → rch p v v u
  | 0, v, u, h => by cases v with
    | zero => exact h
    | succ v => exact Or.inl h
  | n + 1, v, u, h => by
    rcases h with h | ⟨k, w, h1, h2, h3, h4⟩
    · cases v with
      | zero => exact h
      | succ v => exact Or.inl h
    · cases v with
      | zero => omega
      | succ v =>
        have z := rch_add w (v - w) (rch_cut n h4)
        rw [show w + (v - w) = v by omega] at z
        exact Or.inr ⟨k, w, h1, h2, h3, z⟩
theorem Rch.of {n v u : Nat} (hv : v ≤ 60) (h : rch p n v u) : Rch p v u := by
  have z := rch_add v (60 - v) (rch_cut n h)
  rw [show v + (60 - v) = 60 by omega] at z
  exact z
theorem Rch.self {v : Nat} : Rch p v v := Or.inl rfl
theorem rch_snoc : ∀ (n : Nat) {v u w k : Nat}, rch p n v u → k < 6 → p (6 * u + k) = nI w → w < u → rch p (n + 1) v w
  | 0, v, u, w, k, h, h1, h2, h3 => by
    cases h
    exact Or.inr ⟨k, w, h1, h2, h3, rfl⟩
  | n + 1, v, u, w, k, h, h1, h2, h3 => by
    rcases h with h | ⟨k2, x, a1, a2, a3, a4⟩
    · subst h
      exact Or.inr ⟨k, w, h1, h2, h3, Or.inl rfl⟩
    · exact Or.inr ⟨k2, x, a1, a2, a3, rch_snoc n a4 h1 h2 h3⟩
theorem Rch.snoc {v u w k : Nat} (hv : v ≤ 60) (h : Rch p v u) (h1 : k < 6) (h2 : p (6 * u + k) = nI w) (h3 : w < u) : Rch p v w := Rch.of hv (rch_snoc 60 h h1 h2 h3)
theorem Rch.step {v u w k : Nat} (hv : v ≤ 60) (h1 : k < 6) (h2 : p (6 * v + k) = nI w) (h3 : w < v) (h : Rch p w u) : Rch p v u := Rch.of (n := 61) hv (Or.inr ⟨k, w, h1, h2, h3, h⟩)
theorem Rch.cases {v u : Nat} (h : Rch p v u) : u = v ∨ ∃ k w, k < 6 ∧ p (6 * v + k) = nI w ∧ w < v ∧ Rch p w u := by
  rcases h with h | ⟨k, w, h1, h2, h3, h4⟩
  · exact Or.inl h
  · exact Or.inr ⟨k, w, h1, h2, h3, rch_mono 59 h4⟩
theorem rch_le : ∀ (n : Nat) {v u : Nat}, rch p n v u → u ≤ v
  | 0, v, u, h => by cases h; exact Nat.le_refl _
  | n + 1, v, u, h => by
    rcases h with h | ⟨k, w, h1, h2, h3, h4⟩
    · omega
    · have := rch_le n h4; omega
/-- a set that holds v and the pins of what it holds, holds all under v -/
theorem rch_in {S : Nat → Prop} {b : Nat} (hs : ∀ u, u ≤ b → S u → ∀ k w, k < 6 → p (6 * u + k) = nI w → w < u → S w) : ∀ (n : Nat) {v u : Nat}, rch p n v u → v ≤ b → S v → S u
  | 0, v, u, h, _, z => by cases h; exact z
  | n + 1, v, u, h, hb, z => by
    rcases h with h | ⟨k, w, h1, h2, h3, h4⟩
    · rw [h]; exact z
    · exact rch_in hs n h4 (by omega) (hs v hb z k w h1 h2 h3)
end RC
section CL
variable {X : Nat × (Nat × (Nat → Int32))} {I : Nat → Nat → Int32} {L : Nat → Nat → Int64} {F : Nat → Nat → UInt32} {Q : AQ} {v : Nat}
def CInv (p : Nat → Int32) (v : Nat) (S : Int64) (n : Nat) : Prop := (∀ u, lb S u = true → Rch p v u) ∧ lb S v = true ∧ ∀ u, n ≤ u → u ≤ v → lb S u = true → ∀ k w, k < 6 → p (6 * u + k) = nI w → w < u → lb S w = true
end CL
