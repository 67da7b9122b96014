/-! own: a version enters, and the stale ones, in the model -/
set_option maxRecDepth 100000
def MAv (I : Nat → Nat → Int32) (s : AS) : Prop := ∀ v, v < aC s → vT (I 1000502) (I 1000503) v = aT s v ∧ I 1000502 v = nI (aT s v).length ∧ (∀ k, k < 6 → I 1000504 (6 * v + k) = aP s v k) ∧ I 1000501 v = aM s v
def MA (I : Nat → Nat → Int32) (s : AS) : Prop := I 1000498 5 = nI (aC s) ∧ MAv I s ∧ ∀ k, k < 6 → I 1000505 k = aL s k
/-- what a publishing may change -/
def PubF (c : Nat) (I J : Nat → Nat → Int32) : Prop := ∀ o k, ¬ (o = 1000501 ∧ c ≤ k) → ¬ (o = 1000502 ∧ c ≤ k) → ¬ (o = 1000503 ∧ 40 * c ≤ k) → ¬ (o = 1000504 ∧ 6 * c ≤ k) → ¬ (o = 1000510 ∧ c ≤ k) → o ≠ 1000505 → o ≠ 1000506 → ¬ (o = 1000498 ∧ k = 5) → J o k = I o k
section MP
variable {X : Nat × (Nat × (Nat → Int32))} {I J K : Nat → Nat → Int32} {L : Nat → Nat → Int64} {F : Nat → Nat → UInt32} {Q : AQ} {c m : Nat} {s : AS} {t : List Int32}
theorem PubF.refl : PubF c I I := fun _ _ _ _ _ _ _ _ _ _ => rfl
theorem PubF.trans {c2 : Nat} (h : PubF c I J) (h2 : PubF c2 J K) (l : c ≤ c2) : PubF c I K := fun o k a b d e f g i j =>
  (h2 o k (fun n => a ⟨n.1, by omega⟩) (fun n => b ⟨n.1, by omega⟩) (fun n => d ⟨n.1, by omega⟩) (fun n => e ⟨n.1, by omega⟩) (fun n => f ⟨n.1, by omega⟩) g i j).trans (h o k a b d e f g i j)
theorem PubF.wr {o k : Nat} {z : Int32} (h : PubF c I J) (w : (o = 1000501 ∧ c ≤ k) ∨ (o = 1000502 ∧ c ≤ k) ∨ (o = 1000503 ∧ 40 * c ≤ k) ∨ (o = 1000504 ∧ 6 * c ≤ k) ∨ (o = 1000510 ∧ c ≤ k) ∨ o = 1000505 ∨ o = 1000506 ∨ (o = 1000498 ∧ k = 5)) : PubF c I (am_u J o k z) := fun o2 k2 a b d e f g i j => by
  by_cases x : o2 = o ∧ k2 = k
  · obtain ⟨x1, x2⟩ := x
    rw [x1, x2] at a b d e f j
    rw [x1] at g i
    rcases w with w | w | w | w | w | w | w | w
    · exact absurd w a
    · exact absurd w b
    · exact absurd w d
    · exact absurd w e
    · exact absurd w f
    · exact absurd w g
    · exact absurd w i
    · exact absurd w j
  · rw [am_u_ne (by by_cases y : o2 = o; exact Or.inr (fun n => x ⟨y, n⟩); exact Or.inl y)]
    exact h o2 k2 a b d e f g i j
theorem PubF.mrv (h : PubF c I J) (w : WA s) (l : aC s ≤ c) (z : MAv I s) : MAv J s := fun v hv => by
  obtain ⟨a, b, d, e⟩ := z v hv
  have len := (w.2.1 v hv).1.1
  have e2 : J 1000502 v = I 1000502 v := h 1000502 v (by omega) (by omega) (by omega) (by omega) (by omega) (by omega) (by omega) (by omega)
  refine ⟨?_, e2.trans b, fun k hk => ?_, ?_⟩
  · rw [← a]
    unfold vT
    rw [e2, b, nI_clamp (by omega)]
    exact seg_cong _ _ _ (fun k hk => h 1000503 (40 * v + k) (by omega) (by omega) (by omega) (by omega) (by omega) (by omega) (by omega) (by omega))
  · rw [← d k hk]
    exact h 1000504 (6 * v + k) (by omega) (by omega) (by omega) (by omega) (by omega) (by omega) (by omega) (by omega)
  · rw [← e]
    exact h 1000501 v (by omega) (by omega) (by omega) (by omega) (by omega) (by omega) (by omega) (by omega)
theorem MA.vm (z : MA I s) (w : WA s) : VM I (aC s) := fun v hv => by
  obtain ⟨a, b, d, e⟩ := z.2.1 v hv
  obtain ⟨tx, ps, _⟩ := w.2.1 v hv
  rw [← a] at tx b
  refine ⟨tx, b, fun k hk => by rw [d k hk]; exact (ps k hk).1, fun j hj h => ?_⟩
  rw [d j hj]
  refine (ps j hj).2.mpr ?_
  rw [← a, ← mask_txt (Or.inl rfl) tx]
  exact form_mask tx hj h
theorem MA.lo (z : MA I s) (w : WA s) : LatOk I (aC s) := fun k hk => by
  rw [z.2.2 k hk]
  rcases w.2.2 k hk with e | ⟨v, hv, e, _⟩
  · exact Or.inl e
  · exact Or.inr ⟨v, hv, e⟩

end MP
