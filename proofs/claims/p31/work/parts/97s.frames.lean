/-! own: what shows versions and runs stays when other cells change -/
set_option maxRecDepth 100000
section FS
variable {I J K : Nat → Nat → Int32} {L M : Nat → Nat → Int64} {F H : Nat → Nat → UInt32} {c T rc r : Nat} {s : AS}
theorem CA.lo (h : ∀ o k, 8 < o → o < 379 → k ≠ 6 → J o k = I o k ∨ ¬ (o < 15 ∨ 19 ≤ o)) (h2 : ∀ o k, 8 < o → o < 379 → M o k = L o k) (hf : ∀ o k, 19 < o → o < 379 → ¬ (∃ v, v < 60 ∧ o = 19 + 6 * v) → J o k = I o k) (hc : aC s ≤ 60) (z : CA I L s) : CA J M s := by
  have g : ∀ o k, 8 < o → o < 379 → k ≠ 6 → (o < 15 ∨ 19 ≤ o) → J o k = I o k := fun o k a b d e => (h o k a b d).elim id (fun n => absurd e n)
  refine ⟨(g 9 4 (by omega) (by omega) (by omega) (by omega)).trans z.1, fun v hv => ?_, fun k hk => (g 14 k (by omega) (by omega) (by omega) (by omega)).trans (z.2.2 k hk)⟩
  obtain ⟨a, b, d, e, f⟩ := z.2.1 v hv
  refine ⟨a.fr (fun x y h1 h3 => hf x y (by omega) (by omega) (fun ⟨v, _, h⟩ => by omega)), fun k hk => (hf _ k (by omega) (by omega) (fun ⟨v, _, h⟩ => by omega)).trans (b k hk), (g _ 3 (by omega) (by omega) (by omega) (by omega)).trans d, fun x => ?_, fun x => ?_⟩
  · rw [g _ 4 (by omega) (by omega) (by omega) (by omega), e x]
    exact or_congr Iff.rfl ⟨fun ⟨k, u, h1, h3, h5, h4⟩ => ⟨k, u, h1, h3, h5, by rw [g _ 4 (by omega) (by omega) (by omega) (by omega)]; exact h4⟩, fun ⟨k, u, h1, h3, h5, h4⟩ => ⟨k, u, h1, h3, h5, by rw [g _ 4 (by omega) (by omega) (by omega) (by omega)] at h4; exact h4⟩⟩
  · rw [h2 _ 5 (by omega) (by omega), f x]
    exact or_congr Iff.rfl ⟨fun ⟨k, u, h1, h3, h5, h4⟩ => ⟨k, u, h1, h3, h5, by rw [h2 _ 5 (by omega) (by omega)]; exact h4⟩, fun ⟨k, u, h1, h3, h5, h4⟩ => ⟨k, u, h1, h3, h5, by rw [h2 _ 5 (by omega) (by omega)] at h4; exact h4⟩⟩
/-- versions, when nothing of the class's shelf changes -/
theorem CA.hi (h : ∀ o k, 8 < o → o < 379 → J o k = I o k) (hc : aC s ≤ 60) (z : CA I L s) : CA J L s :=
  z.lo (fun o k a b _ => Or.inl (h o k a b)) (fun _ _ _ _ => rfl) (fun o k a b _ => h o k (by omega) b) hc
/-- versions, when outputs are found -/
theorem CA.oif (h : OIF I J) (hc : aC s ≤ 60) (z : CA I L s) : CA J L s := by
  have h2 : ∀ o k, o ≠ 10 → 8 < o → o < 379 → k ≠ 6 → J o k = I o k := fun o k n a b d => h o k (fun x => n x.1) (fun ⟨v, _, _, m, _⟩ => d m)
  have h3 : ∀ o k, 19 < o → o < 379 → ¬ (∃ v, v < 60 ∧ o = 19 + 6 * v) → J o k = I o k := fun o k a b n => h o k (by omega) (fun ⟨v, l, e, _⟩ => n ⟨v, l, e⟩)
  refine ⟨(h2 9 4 (by omega) (by omega) (by omega) (by omega)).trans z.1, fun v hv => ?_, fun k hk => (h2 14 k (by omega) (by omega) (by omega) (by omega)).trans (z.2.2 k hk)⟩
  obtain ⟨a, b, d, e, f⟩ := z.2.1 v hv
  refine ⟨a.fr (fun x y h1 _ => h3 x y (by omega) (by omega) (fun ⟨v, _, h⟩ => by omega)), fun k hk => (h3 _ k (by omega) (by omega) (fun ⟨v, _, h⟩ => by omega)).trans (b k hk), (h2 _ 3 (by omega) (by omega) (by omega) (by omega)).trans d, fun x => ?_, f⟩
  rw [h2 _ 4 (by omega) (by omega) (by omega) (by omega), e x]
  exact or_congr Iff.rfl ⟨fun ⟨k, u, h1, h3, h5, h4⟩ => ⟨k, u, h1, h3, h5, by rw [h2 _ 4 (by omega) (by omega) (by omega) (by omega)]; exact h4⟩, fun ⟨k, u, h1, h3, h5, h4⟩ => ⟨k, u, h1, h3, h5, by rw [h2 _ 4 (by omega) (by omega) (by omega) (by omega)] at h4; exact h4⟩⟩
/-- the model's versions, when outputs are found -/
theorem MA.mo (h : MOI I J) (z : MA I s) : MA J s := by
  have e : ∀ o, o ≠ 1000498 → o ≠ 1000537 → o ≠ 1000539 → o ≠ 1000510 → J o = I o := fun o a b c d => funext fun k => h o k (fun n => a n.1) b c d
  refine ⟨(h 1000498 5 (by decide) (by decide) (by decide) (by decide)).trans z.1, ?_, fun k hk => ?_⟩
  · unfold MAv
    rw [e 1000502 (by decide) (by decide) (by decide) (by decide), e 1000503 (by decide) (by decide) (by decide) (by decide), e 1000504 (by decide) (by decide) (by decide) (by decide), e 1000501 (by decide) (by decide) (by decide) (by decide)]
    exact z.2.1
  · rw [e 1000505 (by decide) (by decide) (by decide) (by decide)]; exact z.2.2 k hk
/-- one run, when what shows it stays -/
theorem Run1.fr (e1 : ∀ k, J (383 + r) k = I (383 + r) k) (e2 : ∀ o, (1000502 ≤ o ∧ o ≤ 1000504) ∨ o = 1000508 ∨ (1000511 ≤ o ∧ o ≤ 1000516) → J o = I o) (e3 : H (383 + r) 3 = F (383 + r) 3) (e4 : H 1000514 = F 1000514) (z : Run1 I F c T r) : Run1 J H c T r := by
  have g : ∀ v, GU J v = GU I v := fun v => by
    funext x
    unfold GU
    rw [e2 1000502 (by omega), e2 1000503 (by omega), e2 1000504 (by omega)]
  unfold Run1 at z ⊢
  unfold RP at z ⊢
  simp only [g, e1, e3, e4, e2 1000511 (by omega), e2 1000512 (by omega), e2 1000513 (by omega), e2 1000515 (by omega), e2 1000516 (by omega), e2 1000508 (by omega)]
  exact z
end FS
