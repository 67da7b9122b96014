/-! own: hours pass in the model -/
set_option maxRecDepth 100000
/-- what a pass may change in the model -/
def MPfr (J0 J : Nat → Nat → Int32) : Prop := ∀ o k, ¬ (o = 1000498 ∧ (k = 0 ∨ k = 1 ∨ k = 46 ∨ k = 48 ∨ k = 50)) → o ≠ 1000537 → o ≠ 1000539 → o ≠ 1000510 → o ≠ 1000531 → o ≠ 1000535 → J o k = J0 o k
def MPFr (H0 H : Nat → Nat → UInt32) : Prop := ∀ o k, o ≠ 1000538 → o ≠ 1000509 → ¬ (o = 1000498 ∧ 51 ≤ k ∧ k ≤ 53) → o ≠ 1000520 → o ≠ 1000525 → o ≠ 1000530 → H o k = H0 o k
/-- what both sides leave as it was -/
def PFr (I0 J : Nat → Nat → Int32) (F0 H : Nat → Nat → UInt32) : Prop := (∀ o k, ¬ (o = 0 ∧ k = 9) → ¬ (o = 10 ∧ k = 2) → ¬ (∃ v, v < 60 ∧ o = 19 + 6 * v ∧ k = 6 ∧ nI v < I0 9 4) → ¬ (∃ d, d < 3 ∧ o = 423 + 5 * d ∧ k = 13) → ¬ (438 ≤ o ∧ o < 498 ∧ k = 4) → ¬ (o = 1000498 ∧ (k = 0 ∨ k = 1 ∨ k = 46 ∨ k = 48 ∨ k = 50)) → o ≠ 1000537 → o ≠ 1000539 → o ≠ 1000510 → o ≠ 1000531 → o ≠ 1000535 → J o k = I0 o k) ∧ (∀ k, H 1000514 k = F0 1000514 k) ∧ ∀ r, r < 40 → H (383 + r) 3 = F0 (383 + r) 3
/-- the model's cells show the state A, B at the hour t -/
def MVs (s : AS) (J0 : Nat → Nat → Int32) (H0 : Nat → Nat → UInt32) (A : Nat → Nat → Int32) (B : Nat → Nat → UInt32) (t : Nat) (J : Nat → Nat → Int32) (H : Nat → Nat → UInt32) : Prop := MPfr J0 J ∧ MPFr H0 H ∧ OutM J H (aC s) ∧ (J 1000498 1 = nI t ∧ J 1000498 0 = 0) ∧ (∀ k, J 1000531 k = A 1000531 k) ∧ (∀ k, J 1000535 k = A 1000535 k) ∧ (∀ k, H 1000520 k = B 1000520 k) ∧ (∀ k, H 1000525 k = B 1000525 k) ∧ ∀ k, H 1000530 k = B 1000530 k
section MQ
variable {X : Nat × (Nat × (Nat → Int32))} {I I0 J0 A J : Nat → Nat → Int32} {F F0 H0 B H : Nat → Nat → UInt32} {s : AS} {d t x sc j n r rc T o k t0 : Nat} {L : Nat → Nat → Int64} {Q : AQ}
theorem PFr.of (f : CPf I0 J0) (g : CPF F0 H0) (a : MPfr J0 J) (b : MPFr H0 H) : PFr I0 J F0 H :=
  ⟨fun o k x1 x2 x3 x4 x5 x6 x7 x8 x9 y1 y2 => (a o k x6 x7 x8 x9 y1 y2).trans (f o k x1 x2 x3 x4 x5), fun k => (b 1000514 k (by decide) (by decide) (by omega) (by decide) (by decide) (by decide)).trans (g 1000514 k (by decide) (by decide) (fun ⟨v, x, y⟩ => by omega) (by decide)), fun r hr => (b _ 3 (by omega) (by omega) (by omega) (by omega) (by omega) (by omega)).trans (g _ 3 (by omega) (by omega) (fun ⟨v, x, y⟩ => by omega) (by omega))⟩
theorem PFr.hi (f : PFr I0 J F0 H) (h : 1000499 ≤ o) (h2 : o ≤ 1000530 ∨ 1000532 ≤ o) (h3 : o ≤ 1000534 ∨ o = 1000536) (h4 : o ≠ 1000510) : J o = I0 o := funext fun k => f.1 o k (by omega) (by omega) (fun ⟨v, a, b, _⟩ => by omega) (fun ⟨v, a, b, _⟩ => by omega) (by omega) (by omega) (by omega) (by omega) h4 (by omega) (by omega)
theorem PFr.md (f : PFr I0 J F0 H) (h : 374 ≤ o) (h2 : o < 423) : J o k = I0 o k := f.1 o k (by omega) (by omega) (fun ⟨v, a, b, _⟩ => by omega) (fun ⟨v, a, b, _⟩ => by omega) (by omega) (by omega) (by omega) (by omega) (by omega) (by omega) (by omega)
theorem PFr.c0 (f : PFr I0 J F0 H) (hk : k ≠ 9) : J 0 k = I0 0 k := f.1 0 k (by omega) (by omega) (fun ⟨v, a, b, _⟩ => by omega) (fun ⟨v, a, b, e⟩ => by omega) (by omega) (by omega) (by omega) (by omega) (by omega) (by omega) (by omega)
theorem PFr.lo (f : PFr I0 J F0 H) (h : 0 < o) (h2 : o < 379) (h1 : o ≠ 10) (hk : k ≠ 6) : J o k = I0 o k := f.1 o k (by omega) (by omega) (fun ⟨v, a, b, e, _⟩ => hk e) (fun ⟨v, a, b, e⟩ => by omega) (by omega) (by omega) (by omega) (by omega) (by omega) (by omega) (by omega)
theorem PFr.row (f : PFr I0 J F0 H) (h : 0 < o) (h2 : o < 379) (h1 : o ≠ 10) (hk : ¬ ∃ v, v < 60 ∧ o = 19 + 6 * v) : J o k = I0 o k := f.1 o k (by omega) (by omega) (fun ⟨v, a, b, e, _⟩ => hk ⟨v, a, b⟩) (fun ⟨v, a, b, e⟩ => by omega) (by omega) (by omega) (by omega) (by omega) (by omega) (by omega) (by omega)
theorem PFr.m (f : PFr I0 J F0 H) (hk : 1 < k) (h2 : k < 46) : J 1000498 k = I0 1000498 k := f.1 1000498 k (by omega) (by omega) (fun ⟨v, a, b, e, _⟩ => by omega) (fun ⟨v, a, b, e⟩ => by omega) (by omega) (by omega) (by omega) (by omega) (by omega) (by omega) (by omega)
theorem PFr.ca (f : PFr I0 J F0 H) (hc : aC s ≤ 60) (z : CA I0 L s) : CA J L s := z.fr (fun o k a b c e => f.lo (by omega) c a e) (fun o k a b c => f.row (by omega) b (by omega) c) hc
theorem PFr.oi (f : PFr I0 J F0 H) : OI J = OI I0 := OI_cong (f.hi (by decide) (by decide) (by decide) (by decide)) (f.hi (by decide) (by decide) (by decide) (by decide)) (f.hi (by decide) (by decide) (by decide) (by decide)) (f.hi (by decide) (by decide) (by decide) (by decide))
theorem PFr.rr {c : Nat} (f : PFr I0 J F0 H) (z : RunR I0 F0 c T rc) : RunR J H c T rc := by
  have h40 := z.1
  exact ⟨z.1, (f.c0 (by decide)).trans z.2.1, (f.m (by decide) (by decide)).trans z.2.2.1, fun r hr => (z.2.2.2 r hr).fr (fun k => f.md (by omega) (by omega)) (fun o h => f.hi (by omega) (by omega) (by omega) (by omega)) (f.2.2 r (by omega)) (funext f.2.1)⟩
theorem PFr.rs (f : PFr I0 J F0 H) (hr : r < 40) : f_X9_reasonAgainst (nI r) J = f_X9_reasonAgainst (nI r) I0 ∧ f_X9_isRun (nI r) J = f_X9_isRun (nI r) I0 :=
  rs_eq (f.c0 (by decide)) (f.lo (by decide) (by decide) (by decide) (by decide)) (fun k => f.row (by decide) (by decide) (by decide) (fun ⟨v, a, b⟩ => by omega)) (fun v hv => f.lo (by omega) (by omega) (by omega) (by decide)) (f.md (by omega) (by omega)) (f.md (by omega) (by omega)) (by omega)
end MQ
