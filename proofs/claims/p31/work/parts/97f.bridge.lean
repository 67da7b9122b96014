/-! own: what the class keeps of versions, in the model's words -/
set_option maxRecDepth 100000
section BR
variable {I : Nat → Nat → Int32} {L : Nat → Nat → Int64} {F : Nat → Nat → UInt32} {s : AS}
theorem Rch.iff {p : Nat → Int32} {v u : Nat} (hv : v ≤ 60) : Rch p v u ↔ (u = v ∨ ∃ k w, k < 6 ∧ p (6 * v + k) = nI w ∧ w < v ∧ Rch p w u) :=
  ⟨Rch.cases, fun h => h.elim (fun e => by rw [e]; exact Rch.self) (fun ⟨k, w, h1, h2, h3, h4⟩ => Rch.step hv h1 h2 h3 h4)⟩
theorem ca_reach (w : WA s) (z : CA I L s) (z2 : MA I s) : ∀ (n v : Nat), v < n → v < aC s → ∀ x, (lb (L (19 + 6 * v) 5) x = true ↔ Rch (I 1000504) v x)
  | 0, v, h, _, x => absurd h (by omega)
  | n + 1, v, h, hv, x => by
    have hc := w.1
    rw [(z.2.1 v hv).2.2.2.2 x, Rch.iff (by omega)]
    refine or_congr Iff.rfl ⟨fun ⟨k, u, h1, h2, h3, h4⟩ => ⟨k, u, h1, ?_, h2, (ca_reach w z z2 n u (by omega) (by omega) x).mp h4⟩, fun ⟨k, u, h1, h2, h3, h4⟩ => ⟨k, u, h1, h3, ?_, (ca_reach w z z2 n u (by omega) (by omega) x).mpr h4⟩⟩
    · rw [(z2.2.1 v hv).2.2.1 k h1]; exact h3
    · rw [(z2.2.1 v hv).2.2.1 k h1] at h2; exact h2
theorem GU.iff {v g : Nat} (hv : v ≤ 60) : GU I v g ↔ (ib (msk 1 (vT (I 1000502) (I 1000503) v)) g = true ∨ ∃ k u, k < 6 ∧ I 1000504 (6 * v + k) = nI u ∧ u < v ∧ GU I u g) := by
  constructor
  · intro ⟨u, hu, r, b⟩
    rcases r.cases with e | ⟨k, x, h1, h2, h3, h4⟩
    · rw [e] at b; exact Or.inl b
    · exact Or.inr ⟨k, x, h1, h2, h3, u, rch_le 60 h4, h4, b⟩
  · intro h
    rcases h with b | ⟨k, x, h1, h2, h3, u, hu, r, b⟩
    · exact ⟨v, Nat.le_refl v, Rch.self, b⟩
    · exact ⟨u, by omega, Rch.step hv h1 h2 h3 r, b⟩
theorem ca_gau (w : WA s) (z : CA I L s) (z2 : MA I s) : ∀ (n v : Nat), v < n → v < aC s → ∀ g, (ib (I (19 + 6 * v) 4) g = true ↔ GU I v g)
  | 0, v, h, _, x => absurd h (by omega)
  | n + 1, v, h, hv, x => by
    have hc := w.1
    rw [(z.2.1 v hv).2.2.2.1 x, GU.iff (by omega), (z2.2.1 v hv).1]
    refine or_congr Iff.rfl ⟨fun ⟨k, u, h1, h2, h3, h4⟩ => ⟨k, u, h1, ?_, h2, (ca_gau w z z2 n u (by omega) (by omega) x).mp h4⟩, fun ⟨k, u, h1, h2, h3, h4⟩ => ⟨k, u, h1, h3, ?_, (ca_gau w z z2 n u (by omega) (by omega) x).mpr h4⟩⟩
    · rw [(z2.2.1 v hv).2.2.1 k h1]; exact h3
    · rw [(z2.2.1 v hv).2.2.1 k h1] at h2; exact h2
theorem ca_vc (w : WA s) (z : CA I L s) (z2 : MA I s) : VC I (aC s) := fun v hv => by
  obtain ⟨a, b, d, e⟩ := z2.2.1 v hv
  obtain ⟨tx, ps, _⟩ := w.2.1 v hv
  obtain ⟨f, g, _⟩ := z.2.1 v hv
  rw [a]
  exact ⟨tx, f, fun k hk => by rw [d k hk]; exact (ps k hk).1, fun k hk => by rw [g k hk, d k hk]⟩
theorem ca_rb (w : WA s) (z : CA I L s) (z2 : MA I s) : RB I L (aC s) := fun v hv => by
  have hc := w.1
  have r := ca_reach w z z2 (v + 1) v (by omega) hv
  exact ⟨(r v).mpr Rch.self, fun u hu h k hk p e l => (r p).mpr (Rch.snoc (by omega) ((r u).mp h) hk e l)⟩
theorem outc_of (w : WA s) (z : CA I L s) (z2 : MA I s) (rc : RC I) (oc : OC I F (aC s)) (nf : NF F) : OutC I L F (aC s) := ⟨w.1, z.1, ca_vc w z z2, rc, ca_rb w z z2, oc, nf⟩
theorem outm_of (w : WA s) (z2 : MA I s) (om : OM I F (aC s)) : OutM I F (aC s) := ⟨w.1, z2.vm w, om⟩
end BR
