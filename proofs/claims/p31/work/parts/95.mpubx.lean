/-! own: publishing, in the model -/
set_option maxRecDepth 100000
section PX
variable {X : Nat × (Nat × (Nat → Int32))} {I J K : Nat → Nat → Int32} {L : Nat → Nat → Int64} {F : Nat → Nat → UInt32} {Q : AQ} {c m k : Nat} {s zf : AS} {t : List Int32} {x1 x2 x3 x4 x5 : Int32}
theorem MA.wr (w : WA s) (z : MA I s) (f : PubF (aC s) I J) (e1 : J 1000498 5 = I 1000498 5) (e2 : ∀ k, k < 6 → J 1000505 k = I 1000505 k) : MA J s :=
  ⟨e1.trans z.1, f.mrv w (Nat.le_refl _) z.2.1, fun k hk => (e2 k hk).trans (z.2.2 k hk)⟩
end PX
