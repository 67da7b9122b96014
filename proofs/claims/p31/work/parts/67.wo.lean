/-! own: the model works a text out as the reckoner its formula -/
set_option maxRecDepth 100000
section WO
variable {X : Nat × (Nat × (Nat → Int32))} {I J : Nat → Nat → Int32} {L : Nat → Nat → Int64} {F H : Nat → Nat → UInt32} {Q : AQ} {nm : Nat → UInt32} {rule ver hour : Int32}
theorem rEnd_idA {r : RS} (h1 : ¬ rS r = 1) (h3 : ¬ rS r = 3) : rEnd r = r := by
  unfold rEnd
  rw [if_neg h1, if_neg h3]
theorem fig_ge {c : Int32} (h : ¬ rFig c = -1) : 0 ≤ rFig c := by
  unfold rFig at h ⊢
  split
  · rename_i a; rw [if_pos a] at h; exact absurd rfl h
  · rename_i a
    rw [if_neg a] at h
    split
    · rename_i b; rw [if_pos b] at h; exact absurd rfl h
    · rename_i b
      have a2 := Int32.not_lt.mp a
      have b2 := Int32.not_lt.mp b
      rw [Int32.le_iff_toInt_le] at a2 b2 ⊢
      rw [show (48 : Int32).toInt = 48 from by decide] at a2
      rw [show (57 : Int32).toInt = 57 from by decide] at b2
      rw [Int32.toInt_sub, show (48 : Int32).toInt = 48 from by decide, show (0 : Int32).toInt = 0 from by decide]
      rw [Int.bmod_eq_of_le (by omega) (by omega)]
      omega
theorem notgood {r : RS} (h1 : ¬ rS r = 1) (h3 : ¬ rS r = 3) (h6 : ¬ rS r = 6) : ¬ good r := fun g => h6 (by
  have : rS (rEnd r) = 6 := g.1
  rw [rEnd_idA h1 h3] at this
  exact this)
end WO
