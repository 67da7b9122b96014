/-! own: the model's greatest output of some hours -/
set_option maxRecDepth 100000
section GR
variable {X : Nat × (Nat → Int32)} {L : Nat → Nat → Int64} {Q : AQ} {c v : Nat}
theorem sp_gre8 {a b : Nat} {x2 : Int32} (hv : v < c) (hab : a ≤ b) (hb : b < 201) : ∀ (r m : Nat) (I : Nat → Nat → Int32) (F : Nat → Nat → UInt32), a + m + r = b → OutM I F c →
    (∀ J H, MOI I J → MOF F H → OutM J H c → Q (.inl (some (.int (nI (pk (OI I v) a (b - a)).2)))) (G X J L H)) →
    WP mX10_greatest 8 [some (.ref 498), some (.int (nI v)), some (.int x2), some (.int (nI b)), some (.int (nI (pk (OI I v) a m).2)), some (.int (nI (a + m + 1)))] [] (G X I L F) 0 0 Q
  | 0, m, I, F, hr, om, q => by
    have e : m = b - a := by omega
    subst e
    exact k_X10_greatest_8 ⟨fun _ => q I F MOI.refl MOF.refl om, fun n => absurd ((nI_ltI (a := b) (b := a + (b - a) + 1) (by omega) (by omega)).mpr (by omega)) n⟩
  | r + 1, m, I, F, hr, om, q => by
    have pv := pk_val (g := OI I v) (a := a) m
    refine k_X10_greatest_8 ⟨fun n => absurd ((nI_ltI (a := b) (b := a + m + 1) (by omega) (by omega)).mp n) (by omega), fun _ => ?_⟩
    refine sp_outOf (h := a + m + 1) hv (by omega) om (fun J H x1 x2 x3 => k_X10_greatest_21 ?_)
    refine sp_outOf (h := (pk (OI I v) a m).2) hv (by omega) x3 (fun J2 H2 y1 y2 y3 => k_X10_greatest_28 (fun s29 e29 => ?_))
    have eo : OI J = OI I := x1.oi
    have eo2 : OI J2 = OI I := y1.oi.trans eo
    rw [eo] at e29
    have le := fc_le (op := .l) (a := OI I v (a + m + 1)) (b := OI I v (pk (OI I v) a m).2) OO_kv.nn OO_kv.nn
    rw [← pv.1] at le e29
    have e1 : s29 = nI (pk (OI J2 v) a (m + 1)).2 := by
      rw [eo2, e29]
      show _ = nI (if fk (pk (OI I v) a m).1 < fk (OI I v (a + m + 1)) then (OI I v (a + m + 1), a + m + 1) else pk (OI I v) a m).2
      by_cases cc : fk (pk (OI I v) a m).1 < fk (OI I v (a + m + 1))
      · rw [if_pos cc, if_neg (fun n => by have := le.mp n; omega)]
      · rw [if_neg cc, if_pos (le.mpr (by omega))]
    rw [e1, nI_1]
    refine sp_gre8 hv hab hb r (m + 1) J2 H2 (by omega) y3 (fun J3 H3 z1 z2 z3 => ?_)
    rw [eo2]
    exact q J3 H3 (x1.trans (y1.trans z1)) (x2.trans (y2.trans z2)) z3
theorem sp_greatest {I : Nat → Nat → Int32} {F : Nat → Nat → UInt32} {a b : Nat} (hv : v < c) (hab : a ≤ b) (hb : b < 201) (om : OutM I F c) (q : ∀ J H, MOI I J → MOF F H → OutM J H c → Q (.inl (some (.int (nI (pk (OI I v) a (b - a)).2)))) (G X J L H)) : WP mX10_greatest 0 (am_ent 6 [.ref 498, .int (nI v), .int (nI a), .int (nI b)]) [] (G X I L F) 0 0 Q := by
  refine k_X10_greatest_0 ?_
  rw [nI_1]
  exact sp_gre8 (m := 0) hv hab hb (b - a) I F (by omega) om q
end GR
