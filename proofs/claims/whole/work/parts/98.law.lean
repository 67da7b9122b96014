/-! own: the law's loop -/
set_option maxRecDepth 100000
theorem len5 {L j : Nat} (hL : L ≤ 2560) (hj : j ≤ 2600) : (nI L - 5 < nI j) ↔ L < j + 5 := by
  by_cases h : 5 ≤ L
  · have e : nI L - 5 = nI (L - 5) := by
      have := nI_add (L - 5) 5
      rw [show L - 5 + 5 = L by omega] at this
      rw [← this]
      exact Int32.add_sub_cancel _ _
    rw [e, nI_ltI (by omega) (by omega)]
    omega
  · have n : nI L - 5 < 0 := (by decide : ∀ L, L < 5 → nI L - 5 < 0) L (by omega)
    exact ⟨fun _ => by omega, fun _ => Int32.lt_of_lt_of_le n (Int32.not_lt.mp (nI_pos (by omega)))⟩
theorem am_loopN {L : Nat} {xs : Nat → Int32} (hL : L ≤ 2560) : ∀ (m j : Nat) (I : Nat → Nat → Int32) (Lg : Nat → Nat → Int64) (F : Nat → Nat → UInt32) (d5 d6 : Option Value) (c s : Nat), j + m = 513 → Inv j I Lg F → c ≤ 564 + j → s ≤ 60511 + 6 * j →
    WP mL_law 23 [some (.ref 1000000), some (.ref 0), some (.ref 498), some (.ref 540), some (.int (nI (5 * j))), d5, d6] [] (G (L, xs) I Lg F) c s am_Q1
  | 0, j, I, Lg, F, d5, d6, c, s, hj, iv, hc, hs => k_L_law_23 ⟨fun _ => rfl, fun n => absurd ((len5 hL (by omega)).mpr (by omega)) n⟩
  | m + 1, j, I, Lg, F, d5, d6, c, s, hj, iv, hc, hs => by
    have nx : NxT (L, xs) am_Q1 (nI (5 * j)) j c s := fun I2 L2 F2 e5 e6 c2 s2 iv2 h1 h2 => by
      have := am_loopN (xs := xs) hL m (j + 1) I2 L2 F2 e5 e6 c2 s2 (by omega) iv2 (by omega) (by omega)
      have e5j : nI (5 * (j + 1)) = nI (5 * j) + 5 := by
        rw [show 5 * (j + 1) = 5 * j + 5 by omega, ← nI_add]; rfl
      rw [e5j] at this
      exact this
    refine k_L_law_23 ⟨fun _ => rfl, fun n => ?_⟩
    have lt : 5 * j + 5 ≤ L := Nat.le_of_not_lt fun z => n ((len5 hL (by omega)).mpr z)
    have v : ∀ i, i < 5 → vp_in (nI (5 * j) + nI i) L := fun i hi => by
      rw [nI_add]
      exact nI_in (by omega) (by omega)
    have v1 : vp_in (nI (5 * j) + 1) (L, xs).1 := v 1 (by decide)
    have v2 : vp_in (nI (5 * j) + 2) (L, xs).1 := v 2 (by decide)
    have v3 : vp_in (nI (5 * j) + 3) (L, xs).1 := v 3 (by decide)
    have v4 : vp_in (nI (5 * j) + 4) (L, xs).1 := v 4 (by decide)
    exact ⟨nI_in (show 5 * j < L by omega) (by omega), ⟨fun _ => lw_type (by omega) (by omega) v1 iv nx, fun _ => ⟨fun _ => lw_wipe (by omega) (by omega) iv nx, fun _ => ⟨fun _ => lw_fault (by omega) (by omega) v1 iv nx, fun _ => ⟨fun _ => lw_publish (by omega) (by omega) v1 iv nx, fun _ => ⟨fun _ => lw_retire (by omega) (by omega) v1 iv nx, fun _ => ⟨fun _ => lw_latest (by omega) (by omega) v1 iv nx, fun _ => ⟨fun _ => lw_pin (by omega) (by omega) v1 v2 iv nx, fun _ => ⟨fun _ => lw_rain (by omega) (by omega) (by omega) v1 v2 v3 iv nx, fun _ => ⟨fun _ => lw_out (by omega) (by omega) v1 v2 iv nx, fun _ => ⟨fun _ => lw_outAnew (by omega) (by omega) v1 v2 iv nx, fun _ => ⟨fun _ => lw_run (by omega) (by omega) (by omega) v1 v2 iv nx, fun _ => ⟨fun _ => lw_why (by omega) (by omega) v1 iv nx, fun _ => ⟨fun _ => lw_peak (by omega) (by omega) v1 iv nx, fun _ => ⟨fun _ => lw_peakHour (by omega) (by omega) v1 iv nx, fun _ => ⟨fun _ => lw_peakAnew (by omega) (by omega) v1 iv nx, fun _ => ⟨fun _ => lw_build (by omega) (by omega) v1 v2 v3 iv nx, fun _ => ⟨fun _ => lw_rule (by omega) (by omega) v1 iv nx, fun _ => ⟨fun _ => lw_goBy (by omega) (by omega) v1 v2 iv nx, fun _ => ⟨fun _ => lw_level (by omega) (by omega) v1 iv nx, fun _ => ⟨fun _ => lw_below (by omega) (by omega) v1 v2 iv nx, fun _ => ⟨fun _ => lw_valley (by omega) (by omega) v1 v2 v3 v4 iv nx, fun _ => ⟨fun _ => lw_sound (by omega) (by omega) v1 v2 iv nx, fun _ => ⟨fun _ => lw_siren (by omega) (by omega) v1 iv nx, fun _ => ⟨fun _ => lw_walkers (by omega) (by omega) v1 iv nx, fun _ => ⟨fun _ => lw_trust (by omega) (by omega) v1 iv nx, fun _ => ⟨fun _ => lw_saved (by omega) (by omega) v1 iv nx, fun _ => ⟨fun _ => lw_alarm (by omega) (by omega) iv nx, fun _ => ⟨fun _ => lw_pass (by omega) (by omega) v1 iv nx, fun _ => nx _ _ _ _ _ _ _ (iv.up (Nat.le_succ j)) (by omega) (by omega)⟩⟩⟩⟩⟩⟩⟩⟩⟩⟩⟩⟩⟩⟩⟩⟩⟩⟩⟩⟩⟩⟩⟩⟩⟩⟩⟩⟩⟩
theorem am_loop {L : Nat} {xs : Nat → Int32} (hL : L ≤ 2560) : WP mL_law 23 [some (.ref 1000000), some (.ref 0), some (.ref 498), some (.ref 540), some (.int 0), none, none] [] (G (L, xs) gI0 (fun _ _ => 0) gF0) 564 60511 am_Q1 := am_loopN hL 513 0 gI0 (fun _ _ => 0) gF0 none none 564 60511 rfl inv0 (by decide) (by decide)
theorem am_law {L : Nat} {xs : Nat → Int32} (hL : L ≤ 2560) : WP mL_law 0 (am_ent 7 [.ref 1000000]) [] (am_h0 L xs) 0 0 am_Q1 := am_head (am_loop hL)
