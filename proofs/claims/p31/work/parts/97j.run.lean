/-! own: a run is made, both sides -/
set_option maxRecDepth 100000
/-- what a run of the model may change -/
def MRunF (rc : Nat) (I K : Nat → Nat → Int32) : Prop := ∀ o k, ¬ (o = 1000498 ∧ (k = 0 ∨ k = 17 ∨ k = 46 ∨ k = 48 ∨ k = 50)) → ¬ (1000511 ≤ o ∧ o ≤ 1000516 ∧ k = rc) → o ≠ 1000537 → o ≠ 1000539 → o ≠ 1000510 → K o k = I o k
def MRunFF (rc : Nat) (F H : Nat → Nat → UInt32) : Prop := ∀ o k, o ≠ 1000538 → o ≠ 1000509 → ¬ (o = 1000514 ∧ k = rc) → H o k = F o k
section RU
variable {X : Nat × (Nat × (Nat → Int32))} {I J K : Nat → Nat → Int32} {L M : Nat → Nat → Int64} {F H : Nat → Nat → UInt32} {Q : AQ} {c m : Nat} {s : AS} {hours : Int32}
theorem OI_ext (e2 : J 1000502 = I 1000502) (e3 : J 1000503 = I 1000503) (e4 : J 1000504 = I 1000504) (e7 : J 1000507 = I 1000507) : OI J = OI I := by unfold OI; rw [e2, e3, e4, e7]
theorem OutM.ext (e2 : J 1000502 = I 1000502) (e3 : J 1000503 = I 1000503) (e4 : J 1000504 = I 1000504) (e7 : J 1000507 = I 1000507) (e10 : J 1000510 = I 1000510) (e9 : H 1000509 = F 1000509) (z : OutM I F c) : OutM J H c := by
  obtain ⟨a, b, d⟩ := z
  have eo : OI J = OI I := by unfold OI; rw [e2, e3, e4, e7]
  refine ⟨a, ?_, ?_⟩
  · unfold VM PinNamed at b ⊢
    rw [e2, e3, e4]; exact b
  · unfold OM at d ⊢
    rw [e10, e9, eo]; exact d
theorem hrs (x : Int32) : (x < 1 ∨ ¬ x ≤ 48) ∨ ∃ n, 1 ≤ n ∧ n ≤ 48 ∧ x = nI n := by
  by_cases a : x < 1
  · exact Or.inl (Or.inl a)
  · by_cases b : x ≤ 48
    · right
      have h0 : (0 : Int32) ≤ x := by
        have := Int32.not_lt.mp a
        exact Int32.le_trans (by decide) this
      obtain ⟨n, hn, e⟩ := nI_of (Int32.not_lt.mpr h0)
      subst e
      have b2 := (nI_leI (a := n) (b := 48) hn (by decide)).mp b
      have a2 : ¬ n < 1 := fun h => a ((nI_ltI (a := n) (b := 1) hn (by decide)).mpr h)
      exact ⟨n, by omega, b2, rfl⟩
    · exact Or.inl (Or.inr b)
/-- the class makes a run -/
theorem sp_crun {rc t0 : Nat} (w : WA s) (z : CA I L s) (oc : OutC I L F (aC s)) (e7 : I 0 7 = nI rc) (hr : rc ≤ 40) (e9 : I 0 9 = nI t0) (ht : t0 ≤ 200) (hm : m < 6)
    (q1 : (hours < 1 ∨ ¬ hours ≤ 48) → Q (.inr 1) (G X I L F))
    (q2 : ∀ n, 1 ≤ n → n ≤ 48 → hours = nI n → (aL s m = -1 ∨ 200 < t0 + n ∨ rc = 40) → Q (.inr 2) (G X I L F))
    (q3 : ∀ n v, 1 ≤ n → n ≤ 48 → hours = nI n → v < aC s → aL s m = nI v → t0 + n ≤ 200 → rc < 40 → ∀ J H, LIF (383 + rc) I J → LFF (383 + rc) F H → OutC J L H (aC s) → OI J = OI I → RunIs J H (383 + rc) v t0 (t0 + n) (pk (OI I v) t0 n) → Q (.inl (some (.int (nI rc)))) (G X (am_u J 0 7 (nI (rc + 1))) L H)) :
    WP mX9_run 0 (am_ent 4 [.ref 0, .int (nI m), .int hours]) [] (G X I L F) 0 0 Q := by
  have hc := w.1
  refine k_X9_run_0 ⟨fun n => absurd n (by rw [isM9 hm]; decide), fun _ => ?_⟩
  rcases hrs hours with h | ⟨n, h1, h2, e⟩
  · refine ⟨fun _ => q1 h, fun a => ⟨fun b => ?_, fun _ => q1 h⟩⟩
    exact absurd h (by intro h; rcases h with h | h; exact a h; exact h b)
  · subst e
    refine ⟨fun a => absurd ((nI_ltI (a := n) (b := 1) (by omega) (by decide)).mp a) (by omega), fun _ => ⟨fun _ => ?_, fun a => absurd ((nI_leI (a := n) (b := 48) (by omega) (by decide)).mpr h2) a⟩⟩
    rw [lat_v hm, z.2.2 m hm, e9, e7, nI_add]
    refine ⟨fun e => q2 n h1 h2 rfl (Or.inl e), fun e => ⟨fun l => q2 n h1 h2 rfl (Or.inr (Or.inl ((nI_ltI (a := 200) (by decide) (by omega)).mp l))), fun l => ⟨fun l2 => ?_, fun l2 => q2 n h1 h2 rfl (Or.inr (Or.inr ?_))⟩⟩⟩
    · have lt : rc < 40 := (nI_ltI (a := rc) (b := 40) (by omega) (by decide)).mp l2
      have le : t0 + n ≤ 200 := Nat.le_of_not_lt fun h => l ((nI_ltI (a := 200) (by decide) (by omega)).mpr h)
      obtain ⟨v, hv, ev, _⟩ := lat_lt w hm e
      rw [ev, nI_clamp (show rc < 2 ^ 31 by omega)]
      refine ⟨nI_in lt (by decide), sp_look (gi_runN lt) (by omega) (by omega) hv (by omega) (by omega) oc (fun J H f1 f2 oc2 eo ri => k_X9_run_113 ?_)⟩
      have e7J : J 0 7 = nI rc := (f1 0 7 (by omega) (by omega) (fun ⟨v, _, h, _⟩ => by omega)).trans e7
      rw [e7J, nI_1, show nI (rc + 1) - 1 = nI rc by rw [← nI_1, Int32.add_sub_cancel]]
      rw [show t0 + n - t0 = n by omega] at ri
      exact q3 n v h1 h2 rfl hv ev le lt J H f1 f2 oc2 eo ri
    · have : ¬ rc < 40 := fun h => l2 ((nI_ltI (a := rc) (b := 40) (by omega) (by decide)).mpr h)
      omega
end RU
