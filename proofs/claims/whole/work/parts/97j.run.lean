/-! own: a run is made, both sides -/
set_option maxRecDepth 100000
/-- what a run of the model may change -/
def MRunF (rc : Nat) (I K : Nat → Nat → Int32) : Prop := ∀ o k, ¬ (o = 498 ∧ (k = 0 ∨ k = 17 ∨ k = 46 ∨ k = 48 ∨ k = 50)) → ¬ (511 ≤ o ∧ o ≤ 516 ∧ k = rc) → o ≠ 537 → o ≠ 539 → o ≠ 510 → K o k = I o k
def MRunFF (rc : Nat) (F H : Nat → Nat → UInt32) : Prop := ∀ o k, o ≠ 538 → o ≠ 509 → ¬ (o = 514 ∧ k = rc) → H o k = F o k
section RU
variable {X : Nat × (Nat → Int32)} {I J K : Nat → Nat → Int32} {L M : Nat → Nat → Int64} {F H : Nat → Nat → UInt32} {Q : AQ} {c m : Nat} {s : AS} {hours : Int32}
theorem OI_ext (e2 : J 502 = I 502) (e3 : J 503 = I 503) (e4 : J 504 = I 504) (e7 : J 507 = I 507) : OI J = OI I := by unfold OI; rw [e2, e3, e4, e7]
theorem OutM.ext (e2 : J 502 = I 502) (e3 : J 503 = I 503) (e4 : J 504 = I 504) (e7 : J 507 = I 507) (e10 : J 510 = I 510) (e9 : H 509 = F 509) (z : OutM I F c) : OutM J H c := by
  obtain ⟨a, b, d⟩ := z
  have eo : OI J = OI I := by unfold OI; rw [e2, e3, e4, e7]
  refine ⟨a, ?_, ?_⟩
  · unfold VM PinNamed at b ⊢
    rw [e2, e3, e4]; exact b
  · unfold OM at d ⊢
    rw [e10, e9, eo]; exact d
theorem hrs (x : Int32) : (x < 1 ∨ ¬ x ≤ 48) ∨ ∃ n, 1 ≤ n ∧ n ≤ 48 ∧ x = nI n := by
  by_cases a : x < 1
  · exact Or.inl (Or.inl a)
  · by_cases b : x ≤ 48
    · right
      have h0 : (0 : Int32) ≤ x := by
        have := Int32.not_lt.mp a
        exact Int32.le_trans (by decide) this
      obtain ⟨n, hn, e⟩ := nI_of (Int32.not_lt.mpr h0)
      subst e
      have b2 := (nI_leI (a := n) (b := 48) hn (by decide)).mp b
      have a2 : ¬ n < 1 := fun h => a ((nI_ltI (a := n) (b := 1) hn (by decide)).mpr h)
      exact ⟨n, by omega, b2, rfl⟩
    · exact Or.inl (Or.inr b)
/-- the class makes a run -/
theorem sp_crun {rc t0 : Nat} (w : WA s) (z : CA I L s) (oc : OutC I L F (aC s)) (e7 : I 0 7 = nI rc) (hr : rc ≤ 40) (e9 : I 0 9 = nI t0) (ht : t0 ≤ 200) (hm : m < 6)
    (q1 : (hours < 1 ∨ ¬ hours ≤ 48) → Q (.inr 1) (G X I L F))
    (q2 : ∀ n, 1 ≤ n → n ≤ 48 → hours = nI n → (aL s m = -1 ∨ 200 < t0 + n ∨ rc = 40) → Q (.inr 2) (G X I L F))
    (q3 : ∀ n v, 1 ≤ n → n ≤ 48 → hours = nI n → v < aC s → aL s m = nI v → t0 + n ≤ 200 → rc < 40 → ∀ J H, LIF (383 + rc) I J → LFF (383 + rc) F H → OutC J L H (aC s) → OI J = OI I → RunIs J H (383 + rc) v t0 (t0 + n) (pk (OI I v) t0 n) → Q (.inl (some (.int (nI rc)))) (G X (am_u J 0 7 (nI (rc + 1))) L H)) :
    WP mX9_run 0 (am_ent 4 [.ref 0, .int (nI m), .int hours]) [] (G X I L F) 0 0 Q := by
  have hc := w.1
  refine k_X9_run_0 ⟨fun n => absurd n (by rw [isM9 hm]; decide), fun _ => ?_⟩
  rcases hrs hours with h | ⟨n, h1, h2, e⟩
  · refine ⟨fun _ => q1 h, fun a => ⟨fun b => ?_, fun _ => q1 h⟩⟩
    exact absurd h (by intro h; rcases h with h | h; exact a h; exact h b)
  · subst e
    refine ⟨fun a => absurd ((nI_ltI (a := n) (b := 1) (by omega) (by decide)).mp a) (by omega), fun _ => ⟨fun _ => ?_, fun a => absurd ((nI_leI (a := n) (b := 48) (by omega) (by decide)).mpr h2) a⟩⟩
    rw [lat_v hm, z.2.2 m hm, e9, e7, nI_add]
    refine ⟨fun e => q2 n h1 h2 rfl (Or.inl e), fun e => ⟨fun l => q2 n h1 h2 rfl (Or.inr (Or.inl ((nI_ltI (a := 200) (by decide) (by omega)).mp l))), fun l => ⟨fun l2 => ?_, fun l2 => q2 n h1 h2 rfl (Or.inr (Or.inr ?_))⟩⟩⟩
    · have lt : rc < 40 := (nI_ltI (a := rc) (b := 40) (by omega) (by decide)).mp l2
      have le : t0 + n ≤ 200 := Nat.le_of_not_lt fun h => l ((nI_ltI (a := 200) (by decide) (by omega)).mpr h)
      obtain ⟨v, hv, ev, _⟩ := lat_lt w hm e
      rw [ev, nI_clamp (show rc < 2 ^ 31 by omega)]
      refine ⟨nI_in lt (by decide), sp_look (gi_runN lt) (by omega) (by omega) hv (by omega) (by omega) oc (fun J H f1 f2 oc2 eo ri => k_X9_run_113 ?_)⟩
      have e7J : J 0 7 = nI rc := (f1 0 7 (by omega) (by omega) (fun ⟨v, _, h, _⟩ => by omega)).trans e7
      rw [e7J, nI_1, show nI (rc + 1) - 1 = nI rc by rw [← nI_1, Int32.add_sub_cancel]]
      rw [show t0 + n - t0 = n by omega] at ri
      exact q3 n v h1 h2 rfl hv ev le lt J H f1 f2 oc2 eo ri
    · have : ¬ rc < 40 := fun h => l2 ((nI_ltI (a := rc) (b := 40) (by omega) (by decide)).mpr h)
      omega
/-- the model makes a run -/
theorem sp_mrun {rc t0 : Nat} (w : WA s) (z : MA I s) (om : OutM I F (aC s)) (e17 : I 498 17 = nI rc) (hr : rc ≤ 40) (e1 : I 498 1 = nI t0) (ht : t0 ≤ 200) (hm : m < 6)
    (q1 : (hours < 1 ∨ ¬ hours ≤ 48) → Q (.inl (some (.int 0))) (G X (am_u I 498 0 2) L F))
    (q2 : ∀ n, 1 ≤ n → n ≤ 48 → hours = nI n → (aL s m = -1 ∨ 200 < t0 + n ∨ rc = 40) → Q (.inl (some (.int 0))) (G X (am_u I 498 0 3) L F))
    (q3 : ∀ n v, 1 ≤ n → n ≤ 48 → hours = nI n → v < aC s → aL s m = nI v → t0 + n ≤ 200 → rc < 40 → ∀ K H, MRunF rc I K → MRunFF rc F H → OutM K H (aC s) → K 498 0 = 0 → K 498 17 = nI (rc + 1) → K 511 rc = nI v → K 512 rc = nI t0 → K 513 rc = nI (t0 + n) → K 515 rc = nI (pk (OI I v) t0 n).2 → H 514 rc = (pk (OI I v) t0 n).1 → K 516 rc = I 498 14 → Q (.inl (some (.int (nI rc)))) (G X K L H)) :
    WP mX10_run 0 (am_ent 5 [.ref 498, .int (nI m), .int hours]) [] (G X I L F) 0 0 Q := by
  have hc := w.1
  have isIn : ∀ x : Int32, f_X10_isIn x 1 48 = if x < 1 ∨ ¬ x ≤ 48 then 0 else 1 := fun x => by
    unfold f_X10_isIn
    by_cases a : x < 1
    · rw [if_pos a, if_pos (Or.inl a)]
    · rw [if_neg a]
      by_cases b : (48 : Int32) < x
      · rw [if_pos b, if_pos (Or.inr (Int32.not_le.mpr b))]
      · rw [if_neg b, if_neg (fun n => n.elim a (fun n => n (Int32.not_lt.mp b)))]
  refine k_X10_run_0 (fun x ex => ?_)
  rw [isM10 hm, if_neg (show ¬ (1 : Int32) = 0 by decide), isIn, nI_clamp (show m < 2 ^ 31 by omega), z.2.2 m hm, e1, e17] at ex
  rcases hrs hours with h | ⟨n, h1, h2, e⟩
  · rw [if_pos h, if_pos rfl] at ex
    rw [ex]
    exact ⟨fun _ => q1 h, fun n => absurd rfl n⟩
  · subst e
    have nh : ¬ (nI n < 1 ∨ ¬ nI n ≤ 48) := fun h => h.elim (fun a => absurd ((nI_ltI (a := n) (b := 1) (by omega) (by decide)).mp a) (by omega)) (fun a => a ((nI_leI (a := n) (b := 48) (by omega) (by decide)).mpr h2))
    rw [if_neg nh, if_neg (show ¬ (1 : Int32) = 0 by decide), nI_add] at ex
    by_cases e1l : aL s m = -1
    · rw [if_pos e1l] at ex
      rw [ex]
      exact ⟨fun _ => q2 n h1 h2 rfl (Or.inl e1l), fun n => absurd rfl n⟩
    · rw [if_neg e1l] at ex
      by_cases l : 200 < t0 + n
      · rw [if_pos (show (200 : Int32) < nI (t0 + n) from (nI_ltI (a := 200) (by decide) (by omega)).mpr l)] at ex
        rw [ex]
        exact ⟨fun _ => q2 n h1 h2 rfl (Or.inr (Or.inl l)), fun n => absurd rfl n⟩
      · rw [if_neg (show ¬ (200 : Int32) < nI (t0 + n) from fun h => l ((nI_ltI (a := 200) (by decide) (by omega)).mp h))] at ex
        by_cases r40 : rc = 40
        · rw [if_pos (show nI rc = (40 : Int32) by rw [r40]; rfl)] at ex
          rw [ex]
          exact ⟨fun _ => q2 n h1 h2 rfl (Or.inr (Or.inr r40)), fun n => absurd rfl n⟩
        · rw [if_neg (show ¬ nI rc = (40 : Int32) from fun h => r40 ((nI_eq (a := rc) (b := 40) (by omega) (by decide)).mp h))] at ex
          obtain ⟨v, hv, ev, _⟩ := lat_lt w hm e1l
          rw [ex]
          refine ⟨fun n => absurd n (by decide), fun _ => ?_⟩
          have lt : rc < 40 := by omega
          have hin : vp_in (nI rc) 40 := nI_in lt (by decide)
          have him : vp_in (nI m) 6 := nI_in hm (by decide)
          have h17 : fI_X10_holds 0 I 498 17 = nI rc := (am_u_ne (Or.inr (by decide))).trans e17
          have h505 : fI_X10_holds 0 I 505 m = nI v := (am_u_ne (Or.inl (by decide))).trans ((z.2.2 m hm).trans ev)
          have h1b : fI_X10_holds 0 I 498 1 = nI t0 := (am_u_ne (Or.inr (by decide))).trans e1
          rw [h17, nI_clamp (show m < 2 ^ 31 by omega), nI_clamp (show rc < 2 ^ 31 by omega), h505, h1b, nI_add]
          refine ⟨him, hin, hin, hin, him, ?_⟩
          generalize hJ : am_u (am_u (am_u (fI_X10_holds 0 I) 511 rc (nI v)) 512 rc (nI t0)) 513 rc (nI (t0 + n)) = J0
          have fr : ∀ o k, ¬ (o = 498 ∧ k = 0) → ¬ (511 ≤ o ∧ o ≤ 513 ∧ k = rc) → J0 o k = I o k := fun o k a b => by
            rw [← hJ, am_u_ne (by omega), am_u_ne (by omega), am_u_ne (by omega)]
            exact am_u_ne (by omega)
          have j511 : J0 511 rc = nI v := by rw [← hJ, am_u_ne (Or.inl (by decide)), am_u_ne (Or.inl (by decide)), am_u_eq]
          have j512 : J0 512 rc = nI t0 := by rw [← hJ, am_u_ne (Or.inl (by decide)), am_u_eq]
          have j513 : J0 513 rc = nI (t0 + n) := by rw [← hJ, am_u_eq]
          have j0 : J0 498 0 = 0 := by rw [← hJ, am_u_ne (Or.inl (by decide)), am_u_ne (Or.inl (by decide)), am_u_ne (Or.inl (by decide))]; exact am_u_eq
          have fo : ∀ o, o ≠ 498 → ¬ (511 ≤ o ∧ o ≤ 513) → J0 o = I o := fun o a b => funext fun k => fr o k (fun n => a n.1) (fun n => b ⟨n.1, n.2.1⟩)
          have om0 : OutM J0 F (aC s) := OutM.ext (fo _ (by decide) (by decide)) (fo _ (by decide) (by decide)) (fo _ (by decide) (by decide)) (fo _ (by decide) (by decide)) (fo _ (by decide) (by decide)) rfl om
          have oi0 : OI J0 = OI I := by unfold OI; rw [fo 502 (by decide) (by decide), fo 503 (by decide) (by decide), fo 504 (by decide) (by decide), fo 507 (by decide) (by decide)]
          refine sp_greatest hv (by omega) (by omega) om0 (fun J1 H1 g1 g2 om1 => k_X10_run_147 ?_)
          rw [show t0 + n - t0 = n by omega, oi0]
          have pv := pk_val (g := OI I v) (a := t0) n
          have g17 : J1 498 17 = nI rc := (g1 498 17 (by omega) (by omega) (by omega) (by omega)).trans ((fr 498 17 (by omega) (by omega)).trans e17)
          have g505 : J1 505 m = nI v := (g1 505 m (by omega) (by omega) (by omega) (by omega)).trans ((fr 505 m (by omega) (by omega)).trans ((z.2.2 m hm).trans ev))
          rw [nI_clamp (show m < 2 ^ 31 by omega), nI_clamp (show rc < 2 ^ 31 by omega), g505, g17, nI_clamp (show rc < 2 ^ 31 by omega), am_u_eq]
          refine ⟨hin, him, hin, ?_⟩
          have fo2 : ∀ o, o ≠ 515 → am_u J1 515 rc (nI (pk (OI I v) t0 n).2) o = J1 o := fun o a => funext fun k => am_u_ne (Or.inl a)
          have fo1 : ∀ o, o ≠ 498 → ¬ (511 ≤ o ∧ o ≤ 513) → o ≠ 537 → o ≠ 539 → o ≠ 510 → J1 o = I o := fun o a b d e f => funext fun k => (g1 o k (fun n => a n.1) d e f).trans (fr o k (fun n => a n.1) (fun n => b ⟨n.1, n.2.1⟩))
          have om2 : OutM (am_u J1 515 rc (nI (pk (OI I v) t0 n).2)) H1 (aC s) := OutM.ext (fo2 _ (by decide)) (fo2 _ (by decide)) (fo2 _ (by decide)) (fo2 _ (by decide)) (fo2 _ (by decide)) rfl om1
          have oi2 : OI (am_u J1 515 rc (nI (pk (OI I v) t0 n).2)) = OI I := OI_ext ((fo2 502 (by decide)).trans (fo1 502 (by decide) (by decide) (by decide) (by decide) (by decide))) ((fo2 503 (by decide)).trans (fo1 503 (by decide) (by decide) (by decide) (by decide) (by decide))) ((fo2 504 (by decide)).trans (fo1 504 (by decide) (by decide) (by decide) (by decide) (by decide))) ((fo2 507 (by decide)).trans (fo1 507 (by decide) (by decide) (by decide) (by decide) (by decide)))
          refine sp_outOf hv (by omega) om2 (fun J3 H3 g3 g4 om3 => k_X10_run_175 ?_)
          have all : ∀ o k, ¬ (o = 498 ∧ (k = 0 ∨ k = 46 ∨ k = 48 ∨ k = 50)) → ¬ (511 ≤ o ∧ o ≤ 515 ∧ k = rc) → o ≠ 537 → o ≠ 539 → o ≠ 510 → J3 o k = I o k := fun o k a b d e f => by
            rw [g3 o k (by omega) d e f, am_u_ne (by omega), g1 o k (by omega) d e f]
            exact fr o k (by omega) (by omega)
          have k17 : J3 498 17 = nI rc := (all 498 17 (by omega) (by omega) (by omega) (by omega) (by omega)).trans e17
          have k14 : J3 498 14 = I 498 14 := all 498 14 (by omega) (by omega) (by omega) (by omega) (by omega)
          have k511 : J3 511 rc = nI v := by rw [g3 511 rc (by omega) (by omega) (by omega) (by omega), am_u_ne (by omega), g1 511 rc (by omega) (by omega) (by omega) (by omega)]; exact j511
          have k512 : J3 512 rc = nI t0 := by rw [g3 512 rc (by omega) (by omega) (by omega) (by omega), am_u_ne (by omega), g1 512 rc (by omega) (by omega) (by omega) (by omega)]; exact j512
          have k513 : J3 513 rc = nI (t0 + n) := by rw [g3 513 rc (by omega) (by omega) (by omega) (by omega), am_u_ne (by omega), g1 513 rc (by omega) (by omega) (by omega) (by omega)]; exact j513
          have k515 : J3 515 rc = nI (pk (OI I v) t0 n).2 := by rw [g3 515 rc (by omega) (by omega) (by omega) (by omega), am_u_eq]
          have k0 : J3 498 0 = 0 := by rw [g3 498 0 (by omega) (by omega) (by omega) (by omega), am_u_ne (by omega), g1 498 0 (by omega) (by omega) (by omega) (by omega)]; exact j0
          rw [k17, nI_clamp (show rc < 2 ^ 31 by omega), nI_1, show nI (rc + 1) - 1 = nI rc by rw [← nI_1, Int32.add_sub_cancel], k14, oi2]
          refine ⟨hin, hin, q3 n v h1 h2 rfl hv ev (by omega) lt _ _ (fun o k a b d e f => ?_) (fun o k a b d => ?_) ?_ ?_ ?_ ?_ ?_ ?_ ?_ ?_ ?_⟩
          · rw [am_u_ne (by omega), am_u_ne (by omega)]
            exact all o k (by omega) (by omega) d e f
          · rw [am_u_ne (by omega), g4 o k a b]
            exact g2 o k a b
          · exact OutM.ext (funext fun k => by rw [am_u_ne (by omega), am_u_ne (by omega)]) (funext fun k => by rw [am_u_ne (by omega), am_u_ne (by omega)]) (funext fun k => by rw [am_u_ne (by omega), am_u_ne (by omega)]) (funext fun k => by rw [am_u_ne (by omega), am_u_ne (by omega)]) (funext fun k => by rw [am_u_ne (by omega), am_u_ne (by omega)]) (funext fun k => am_u_ne (by omega)) om3
          · rw [am_u_ne (by omega), am_u_ne (by omega)]; exact k0
          · exact am_u_eq
          · rw [am_u_ne (by omega), am_u_ne (by omega)]; exact k511
          · rw [am_u_ne (by omega), am_u_ne (by omega)]; exact k512
          · rw [am_u_ne (by omega), am_u_ne (by omega)]; exact k513
          · rw [am_u_ne (by omega), am_u_ne (by omega)]; exact k515
          · rw [am_u_eq]; exact pv.1.symm
          · rw [am_u_ne (by omega), am_u_eq]
end RU
