/-! own: publish and retire, both sides, with the invariant -/
set_option maxRecDepth 100000
section OP1
variable {X : Nat × (Nat × (Nat → Int32))} {I I0 J K : Nat → Nat → Int32} {L M : Nat → Nat → Int64} {F H : Nat → Nat → UInt32} {Q : AQ} {N N2 T T2 rc sc t n g h c r b v m : Nat} {s s2 : AS} {p0 p1 p2 p3 : Int32}
theorem InvS.quiet3 (z : InvS s T rc sc t n N I L F) (v : VI J M H s2) (rr : RunR J H (aC s2) T rc) (hq : ∀ o k, (o ≤ 2 ∨ (381 ≤ o ∧ o < 498) ∨ (o = 1000498 ∧ 0 < k ∧ k < 46 ∧ k ≠ 5) ∨ o = 1000499 ∨ o = 1000508 ∨ (1000511 ≤ o ∧ o ≤ 1000536)) → J o k = I o k) (hf : QtF F H) : InvS s2 T rc sc t n N J M H := by
  obtain ⟨_, dr, nw, _, ⟨tl, hT⟩, da, si⟩ := z
  exact ⟨v, dr.fr (fun k => hq 1 k (by omega)) (fun k => hq 2 k (by omega)) (hq _ _ (by omega)) (fun k => hq _ k (by omega)), nw.fr (hq _ _ (by omega)) (hq _ _ (by omega)), rr, ⟨tl.fr (hq _ _ (by omega)) (funext fun k => hq _ k (by omega)), hT⟩, da.fr (fun o k a b => hq o k (by omega)) (fun o k a b => hq o k (by omega)) (fun o k a b => hf o k (by omega)) (fun o k h => hf o k (by omega)) (Nat.le_refl _), si.fr (hq _ _ (by omega)) (hq _ _ (by omega)) (fun o k a b => hq o k (by omega)) (fun o k a b => hq o k (by omega)) (Nat.le_refl _)⟩
theorem InvS.mpf (z : InvS s T rc sc t n N I L F) (h : MPF I J) : InvS s T rc sc t n N J L F :=
  z.quiet (z.1.same (fun o k a b c => h o k (by omega) (by omega) (by omega)) (h _ _ (by omega) (by omega) (by omega)) (fun o a b c _ _ => funext fun k => h o k (by omega) (by omega) (by omega)) (fun _ _ _ _ _ => rfl) rfl) (fun o k x => h o k (by omega) (by omega) (by omega)) (fun _ _ _ => rfl)
theorem exF (P : Nat → Prop) : ∃ f : Nat → Bool, ∀ k, f k = true ↔ P k :=
  ⟨fun k => @decide (P k) (Classical.propDecidable _), fun k => @decide_eq_true_iff (P k) (Classical.propDecidable _)⟩
/-- gauges hang on versions that are not higher -/
theorem gu_cong (hc : c ≤ 60) (h1 : ∀ u, u < c → vT (J 1000502) (J 1000503) u = vT (I 1000502) (I 1000503) u) (h2 : ∀ u k, u < c → k < 6 → J 1000504 (6 * u + k) = I 1000504 (6 * u + k)) : ∀ (n v : Nat), v < n → v < c → ∀ g, (GU J v g ↔ GU I v g)
  | 0, v, h, _, _ => absurd h (by omega)
  | n + 1, v, h, hv, g => by
    rw [GU.iff (by omega), GU.iff (by omega), h1 v hv]
    refine or_congr Iff.rfl ⟨fun ⟨k, u, a, b, c, d⟩ => ⟨k, u, a, ?_, c, (gu_cong hc h1 h2 n u (by omega) (by omega) g).mp d⟩, fun ⟨k, u, a, b, c, d⟩ => ⟨k, u, a, ?_, c, (gu_cong hc h1 h2 n u (by omega) (by omega) g).mpr d⟩⟩
    · rw [← h2 v k hv a]; exact b
    · rw [h2 v k hv a]; exact b
/-- versions came in, on both sides -/
theorem InvS.pub {zf : AS} (z : InvS s T rc sc t n N I L F) (wz : WA zf) (fz : Frsh zf) (le : aC s ≤ aC zf) (caK : CA K M zf) (maK : MA K zf)
    (kc : ∀ o k, (o < 3 ∨ (8 < o ∧ o < 19 ∧ o ≠ 14 ∧ o ≠ 9) ∨ (379 ≤ o ∧ o < 498) ∨ (o = 1000498 ∧ k ≠ 0 ∧ k ≠ 5) ∨ o = 1000499 ∨ (1000507 ≤ o ∧ o ≤ 1000509) ∨ (1000511 ≤ o ∧ o ≤ 1000540)) → K o k = I o k)
    (k6 : ∀ v, K (19 + 6 * v) 6 = I (19 + 6 * v) 6 ∨ 60 ≤ v) (k502 : ∀ k, k < aC s → K 1000502 k = I 1000502 k) (k503 : ∀ k, k < 40 * aC s → K 1000503 k = I 1000503 k) (k504 : ∀ k, k < 6 * aC s → K 1000504 k = I 1000504 k) (k510 : ∀ k, k < aC s → K 1000510 k = I 1000510 k) (n510 : ∀ v, aC s ≤ v → v < aC zf → K 1000510 v = 0) : InvS zf T rc sc t n N K M F := by
  obtain ⟨⟨w, fr, ca, ma⟩, rcI, oc, nf, omI, z0⟩ := z.1
  have hc := w.1
  have hz := wz.1
  have vm := ma.vm w
  have ev : ∀ u, u < aC s → vT (K 1000502) (K 1000503) u = vT (I 1000502) (I 1000503) u := fun u hu => by
    obtain ⟨tx, l, _⟩ := vm u hu
    unfold vT
    rw [k502 u hu]
    have l40 : (vT (I 1000502) (I 1000503) u).length ≤ 40 := tx.1
    refine seg_cong _ _ _ (fun k hk => k503 _ ?_)
    rw [l, nI_clamp (by omega)] at hk
    omega
  have e504 : ∀ u k, u < aC s → k < 6 → K 1000504 (6 * u + k) = I 1000504 (6 * u + k) := fun u k hu hk => k504 _ (by omega)
  have eo : ∀ v t, v < aC s → OI K v t = OI I v t := fun v t hv => by
    unfold OI
    refine OO_cong (H := t) (S := fun u => u < aC s) (fun u hu => ?_) t (Nat.le_refl t) v hv
    obtain ⟨tx, l, po, _⟩ := vm u hu
    have hu2 : u < aC s := hu
    exact ⟨by omega, tx, ev u hu, po, fun k hk => e504 u k hu hk, fun k x _ _ lt => (show x < aC s by omega), fun g2 _ _ t2 _ => kc 1000507 _ (by omega)⟩
  have gu : ∀ v, v < aC s → GU K v = GU I v := fun v hv => funext fun g => propext (gu_cong hc ev e504 (v + 1) v (by omega) hv g)
  have k62 : ∀ v, v < 60 → K (19 + 6 * v) 6 = I (19 + 6 * v) 6 := fun v hv => (k6 v).resolve_right (by omega)
  have viK : VI K M F zf := by
    refine ⟨⟨wz, fz, caK, maK⟩, rcI.fr (fun g hg k => kc _ k (by omega)) (funext fun k => kc _ k (by omega)), fun v hv => ?_, nf, fun v hv => ?_, fun v a b => (k62 v b).trans (z0 v (by omega) b)⟩
    · by_cases h : v < aC s
      · obtain ⟨kh, a, b, d⟩ := oc v h
        exact ⟨kh, a, (k62 v (by omega)).trans b, fun t ht => by rw [eo v t h]; exact d t ht⟩
      · exact ⟨0, by omega, (k62 v (by omega)).trans (z0 v (by omega) (by omega)), fun t ht => by omega⟩
    · by_cases h : v < aC s
      · obtain ⟨kh, a, b, d⟩ := omI v h
        exact ⟨kh, a, (k510 v h).trans b, fun t ht => by rw [eo v t h]; exact d t ht⟩
      · exact ⟨0, by omega, n510 v (by omega) hv, fun t ht => by omega⟩
  have rr := z.2.2.2.1
  have h40 := rr.1
  have rr2 : RunR K F (aC zf) T rc := by
    refine ⟨rr.1, (kc _ _ (by omega)).trans rr.2.1, (kc _ _ (by omega)).trans rr.2.2.1, fun r hr => ?_⟩
    obtain ⟨v, a, b, z1, z2, z3, z4, z5, z6, z7, z8, z9, y1, y2, y3, ⟨MM, hM, eM⟩, y5⟩ := rr.2.2.2 r hr
    have kk : ∀ k, K (383 + r) k = I (383 + r) k := fun k => kc _ k (by omega)
    have k5 : ∀ o, 1000511 ≤ o → o ≤ 1000516 → K o r = I o r := fun o x y => kc o r (by omega)
    refine ⟨v, a, b, by omega, z2, z3, (kk 0).trans z4, (k5 _ (by decide) (by decide)).trans z5, (kk 1).trans z6, (k5 _ (by decide) (by decide)).trans z7, (kk 2).trans z8, (k5 _ (by decide) (by decide)).trans z9, y1, y2, ?_, ⟨MM, hM, (k5 _ (by decide) (by decide)).trans eM⟩, ?_⟩
    · rw [kk 4, k5 1000515 (by decide) (by decide)]; exact y3
    · rw [kk 5, y5, gu v z1]
      have r508 : K 1000508 = I 1000508 := funext fun k => kc _ k (by omega)
      unfold RP
      rw [r508, k5 1000513 (by decide) (by decide), k5 1000516 (by decide) (by decide)]
  exact z.quiet3 viK rr2 (fun o k h => kc o k (by omega)) (fun _ _ _ => rfl)
end OP1
