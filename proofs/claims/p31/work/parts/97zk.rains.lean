/-! own: rains told, both sides, with the invariant -/
set_option maxRecDepth 100000
section OR1
variable {X : Nat × (Nat × (Nat → Int32))} {I I0 J K : Nat → Nat → Int32} {L M : Nat → Nat → Int64} {F H : Nat → Nat → UInt32} {Q : AQ} {N N2 T T2 rc sc t n g h c r b v : Nat} {s : AS} {p0 p1 p2 p3 : Int32}
theorem InvS.rained (z : InvS s T rc sc t n N I L F) (hg : g < 3) (hh : h < 201) (hT : T < 1000000)
    (kA : ∀ o k, ¬ (o = 16 + g ∧ k = h) → ¬ (∃ v, v < 60 ∧ o = 19 + 6 * v ∧ k = 6) → ¬ (383 ≤ o ∧ o < 423 ∧ k = 5) → ¬ (o = 1000498 ∧ (k = 0 ∨ k = 14)) → ¬ ((o = 1000507 ∨ o = 1000508) ∧ k = 201 * g + h) → o ≠ 1000510 → K o k = I o k)
    (kr : K (16 + g) h = K 1000507 (201 * g + h)) (tru : ∀ v, v < aC s → TRU g h (K 1000507 (201 * g + h) ≠ I 1000507 (201 * g + h)) I K v) (k0 : ∀ v, aC s ≤ v → v < 60 → K (19 + 6 * v) 6 = I (19 + 6 * v) 6) (om : OM K F (aC s))
    (tel : (T2 = T ∧ K 1000498 14 = nI T ∧ K 1000508 (201 * g + h) = I 1000508 (201 * g + h) ∧ ∀ r, r < rc → K (383 + r) 5 = I (383 + r) 5) ∨ (T2 = T + 1 ∧ K 1000498 14 = nI (T + 1) ∧ K 1000508 (201 * g + h) = nI (T + 1) ∧ ∀ r v b, r < rc → v < aC s → b < 201 → I (383 + r) 0 = nI v → I (383 + r) 2 = nI b → ((h ≤ b ∧ GU I v g) → K (383 + r) 5 = 1) ∧ (¬ (h ≤ b ∧ GU I v g) → K (383 + r) 5 = I (383 + r) 5)))
    (hT2 : T2 ≤ N2) : InvS s T2 rc sc t n N2 K L F := by
  obtain ⟨⟨⟨w, frs, ca, ma⟩, rcI, oc, nf, omI, z0⟩, dr, nw, rr, ⟨tl, _⟩, da, si⟩ := z
  have hc := w.1
  have nv : ∀ o k, (¬ (19 ≤ o ∧ o < 379) ∨ k ≠ 6) → ¬ (∃ v, v < 60 ∧ o = 19 + 6 * v ∧ k = 6) := fun o k h ⟨v, a, b, c⟩ => by omega
  have kq : ∀ o k, (o ≤ 14 ∨ (379 ≤ o ∧ o < 383) ∨ (423 ≤ o ∧ o < 498) ∨ (383 ≤ o ∧ o < 423 ∧ k ≠ 5) ∨ (o = 1000498 ∧ k ≠ 0 ∧ k ≠ 14) ∨ (1000499 ≤ o ∧ o ≤ 1000506) ∨ (1000511 ≤ o ∧ o ≤ 1000536)) → K o k = I o k := fun o k h => kA o k (by omega) (nv o k (by omega)) (by omega) (by omega) (by omega) (by omega)
  have r5 : ∀ o, 1000501 ≤ o → o ≤ 1000506 → K o = I o := fun o a b => funext fun k => kq o k (by omega)
  have e507 : ∀ k, k ≠ 201 * g + h → K 1000507 k = I 1000507 k := fun k hk => kA 1000507 k (by omega) (nv _ k (by omega)) (by omega) (by omega) (by omega) (by omega)
  have e508 : ∀ k, k ≠ 201 * g + h → K 1000508 k = I 1000508 k := fun k hk => kA 1000508 k (by omega) (nv _ k (by omega)) (by omega) (by omega) (by omega) (by omega)
  have caK : CA K L s := ca.lo (fun o k a b c => by
    by_cases ho : o < 15 ∨ 19 ≤ o
    · exact Or.inl (kA o k (by omega) (nv o k (by omega)) (by omega) (by omega) (by omega) (by omega))
    · exact Or.inr ho) (fun _ _ _ _ => rfl) (fun o k a b c => kA o k (by omega) (fun ⟨v, x, y, _⟩ => c ⟨v, x, y⟩) (by omega) (by omega) (by omega) (by omega)) hc
  have maK : MA K s := ma.fr (kq _ _ (by omega)) (fun o a b => r5 o a (by omega))
  have rcK : RC K := fun g2 hg2 t2 ht2 => by
    by_cases e : g2 = g ∧ t2 = h
    · rw [e.1, e.2]; exact kr
    · rw [kA (16 + g2) t2 (by omega) (nv _ _ (by omega)) (by omega) (by omega) (by omega) (by omega), e507 _ (by omega)]
      exact rcI g2 hg2 t2 ht2
  have ocK : OC K F (aC s) := oc_rain w ca ma oc (r5 _ (by decide) (by decide)) (r5 _ (by decide) (by decide)) (r5 _ (by decide) (by decide)) e507 hh tru
  have viK : VI K L F s := ⟨⟨w, frs, caK, maK⟩, rcK, ocK, nf, om, fun v a b => (k0 v a b).trans (z0 v a b)⟩
  refine ⟨viK, dr.fr (fun k => kq _ k (by omega)) (fun k => kq _ k (by omega)) (kq _ _ (by omega)) (fun k => kq _ k (by omega)), nw.fr (kq _ _ (by omega)) (kq _ _ (by omega)), ⟨rr.1, (kq _ _ (by omega)).trans rr.2.1, (kq _ _ (by omega)).trans rr.2.2.1, fun r hr => ?_⟩, ⟨⟨?_, fun k hk => ?_⟩, hT2⟩, da.fr (fun o k a b => kq o k (by omega)) (fun o k a b => kq o k (by omega)) (fun _ _ _ _ => rfl) (fun _ _ _ => rfl) (Nat.le_refl _), si.fr (kq _ _ (by omega)) (kq _ _ (by omega)) (fun o k a b => kq o k (by omega)) (fun o k a b => kq o k (by omega)) (Nat.le_refl _)⟩
  · have h40 := rr.1
    obtain ⟨v, a, b, z1, z2, z3, z4, z5, z6, z7, z8, z9, y1, y2, y3, ⟨MM, hM, eM⟩, y5⟩ := rr.2.2.2 r hr
    have kk : ∀ k, k ≠ 5 → K (383 + r) k = I (383 + r) k := fun k hk => kq _ k (by omega)
    have k5 : ∀ o, 1000511 ≤ o → o ≤ 1000516 → K o r = I o r := fun o x y => kq o r (by omega)
    refine ⟨v, a, b, z1, z2, z3, (kk 0 (by decide)).trans z4, (k5 _ (by decide) (by decide)).trans z5, (kk 1 (by decide)).trans z6, (k5 _ (by decide) (by decide)).trans z7, (kk 2 (by decide)).trans z8, (k5 _ (by decide) (by decide)).trans z9, y1, y2, ?_, ⟨MM, ?_, (k5 _ (by decide) (by decide)).trans eM⟩, ?_⟩
    · rw [kk 4 (by decide), k5 1000515 (by decide) (by decide)]; exact y3
    · rcases tel with ⟨e, _⟩ | ⟨e, _⟩ <;> omega
    · rcases tel with ⟨e, e14, eq8, st⟩ | ⟨e, e14, eq8, st⟩
      · rw [st r hr, y5]
        have r508 : K 1000508 = I 1000508 := funext fun k => by
          by_cases hk : k = 201 * g + h
          · rw [hk]; exact eq8
          · exact e508 k hk
        have gu : GU K v = GU I v := by
          funext x
          unfold GU
          rw [r5 1000502 (by decide) (by decide), r5 1000503 (by decide) (by decide), r5 1000504 (by decide) (by decide)]
        unfold RP
        rw [gu, r508, k5 1000513 (by decide) (by decide), k5 1000516 (by decide) (by decide)]
      · have rp := rp_rain (r := r) (v := v) (b := b) (MM := MM) (T := T) (I := I) (J := K) (r5 1000502 (by decide) (by decide)) (r5 1000503 (by decide) (by decide)) (r5 1000504 (by decide) (by decide)) (funext fun k => kq 1000513 k (by omega)) (funext fun k => kq 1000516 k (by omega)) e508 hg hh z3 z9 hM eM hT eq8
        rw [rp, ← y5]
        obtain ⟨s1, s2⟩ := st r v b hr z1 z3 z4 z8
        by_cases cc : h ≤ b ∧ GU I v g
        · rw [s1 cc]
          exact ⟨fun _ => Or.inr cc, fun _ => by decide⟩
        · rw [s2 cc]
          exact ⟨fun x => Or.inl x, fun x => x.resolve_right cc⟩
  · rcases tel with ⟨e, e14, _⟩ | ⟨e, e14, _⟩
    · rw [e]; exact e14
    · rw [e]; exact e14
  · by_cases hk2 : k = 201 * g + h
    · rcases tel with ⟨e, e14, eq8, _⟩ | ⟨e, e14, eq8, _⟩
      · obtain ⟨MM, a, b⟩ := tl.2 k hk
        exact ⟨MM, by omega, by rw [hk2, eq8, ← hk2]; exact b⟩
      · exact ⟨T + 1, by omega, by rw [hk2]; exact eq8⟩
    · obtain ⟨MM, a, b⟩ := tl.2 k hk
      refine ⟨MM, ?_, by rw [e508 k hk2]; exact b⟩
      rcases tel with ⟨e, _⟩ | ⟨e, _⟩ <;> omega
end OR1
