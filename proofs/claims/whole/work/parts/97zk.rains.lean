/-! own: rains told, both sides, with the invariant -/
set_option maxRecDepth 100000
section OR1
variable {X : Nat × (Nat → Int32)} {I I0 J K : Nat → Nat → Int32} {L M : Nat → Nat → Int64} {F H : Nat → Nat → UInt32} {Q : AQ} {N N2 T T2 rc sc t n g h c r b v : Nat} {s : AS} {p0 p1 p2 p3 : Int32}
theorem InvS.rained (z : InvS s T rc sc t n N I L F) (hg : g < 3) (hh : h < 201) (hT : T < 1000000)
    (kA : ∀ o k, ¬ (o = 16 + g ∧ k = h) → ¬ (∃ v, v < 60 ∧ o = 19 + 6 * v ∧ k = 6) → ¬ (383 ≤ o ∧ o < 423 ∧ k = 5) → ¬ (o = 498 ∧ (k = 0 ∨ k = 14)) → ¬ ((o = 507 ∨ o = 508) ∧ k = 201 * g + h) → o ≠ 510 → K o k = I o k)
    (kr : K (16 + g) h = K 507 (201 * g + h)) (tru : ∀ v, v < aC s → TRU g h (K 507 (201 * g + h) ≠ I 507 (201 * g + h)) I K v) (k0 : ∀ v, aC s ≤ v → v < 60 → K (19 + 6 * v) 6 = I (19 + 6 * v) 6) (om : OM K F (aC s))
    (tel : (T2 = T ∧ K 498 14 = nI T ∧ K 508 (201 * g + h) = I 508 (201 * g + h) ∧ ∀ r, r < rc → K (383 + r) 5 = I (383 + r) 5) ∨ (T2 = T + 1 ∧ K 498 14 = nI (T + 1) ∧ K 508 (201 * g + h) = nI (T + 1) ∧ ∀ r v b, r < rc → v < aC s → b < 201 → I (383 + r) 0 = nI v → I (383 + r) 2 = nI b → ((h ≤ b ∧ GU I v g) → K (383 + r) 5 = 1) ∧ (¬ (h ≤ b ∧ GU I v g) → K (383 + r) 5 = I (383 + r) 5)))
    (hT2 : T2 ≤ N2) : InvS s T2 rc sc t n N2 K L F := by
  obtain ⟨⟨⟨w, frs, ca, ma⟩, rcI, oc, nf, omI, z0⟩, dr, nw, rr, ⟨tl, _⟩, da, si⟩ := z
  have hc := w.1
  have nv : ∀ o k, (¬ (19 ≤ o ∧ o < 379) ∨ k ≠ 6) → ¬ (∃ v, v < 60 ∧ o = 19 + 6 * v ∧ k = 6) := fun o k h ⟨v, a, b, c⟩ => by omega
  have kq : ∀ o k, (o ≤ 14 ∨ (379 ≤ o ∧ o < 383) ∨ (423 ≤ o ∧ o < 498) ∨ (383 ≤ o ∧ o < 423 ∧ k ≠ 5) ∨ (o = 498 ∧ k ≠ 0 ∧ k ≠ 14) ∨ (499 ≤ o ∧ o ≤ 506) ∨ (511 ≤ o ∧ o ≤ 536)) → K o k = I o k := fun o k h => kA o k (by omega) (nv o k (by omega)) (by omega) (by omega) (by omega) (by omega)
  have r5 : ∀ o, 501 ≤ o → o ≤ 506 → K o = I o := fun o a b => funext fun k => kq o k (by omega)
  have e507 : ∀ k, k ≠ 201 * g + h → K 507 k = I 507 k := fun k hk => kA 507 k (by omega) (nv _ k (by omega)) (by omega) (by omega) (by omega) (by omega)
  have e508 : ∀ k, k ≠ 201 * g + h → K 508 k = I 508 k := fun k hk => kA 508 k (by omega) (nv _ k (by omega)) (by omega) (by omega) (by omega) (by omega)
  have caK : CA K L s := ca.lo (fun o k a b c => by
    by_cases ho : o < 15 ∨ 19 ≤ o
    · exact Or.inl (kA o k (by omega) (nv o k (by omega)) (by omega) (by omega) (by omega) (by omega))
    · exact Or.inr ho) (fun _ _ _ _ => rfl) (fun o k a b c => kA o k (by omega) (fun ⟨v, x, y, _⟩ => c ⟨v, x, y⟩) (by omega) (by omega) (by omega) (by omega)) hc
  have maK : MA K s := ma.fr (kq _ _ (by omega)) (fun o a b => r5 o a (by omega))
  have rcK : RC K := fun g2 hg2 t2 ht2 => by
    by_cases e : g2 = g ∧ t2 = h
    · rw [e.1, e.2]; exact kr
    · rw [kA (16 + g2) t2 (by omega) (nv _ _ (by omega)) (by omega) (by omega) (by omega) (by omega), e507 _ (by omega)]
      exact rcI g2 hg2 t2 ht2
  have ocK : OC K F (aC s) := oc_rain w ca ma oc (r5 _ (by decide) (by decide)) (r5 _ (by decide) (by decide)) (r5 _ (by decide) (by decide)) e507 hh tru
  have viK : VI K L F s := ⟨⟨w, frs, caK, maK⟩, rcK, ocK, nf, om, fun v a b => (k0 v a b).trans (z0 v a b)⟩
  refine ⟨viK, dr.fr (fun k => kq _ k (by omega)) (fun k => kq _ k (by omega)) (kq _ _ (by omega)) (fun k => kq _ k (by omega)), nw.fr (kq _ _ (by omega)) (kq _ _ (by omega)), ⟨rr.1, (kq _ _ (by omega)).trans rr.2.1, (kq _ _ (by omega)).trans rr.2.2.1, fun r hr => ?_⟩, ⟨⟨?_, fun k hk => ?_⟩, hT2⟩, da.fr (fun o k a b => kq o k (by omega)) (fun o k a b => kq o k (by omega)) (fun _ _ _ _ => rfl) (fun _ _ _ => rfl) (Nat.le_refl _), si.fr (kq _ _ (by omega)) (kq _ _ (by omega)) (fun o k a b => kq o k (by omega)) (fun o k a b => kq o k (by omega)) (Nat.le_refl _)⟩
  · have h40 := rr.1
    obtain ⟨v, a, b, z1, z2, z3, z4, z5, z6, z7, z8, z9, y1, y2, y3, ⟨MM, hM, eM⟩, y5⟩ := rr.2.2.2 r hr
    have kk : ∀ k, k ≠ 5 → K (383 + r) k = I (383 + r) k := fun k hk => kq _ k (by omega)
    have k5 : ∀ o, 511 ≤ o → o ≤ 516 → K o r = I o r := fun o x y => kq o r (by omega)
    refine ⟨v, a, b, z1, z2, z3, (kk 0 (by decide)).trans z4, (k5 _ (by decide) (by decide)).trans z5, (kk 1 (by decide)).trans z6, (k5 _ (by decide) (by decide)).trans z7, (kk 2 (by decide)).trans z8, (k5 _ (by decide) (by decide)).trans z9, y1, y2, ?_, ⟨MM, ?_, (k5 _ (by decide) (by decide)).trans eM⟩, ?_⟩
    · rw [kk 4 (by decide), k5 515 (by decide) (by decide)]; exact y3
    · rcases tel with ⟨e, _⟩ | ⟨e, _⟩ <;> omega
    · rcases tel with ⟨e, e14, eq8, st⟩ | ⟨e, e14, eq8, st⟩
      · rw [st r hr, y5]
        have r508 : K 508 = I 508 := funext fun k => by
          by_cases hk : k = 201 * g + h
          · rw [hk]; exact eq8
          · exact e508 k hk
        have gu : GU K v = GU I v := by
          funext x
          unfold GU
          rw [r5 502 (by decide) (by decide), r5 503 (by decide) (by decide), r5 504 (by decide) (by decide)]
        unfold RP
        rw [gu, r508, k5 513 (by decide) (by decide), k5 516 (by decide) (by decide)]
      · have rp := rp_rain (r := r) (v := v) (b := b) (MM := MM) (T := T) (I := I) (J := K) (r5 502 (by decide) (by decide)) (r5 503 (by decide) (by decide)) (r5 504 (by decide) (by decide)) (funext fun k => kq 513 k (by omega)) (funext fun k => kq 516 k (by omega)) e508 hg hh z3 z9 hM eM hT eq8
        rw [rp, ← y5]
        obtain ⟨s1, s2⟩ := st r v b hr z1 z3 z4 z8
        by_cases cc : h ≤ b ∧ GU I v g
        · rw [s1 cc]
          exact ⟨fun _ => Or.inr cc, fun _ => by decide⟩
        · rw [s2 cc]
          exact ⟨fun x => Or.inl x, fun x => x.resolve_right cc⟩
  · rcases tel with ⟨e, e14, _⟩ | ⟨e, e14, _⟩
    · rw [e]; exact e14
    · rw [e]; exact e14
  · by_cases hk2 : k = 201 * g + h
    · rcases tel with ⟨e, e14, eq8, _⟩ | ⟨e, e14, eq8, _⟩
      · obtain ⟨MM, a, b⟩ := tl.2 k hk
        exact ⟨MM, by omega, by rw [hk2, eq8, ← hk2]; exact b⟩
      · exact ⟨T + 1, by omega, by rw [hk2]; exact eq8⟩
    · obtain ⟨MM, a, b⟩ := tl.2 k hk
      refine ⟨MM, ?_, by rw [e508 k hk2]; exact b⟩
      rcases tel with ⟨e, _⟩ | ⟨e, _⟩ <;> omega
theorem op_rain (hN : N < 1000000) (iv : Inv N I L F) : OpV X (N + 1) plE (fun Q => WP mX9_rain 0 (am_ent 5 [.ref 0, .int p0, .int p1, .int p2]) [] (G X I L F) 0 0 Q) mX10_rain (am_ent 6 [.ref 498, .int p0, .int p1, .int p2]) := by
  intro Q qv qe
  obtain ⟨s, T, rc, sc, t, n, iv⟩ := iv
  have iv0 := iv
  obtain ⟨vi, dr, nw, rr, ⟨tl, hT⟩, da, si⟩ := iv
  have hc := vi.1.1.1
  have c9 := vi.1.2.2.1.1
  have c5 := vi.1.2.2.2.1
  have hk : ∀ v, v < aC s → ∃ kh, kh ≤ 201 ∧ I (19 + 6 * v) 6 = nI kh := fun v hv => by
    obtain ⟨kh, a, b, _⟩ := vi.2.2.1 v hv
    exact ⟨kh, a, b⟩
  have hk2 : ∀ v, v < aC s → ∃ kh, kh ≤ 201 ∧ I 510 v = nI kh := fun v hv => by
    obtain ⟨kh, a, b, _⟩ := vi.2.2.2.2.1 v hv
    exact ⟨kh, a, b⟩
  have hrun : ∀ r, r < rc → ∃ v b, v < aC s ∧ b < 201 ∧ I (383 + r) 0 = nI v ∧ I (383 + r) 2 = nI b := fun r hr => by
    obtain ⟨v, a, b, z1, z2, z3, z4, z5, z6, z7, z8, _⟩ := rr.2.2.2 r hr
    exact ⟨v, b, z1, z3, z4, z8⟩
  refine sp_crain hc c9 hk rr.1 rr.2.1 hrun (fun h => qe 0 _ _ _ (by decide) (fun Q2 q => ?_)) (fun h1 h2 => qe 1 _ _ _ (by decide) (fun Q2 q => ?_)) (fun g h hg hh eg eh hm J cr => qv _ _ _ _ (fun z Q2 q => ?_))
  · exact sp_mrain hc c5 hk2 (by omega) tl.1 (fun _ => q _ _ _ iv0.thr.inv am_u_eq) (fun h1 _ => absurd h1 h) (fun g h2 hg _ e _ _ _ _ => absurd ⟨g, hg, e⟩ h)
  · exact sp_mrain hc c5 hk2 (by omega) tl.1 (fun h => absurd h1 h) (fun _ _ => q _ _ _ iv0.thr.inv am_u_eq) (fun g h hg hh _ e hm _ _ => absurd ⟨⟨h, hh, e⟩, hm⟩ h2)
  · obtain ⟨J1, f1, e1, tr, k0, sf, same, stp⟩ := cr
    have rcI : I (16 + g) h = I 507 (201 * g + h) := vi.2.1 g hg h hh
    have jf : ∀ o k, ¬ (o = 16 + g ∧ k = h) → ¬ (∃ v, v < 60 ∧ o = 19 + 6 * v ∧ k = 6) → ¬ (383 ≤ o ∧ o < 423 ∧ k = 5) → J o k = I o k := fun o k a b c => by rw [sf o k c]; exact f1 o k a b
    have jh : ∀ o k, 498 ≤ o → J o k = I o k := fun o k a => jf o k (by omega) (fun ⟨v, x, y, _⟩ => by omega) (by omega)
    have jv : ∀ v, v < 60 → J (19 + 6 * v) 6 = J1 (19 + 6 * v) 6 := fun v hv => sf _ _ (by omega)
    have jg : J (16 + g) h = p2 := (sf _ _ (by omega)).trans e1
    refine sp_mrain hc ((jh _ _ (by omega)).trans c5) (fun v hv => by rw [jh 510 v (by omega)]; exact hk2 v hv) (by omega : T < 1000000) ((jh _ _ (by omega)).trans tl.1) (fun h => absurd ⟨g, hg, eg⟩ h) (fun _ h2 => absurd ⟨⟨h, hh, eh⟩, hm⟩ h2) (fun g2 h2 hg2 hh2 eg2 eh2 _ K mr => ?_)
    have g2e : g = g2 := (nI_eq (by omega) (by omega)).mp (eg.symm.trans eg2)
    have h2e : h = h2 := (nI_eq (by omega) (by omega)).mp (eh.symm.trans eh2)
    subst g2e h2e
    rw [jh 507 _ (by omega), ← rcI]
    rcases mr with ⟨eq, eK⟩ | ⟨neq, x0, x14, x507, x508, xf, xm⟩
    · rw [jh 507 _ (by omega)] at eq
      have un : I (16 + g) h = p2 := rcI.trans eq
      have jj : J = J1 := same un
      refine q K F ⟨s, T, rc, sc, t, n, ?_⟩ (by rw [eK, am_u_eq])
      have kj : ∀ o k, ¬ (o = 498 ∧ k = 0) → K o k = J o k := fun o k a => by rw [eK, am_u_ne (by omega)]
      refine (InvS.rained (T2 := T) iv0.l540 hg hh (by omega) (fun o k a b c e f g2 => (kj o k (by omega)).trans (jf o k a b c)) ?_ (fun v hv => ?_) (fun v a b => ?_) ?_ (Or.inl ⟨rfl, ?_, ?_, fun r hr => ?_⟩) (by omega : T ≤ N + 1))
      · rw [kj _ _ (by omega), kj _ _ (by omega), jg, jh 507 _ (by omega), eq]
      · have e7 : K 507 (201 * g + h) = I 507 (201 * g + h) := (kj _ _ (by omega)).trans (jh _ _ (by omega))
        intro kh a b
        obtain ⟨k2, l2, m2, _⟩ := tr v hv kh a b
        exact ⟨k2, l2, by rw [kj _ _ (by omega), jv v (by omega)]; exact m2, fun c => absurd e7 c⟩
      · rw [kj _ _ (by omega), jv v b]; exact k0 v a
      · exact vi.2.2.2.2.1.fr (OI_cong (funext fun k => (kj _ k (by omega)).trans (jh _ _ (by omega))) (funext fun k => (kj _ k (by omega)).trans (jh _ _ (by omega))) (funext fun k => (kj _ k (by omega)).trans (jh _ _ (by omega))) (funext fun k => (kj _ k (by omega)).trans (jh _ _ (by omega)))) (funext fun k => (kj _ k (by omega)).trans (jh _ _ (by omega))) rfl
      · rw [kj _ _ (by omega), jh _ _ (by omega)]; exact tl.1
      · rw [kj _ _ (by omega), jh _ _ (by omega)]
      · have h40 := rr.1
        rw [kj _ _ (by omega), jj]
        exact f1 _ _ (by omega) (fun ⟨v, x, y, _⟩ => by omega)
    · rw [jh 507 _ (by omega)] at neq
      have ch : I (16 + g) h ≠ p2 := fun z => neq (rcI.symm.trans z)
      refine q K F ⟨s, T + 1, rc, sc, t, n, ?_⟩ x0
      have kj : ∀ o k, o < 498 → K o k = J o k := fun o k a => xf o k (by omega) (by omega) (by omega)
      refine (InvS.rained (T2 := T + 1) iv0.l540 hg hh (by omega) (fun o k a b c e f g2 => (xf o k e f g2).trans (jf o k a b c)) ?_ (fun v hv => ?_) (fun v a b => ?_) ?_ (Or.inr ⟨rfl, x14, x508, fun r v b hr hv hb ev eb => ?_⟩) (by omega : T + 1 ≤ N + 1))
      · rw [kj _ _ (by omega), jg, x507]
      · intro kh a b
        obtain ⟨k2, l2, m2, c2⟩ := tr v hv kh a b
        exact ⟨k2, l2, by rw [kj _ _ (by omega), jv v (by omega)]; exact m2, fun _ => c2 ch⟩
      · rw [kj _ _ (by omega), jv v b]; exact k0 v a
      · have row : ∀ o, 501 ≤ o → o ≤ 504 → K o = I o := fun o a b => funext fun k => (xf o k (by omega) (by omega) (by omega)).trans (jh o k (by omega))
        refine om_rain (g := g) (h := h) vi.1.1 vi.1.2.2.2 vi.2.2.2.2.1 (row _ (by decide) (by decide)) (row _ (by decide) (by decide)) (row _ (by decide) (by decide)) (fun k hk => (xf 507 k (by omega) (by omega) (by omega)).trans (jh 507 k (by omega))) hh (fun v hv kh a b => ?_)
        exact xm v hv kh a ((jh 510 v (by omega)).trans b)
      · have h40 := rr.1
        have j1r : ∀ k, J1 (383 + r) k = I (383 + r) k := fun k => f1 _ k (by omega) (fun ⟨v, x, y, _⟩ => by omega)
        have j14 : J1 (19 + 6 * v) 4 = I (19 + 6 * v) 4 := f1 _ 4 (by omega) (fun ⟨v, x, y, w⟩ => by omega)
        obtain ⟨s1, s2⟩ := stp ch r v b hr hv hb ((j1r 0).trans ev) ((j1r 2).trans eb)
        rw [j14, ca_gau vi.1.1 vi.1.2.2.1 vi.1.2.2.2 (v + 1) v (by omega) hv g] at s1 s2
        rw [kj _ _ (by omega)]
        exact ⟨s1, fun x => (s2 x).trans (j1r 5)⟩
end OR1
