/-! own: publish and retire, both sides, with the invariant -/
set_option maxRecDepth 100000
section OP1
variable {X : Nat × (Nat → Int32)} {I I0 J K : Nat → Nat → Int32} {L M : Nat → Nat → Int64} {F H : Nat → Nat → UInt32} {Q : AQ} {N N2 T T2 rc sc t n g h c r b v m : Nat} {s s2 : AS} {p0 p1 p2 p3 : Int32}
theorem InvS.quiet3 (z : InvS s T rc sc t n N I L F) (v : VI J M H s2) (rr : RunR J H (aC s2) T rc) (hq : ∀ o k, (o ≤ 2 ∨ (381 ≤ o ∧ o < 498) ∨ (o = 498 ∧ 0 < k ∧ k < 46 ∧ k ≠ 5) ∨ o = 499 ∨ o = 508 ∨ (511 ≤ o ∧ o ≤ 536)) → J o k = I o k) (hf : QtF F H) : InvS s2 T rc sc t n N J M H := by
  obtain ⟨_, dr, nw, _, ⟨tl, hT⟩, da, si⟩ := z
  exact ⟨v, dr.fr (fun k => hq 1 k (by omega)) (fun k => hq 2 k (by omega)) (hq _ _ (by omega)) (fun k => hq _ k (by omega)), nw.fr (hq _ _ (by omega)) (hq _ _ (by omega)), rr, ⟨tl.fr (hq _ _ (by omega)) (funext fun k => hq _ k (by omega)), hT⟩, da.fr (fun o k a b => hq o k (by omega)) (fun o k a b => hq o k (by omega)) (fun o k a b => hf o k (by omega)) (fun o k h => hf o k (by omega)) (Nat.le_refl _), si.fr (hq _ _ (by omega)) (hq _ _ (by omega)) (fun o k a b => hq o k (by omega)) (fun o k a b => hq o k (by omega)) (Nat.le_refl _)⟩
theorem InvS.mpf (z : InvS s T rc sc t n N I L F) (h : MPF I J) : InvS s T rc sc t n N J L F :=
  z.quiet (z.1.same (fun o k a b c => h o k (by omega) (by omega) (by omega)) (h _ _ (by omega) (by omega) (by omega)) (fun o a b c _ _ => funext fun k => h o k (by omega) (by omega) (by omega)) (fun _ _ _ _ _ => rfl) rfl) (fun o k x => h o k (by omega) (by omega) (by omega)) (fun _ _ _ => rfl)
theorem exF (P : Nat → Prop) : ∃ f : Nat → Bool, ∀ k, f k = true ↔ P k :=
  ⟨fun k => @decide (P k) (Classical.propDecidable _), fun k => @decide_eq_true_iff (P k) (Classical.propDecidable _)⟩
theorem op_retire (iv : Inv N I L F) : OpV X (N + 1) plD (fun Q => WP mX9_retire 0 (am_ent 2 [.ref 0, .int p0]) [] (G X I L F) 0 0 Q) mX10_retire (am_ent 4 [.ref 498, .int p0]) := by
  intro Q qv qe
  obtain ⟨s, T, rc, sc, t, n, iv⟩ := iv
  by_cases i : InN p0 6
  · obtain ⟨m, hm, e⟩ := i
    subst e
    obtain ⟨⟨⟨w, fr, ca, ma⟩, rcI, oc, nf, omI, z0⟩, _⟩ := id iv
    obtain ⟨f, hf0⟩ := exF (fun k => RT (aN s) k m)
    have hf : ∀ k, k < 6 → (f k = true ↔ RT (aN s) k m) := fun k _ => hf0 k
    refine sp_cretire w ca hm hf (fun c => qe 2 _ _ _ (by decide) (fun Q2 q => ?_)) (fun c1 c2 ca2 => qv _ _ _ _ (fun z Q2 q => ?_))
    · refine sp_mretire w ma hm hf (fun _ K mp k0 => q _ _ _ (iv.mpf mp).inv k0) (fun c1 c2 => ?_)
      rcases c with c | ⟨k, hk, c⟩
      · exact absurd c c1
      · rw [c2 k hk] at c; cases c
    · have ji : ∀ o k, ¬ (o = 14 ∧ k = m) → am_u I 14 m (-1) o k = I o k := fun o k a => am_u_ne (by omega)
      refine sp_mretire w (ma.fr (ji _ _ (by omega)) (fun o a b => funext fun k => ji o k (by omega))) hm hf (fun c => ?_) (fun _ _ K mp k0 ma2 => ?_)
      · exfalso
        rcases c with c | ⟨k, hk, c⟩
        · exact c1 c
        · rw [c2 k hk] at c; cases c
      · have no : ∀ k, k < 6 → ¬ RT (aN s) k m := fun k hk h => by
          have := (hf k hk).mpr h
          rw [c2 k hk] at this; cases this
        obtain ⟨w2, fr2⟩ := retA_ok w fr hm no
        have ki : ∀ o k, ¬ (o = 14 ∧ k = m) → ¬ (o = 505 ∧ k = m) → o ≠ 500 → o ≠ 506 → ¬ (o = 498 ∧ k = 0) → am_u K 505 m (-1) o k = I o k := fun o k a b c d e => by
          rw [am_u_ne (by omega), mp o k c d e]; exact ji o k a
        have kj : ∀ o k, o < 498 → am_u K 505 m (-1) o k = am_u I 14 m (-1) o k := fun o k a => by
          rw [am_u_ne (by omega), mp o k (by omega) (by omega) (by omega)]
        have hc := w.1
        have row : ∀ o, 501 ≤ o → o ≠ 505 → o ≠ 506 → am_u K 505 m (-1) o = I o := fun o a b c => funext fun k => ki o k (by omega) (by omega) (by omega) (by omega) (by omega)
        have eo : OI (am_u K 505 m (-1)) = OI I := OI_cong (row _ (by decide) (by decide) (by decide)) (row _ (by decide) (by decide) (by decide)) (row _ (by decide) (by decide) (by decide)) (row _ (by decide) (by decide) (by decide))
        have ca3 : CA (am_u K 505 m (-1)) L (retA m s) := ca2.fr (fun o k a b c d => kj o k (by omega)) (fun o k a b c => kj o k (by omega)) hc
        have vi2 : VI (am_u K 505 m (-1)) L F (retA m s) := ⟨⟨w2, fr2, ca3, ma2⟩, rcI.fr (fun g hg k => ki _ k (by omega) (by omega) (by omega) (by omega) (by omega)) (row _ (by decide) (by decide) (by decide)), oc.fr eo (fun v hv => by have hv2 : v < aC s := hv; exact ki _ _ (by omega) (by omega) (by omega) (by omega) (by omega)) (fun _ _ _ => rfl), nf, omI.fr eo (row _ (by decide) (by decide) (by decide)) rfl, fun v a b => (ki _ _ (by omega) (by omega) (by omega) (by omega) (by omega)).trans (z0 v a b)⟩
        have rr := iv.2.2.2.1
        have rr2 : RunR (am_u K 505 m (-1)) F (aC (retA m s)) T rc := rr.fr (ki _ _ (by omega) (by omega) (by omega) (by omega) (by omega)) (ki _ _ (by omega) (by omega) (by omega) (by omega) (by omega)) (fun o k a b => ki o k (by omega) (by omega) (by omega) (by omega) (by omega)) (fun o h => row o (by omega) (by omega) (by omega)) (fun _ _ _ _ => rfl) rfl
        refine q _ _ ((InvS.quiet3 iv vi2 rr2 (fun o k h => ki o k (by omega) (by omega) (by omega) (by omega) (by omega)) (fun _ _ _ => rfl)).l540).inv ?_
        rw [am_u_ne (by omega)]; exact k0
  · have md : AnsE X (N + 1) mX10_retire (am_ent 4 [.ref 498, .int p0]) 1 I L F := fun Q2 q =>
      k_X10_retire_0 ⟨fun _ => ⟨fun _ => q _ _ _ iv.thr.inv am_u_eq, fun a => absurd (hol_0 (by decide)) a⟩, fun a => absurd (m10_0 i) a⟩
    exact k_X9_retire_0 ⟨fun _ => qe 0 _ _ _ (by decide) md, fun a => absurd (m9_0 i) a⟩
/-- gauges hang on versions that are not higher -/
theorem gu_cong (hc : c ≤ 60) (h1 : ∀ u, u < c → vT (J 502) (J 503) u = vT (I 502) (I 503) u) (h2 : ∀ u k, u < c → k < 6 → J 504 (6 * u + k) = I 504 (6 * u + k)) : ∀ (n v : Nat), v < n → v < c → ∀ g, (GU J v g ↔ GU I v g)
  | 0, v, h, _, _ => absurd h (by omega)
  | n + 1, v, h, hv, g => by
    rw [GU.iff (by omega), GU.iff (by omega), h1 v hv]
    refine or_congr Iff.rfl ⟨fun ⟨k, u, a, b, c, d⟩ => ⟨k, u, a, ?_, c, (gu_cong hc h1 h2 n u (by omega) (by omega) g).mp d⟩, fun ⟨k, u, a, b, c, d⟩ => ⟨k, u, a, ?_, c, (gu_cong hc h1 h2 n u (by omega) (by omega) g).mpr d⟩⟩
    · rw [← h2 v k hv a]; exact b
    · rw [h2 v k hv a]; exact b
/-- versions came in, on both sides -/
theorem InvS.pub {zf : AS} (z : InvS s T rc sc t n N I L F) (wz : WA zf) (fz : Frsh zf) (le : aC s ≤ aC zf) (caK : CA K M zf) (maK : MA K zf)
    (kc : ∀ o k, (o < 3 ∨ (8 < o ∧ o < 19 ∧ o ≠ 14 ∧ o ≠ 9) ∨ (379 ≤ o ∧ o < 498) ∨ (o = 498 ∧ k ≠ 0 ∧ k ≠ 5) ∨ o = 499 ∨ (507 ≤ o ∧ o ≤ 509) ∨ (511 ≤ o ∧ o ≤ 540)) → K o k = I o k)
    (k6 : ∀ v, K (19 + 6 * v) 6 = I (19 + 6 * v) 6 ∨ 60 ≤ v) (k502 : ∀ k, k < aC s → K 502 k = I 502 k) (k503 : ∀ k, k < 40 * aC s → K 503 k = I 503 k) (k504 : ∀ k, k < 6 * aC s → K 504 k = I 504 k) (k510 : ∀ k, k < aC s → K 510 k = I 510 k) (n510 : ∀ v, aC s ≤ v → v < aC zf → K 510 v = 0) : InvS zf T rc sc t n N K M F := by
  obtain ⟨⟨w, fr, ca, ma⟩, rcI, oc, nf, omI, z0⟩ := z.1
  have hc := w.1
  have hz := wz.1
  have vm := ma.vm w
  have ev : ∀ u, u < aC s → vT (K 502) (K 503) u = vT (I 502) (I 503) u := fun u hu => by
    obtain ⟨tx, l, _⟩ := vm u hu
    unfold vT
    rw [k502 u hu]
    have l40 : (vT (I 502) (I 503) u).length ≤ 40 := tx.1
    refine seg_cong _ _ _ (fun k hk => k503 _ ?_)
    rw [l, nI_clamp (by omega)] at hk
    omega
  have e504 : ∀ u k, u < aC s → k < 6 → K 504 (6 * u + k) = I 504 (6 * u + k) := fun u k hu hk => k504 _ (by omega)
  have eo : ∀ v t, v < aC s → OI K v t = OI I v t := fun v t hv => by
    unfold OI
    refine OO_cong (H := t) (S := fun u => u < aC s) (fun u hu => ?_) t (Nat.le_refl t) v hv
    obtain ⟨tx, l, po, _⟩ := vm u hu
    have hu2 : u < aC s := hu
    exact ⟨by omega, tx, ev u hu, po, fun k hk => e504 u k hu hk, fun k x _ _ lt => (show x < aC s by omega), fun g2 _ _ t2 _ => kc 507 _ (by omega)⟩
  have gu : ∀ v, v < aC s → GU K v = GU I v := fun v hv => funext fun g => propext (gu_cong hc ev e504 (v + 1) v (by omega) hv g)
  have k62 : ∀ v, v < 60 → K (19 + 6 * v) 6 = I (19 + 6 * v) 6 := fun v hv => (k6 v).resolve_right (by omega)
  have viK : VI K M F zf := by
    refine ⟨⟨wz, fz, caK, maK⟩, rcI.fr (fun g hg k => kc _ k (by omega)) (funext fun k => kc _ k (by omega)), fun v hv => ?_, nf, fun v hv => ?_, fun v a b => (k62 v b).trans (z0 v (by omega) b)⟩
    · by_cases h : v < aC s
      · obtain ⟨kh, a, b, d⟩ := oc v h
        exact ⟨kh, a, (k62 v (by omega)).trans b, fun t ht => by rw [eo v t h]; exact d t ht⟩
      · exact ⟨0, by omega, (k62 v (by omega)).trans (z0 v (by omega) (by omega)), fun t ht => by omega⟩
    · by_cases h : v < aC s
      · obtain ⟨kh, a, b, d⟩ := omI v h
        exact ⟨kh, a, (k510 v h).trans b, fun t ht => by rw [eo v t h]; exact d t ht⟩
      · exact ⟨0, by omega, n510 v (by omega) hv, fun t ht => by omega⟩
  have rr := z.2.2.2.1
  have h40 := rr.1
  have rr2 : RunR K F (aC zf) T rc := by
    refine ⟨rr.1, (kc _ _ (by omega)).trans rr.2.1, (kc _ _ (by omega)).trans rr.2.2.1, fun r hr => ?_⟩
    obtain ⟨v, a, b, z1, z2, z3, z4, z5, z6, z7, z8, z9, y1, y2, y3, ⟨MM, hM, eM⟩, y5⟩ := rr.2.2.2 r hr
    have kk : ∀ k, K (383 + r) k = I (383 + r) k := fun k => kc _ k (by omega)
    have k5 : ∀ o, 511 ≤ o → o ≤ 516 → K o r = I o r := fun o x y => kc o r (by omega)
    refine ⟨v, a, b, by omega, z2, z3, (kk 0).trans z4, (k5 _ (by decide) (by decide)).trans z5, (kk 1).trans z6, (k5 _ (by decide) (by decide)).trans z7, (kk 2).trans z8, (k5 _ (by decide) (by decide)).trans z9, y1, y2, ?_, ⟨MM, hM, (k5 _ (by decide) (by decide)).trans eM⟩, ?_⟩
    · rw [kk 4, k5 515 (by decide) (by decide)]; exact y3
    · rw [kk 5, y5, gu v z1]
      have r508 : K 508 = I 508 := funext fun k => kc _ k (by omega)
      unfold RP
      rw [r508, k5 513 (by decide) (by decide), k5 516 (by decide) (by decide)]
  exact z.quiet3 viK rr2 (fun o k h => kc o k (by omega)) (fun _ _ _ => rfl)
theorem op_publish (iv : Inv N I L F) : OpV X (N + 1) plC (fun Q => WP mX9_publish 0 (am_ent 2 [.ref 0, .int p0]) [] (G X I L F) 0 0 Q) mX10_publish (am_ent 8 [.ref 498, .int p0]) := by
  intro Q qv qe
  obtain ⟨s, T, rc, sc, t, l, iv⟩ := iv
  by_cases i : InN p0 6
  · obtain ⟨m, hm, e⟩ := i
    subst e
    obtain ⟨⟨⟨w, fr, ca, ma⟩, rcI, oc, nf, omI, z0⟩, ⟨n40, d1, d2, dk⟩, _⟩ := id iv
    obtain ⟨f, hf0⟩ := exF (fun k => RT (aN s) k m)
    obtain ⟨lat, hl0⟩ := exF (fun k => aL s k ≠ -1)
    have hf : ∀ k, k < 6 → (f k = true ↔ RT (aN s) k m) := fun k _ => hf0 k
    have hl : ∀ k, k < 6 → (lat k = true ↔ aL s k ≠ -1) := fun k _ => hl0 k
    have es : ∀ J : Nat → Nat → Int32, (∀ k, J 499 k = I 499 k) → seg (J 499) 0 l = seg (I 2) 0 l := fun J h => seg_cong l 0 0 (fun k hk => by
      rw [Nat.zero_add, h k]
      exact (dk k hk).symm)
    refine sp_cpublish w fr ca n40 d1 hm hl hf (fun nt J rd => qe 1 _ _ _ (by decide) (fun Q2 q => ?_)) (fun tx nc J rd => qe 2 _ _ _ (by decide) (fun Q2 q => ?_)) (fun tx cn cc n1 zf h5 bz wz fz ez J K M rd sh lh caK => qv _ _ _ _ (fun z Q2 q => ?_))
    · have iv1 := iv.rd rd
      have ee := es J (fun k => rd 499 k (by omega))
      refine sp_mpublish w fr iv1.1.1.2.2.2 n40 iv1.2.1.2.2.1 hm hl hf (fun _ K mp k0 => q _ _ _ (iv1.mpf mp).inv k0) (fun tx => ?_) (fun tx => ?_)
      · rw [ee] at tx; exact absurd tx nt
      · rw [ee] at tx; exact absurd tx nt
    · have iv1 := iv.rd rd
      have ee := es J (fun k => rd 499 k (by omega))
      refine sp_mpublish w fr iv1.1.1.2.2.2 n40 iv1.2.1.2.2.1 hm hl hf (fun nt => ?_) (fun _ _ K mp k0 => q _ _ _ (iv1.mpf mp).inv k0) (fun _ cn cc => ?_)
      · rw [ee] at nt; exact absurd tx nt
      · rw [ee] at cn; exact absurd ⟨cn, cc⟩ nc
    · have hc := w.1
      have kj : ∀ o k, ¬ (19 + 6 * aC s ≤ o ∧ o < 379) → o ≠ 14 → ¬ (o = 9 ∧ k = 4) → (o < 3 ∨ 8 < o) → K o k = I o k := fun o k a b c d => (sh.1 o k a b c).trans (rd o k d)
      have ee := es K (fun k => kj 499 k (by omega) (by omega) (by omega) (by omega))
      have maK : MA K s := ma.fr (kj _ _ (by omega) (by omega) (by omega) (by omega)) (fun o a b => funext fun k => kj o k (by omega) (by omega) (by omega) (by omega))
      refine sp_mpublish w fr maK n40 ((kj 498 2 (by omega) (by omega) (by omega) (by omega)).trans d2) hm hl hf (fun nt => ?_) (fun _ nc => ?_) (fun _ _ _ n2 zf2 _ bz2 wz2 fz2 ez2 J2 K2 mp j0 pg => ?_)
      · rw [ee] at nt; exact absurd tx nt
      · rw [ee] at nc; exact absurd ⟨cn, cc⟩ nc
      · rw [ee] at bz2
        have ezf : zf = zf2 := bind_det bz bz2
        subst ezf
        obtain ⟨maK2, pf, _, pn⟩ := pg
        have kk : ∀ o k, o < 498 → K2 o k = K o k := fun o k a => by rw [pf o k (by omega) (by omega) (by omega) (by omega) (by omega) (by omega) (by omega) (by omega)]; exact mp o k (by omega) (by omega) (by omega)
        have km : ∀ o k, 498 ≤ o → ¬ (o = 501 ∧ aC s ≤ k) → ¬ (o = 502 ∧ aC s ≤ k) → ¬ (o = 503 ∧ 40 * aC s ≤ k) → ¬ (o = 504 ∧ 6 * aC s ≤ k) → ¬ (o = 510 ∧ aC s ≤ k) → o ≠ 505 → o ≠ 506 → ¬ (o = 498 ∧ (k = 0 ∨ k = 5)) → o ≠ 500 → K2 o k = I o k := fun o k h a b c d e g1 g2 g3 g4 => by
          rw [pf o k a b c d e g1 g2 (by omega), mp o k g4 g2 (by omega)]
          exact kj o k (by omega) (by omega) (by omega) (by omega)
        have caK2 : CA K2 (am_u M 540 0 z) zf := caK.lo (fun o k a b c => Or.inl (kk o k (by omega))) (fun o k a b => am_u_ne (by omega)) (fun o k a b c => kk o k (by omega)) wz.1
        refine q _ _ (InvS.inv (InvS.pub iv wz fz (by omega) caK2 maK2 (fun o k h => ?_) (fun v => ?_) (fun k hk => km _ k (by omega) (by omega) (by omega) (by omega) (by omega) (by omega) (by omega) (by omega) (by omega) (by omega)) (fun k hk => km _ k (by omega) (by omega) (by omega) (by omega) (by omega) (by omega) (by omega) (by omega) (by omega) (by omega)) (fun k hk => km _ k (by omega) (by omega) (by omega) (by omega) (by omega) (by omega) (by omega) (by omega) (by omega) (by omega)) (fun k hk => km _ k (by omega) (by omega) (by omega) (by omega) (by omega) (by omega) (by omega) (by omega) (by omega) (by omega)) pn)) ?_
        · by_cases ho : o < 498
          · rw [kk o k ho]; exact kj o k (by omega) (by omega) (by omega) (by omega)
          · exact km o k (by omega) (by omega) (by omega) (by omega) (by omega) (by omega) (by omega) (by omega) (by omega) (by omega)
        · by_cases hv : v < 60
          · refine Or.inl ?_
            rw [kk _ _ (by omega), sh.2 v]
            exact rd _ _ (by omega)
          · exact Or.inr (by omega)
        · rw [pf 498 0 (by omega) (by omega) (by omega) (by omega) (by omega) (by omega) (by omega) (by omega)]; exact j0
  · have md : AnsE X (N + 1) mX10_publish (am_ent 8 [.ref 498, .int p0]) 1 I L F := fun Q2 q =>
      k_X10_publish_0 ⟨fun _ => ⟨fun _ => q _ _ _ iv.thr.inv am_u_eq, fun a => absurd (hol_0 (by decide)) a⟩, fun a => absurd (m10_0 i) a⟩
    exact k_X9_publish_0 ⟨fun _ => qe 0 _ _ _ (by decide) md, fun a => absurd (m9_0 i) a⟩
end OP1
