/-! own: dams, valleys and sirens told by the law -/
set_option maxRecDepth 100000
section ZDM
variable {X : Nat × (Nat × (Nat → Int32))} {I J K : Nat → Nat → Int32} {L M : Nat → Nat → Int64} {F H : Nat → Nat → UInt32} {Q : AQ} {N T rc sc t n n2 d r v k h x m j c0 a b mo cap : Nat} {s z : AS} {p1 p2 p3 : Int32}
theorem good_v (iv : InvS s T rc sc t n N I L F) (hd : d < 3) (hr : r < rc) (hb : I 1000517 d ≠ 0) (ev : I 1000511 r = nI v) (hv : v < aC s) : f_X9_isGoodFor (nI r) (423 + 5 * d) I = if f_X9_reasonAgainst (nI r) I = 0 then (if aM s v = I 1000518 d then 1 else 0) else 0 := by
  have rr := iv.2.2.2.1
  have h40 := rr.1
  have ca := iv.1.1.2.2.1
  have hc := iv.1.1.1.1
  obtain ⟨v2, a, b, z1, z2, z3, z4, z5, _⟩ := rr.2.2.2 r hr
  have vv : v = v2 := (nI_eq (by omega) (by omega)).mp (ev.symm.trans z5)
  subst vv
  obtain ⟨mo, cap, _, _, m1, m2, _⟩ := (iv.2.2.2.2.2.1 d hd).1.2.1 hb
  unfold f_X9_isGoodFor f_X6_modelOf
  rw [isRun9 h40 rr.2.1 hr, if_neg n10, nI_clamp (show r < 2 ^ 31 by omega), z4, has_lt hc ca.1 hv, if_neg n10, nI_clamp (show v < 2 ^ 31 by omega), (ca.2.1 v hv).2.2.1, m1, m2]
/-- one dam changes, in the law's rows too -/
theorem LC.dam (lc : LC s rc sc t I F) (hd : d < 3) (h5 : ∀ r, r < 12 → K (383 + r) 5 = I (383 + r) 5) (hK : ∀ o k, 498 ≤ o → o ≤ 501 → ¬ (o = 498 ∧ 4 + 6 * d ≤ k ∧ k < 10 + 6 * d) → K o k = I o k) (hg : ∀ o k, 1000502 ≤ o → o ≤ 1000536 → ¬ (1000517 ≤ o ∧ o ≤ 1000529 ∧ k = d) → K o k = I o k) (ld : LD K d) (lg : LG K F sc d) (h517 : I 1000517 d ≠ 0 → K 1000517 d ≠ 0) : LC s rc sc t K F := by
  obtain ⟨⟨a0, a1, a2, a3, a4, a5⟩, b, c, d2, e, f, g, k⟩ := lc
  have eo : OI K = OI I := OI_cong (funext fun k => hg _ k (by omega) (by omega) (by omega)) (funext fun k => hg _ k (by omega) (by omega) (by omega)) (funext fun k => hg _ k (by omega) (by omega) (by omega)) (funext fun k => hg _ k (by omega) (by omega) (by omega))
  refine ⟨⟨(hK _ _ (by omega) (by omega) (by omega)).trans a0, (hK _ _ (by omega) (by omega) (by omega)).trans a1, (hK _ _ (by omega) (by omega) (by omega)).trans a2, (hK _ _ (by omega) (by omega) (by omega)).trans a3, a4, a5⟩, fun d3 hd3 => ?_, fun r hr => ?_, fun x hx => ?_, fun u hu y => ?_, fun g hg2 t ht => ?_, fun v => (hg _ _ (by omega) (by omega) (by omega)).trans (g v), k⟩
  · by_cases ed : d3 = d
    · subst ed; exact ⟨ld, lg⟩
    · obtain ⟨⟨x1, x2, x3, x4, x5⟩, y⟩ := b d3 hd3
      refine ⟨?_, y.fr (fun o p q _ _ _ => hg o d3 (by omega) (by omega) (by omega)) (fun k => hg _ k (by omega) (by omega) (by omega)) (fun _ _ => rfl)⟩
      unfold LD
      rw [hK 498 _ (by omega) (by omega) (by omega), hK 498 _ (by omega) (by omega) (by omega), hK 498 _ (by omega) (by omega) (by omega), hK 498 _ (by omega) (by omega) (by omega), hK 498 _ (by omega) (by omega) (by omega), hg 1000517 d3 (by omega) (by omega) (by omega), hg 1000518 d3 (by omega) (by omega) (by omega), hg 1000526 d3 (by omega) (by omega) (by omega), hg 1000527 d3 (by omega) (by omega) (by omega), hg 1000528 d3 (by omega) (by omega) (by omega)]
      exact ⟨x1, x2, x3, x4, x5⟩
  · obtain ⟨⟨x1, x2, x3, x4⟩, y⟩ := c r hr
    refine ⟨?_, ?_⟩
    · unfold LR
      rw [hK 500 _ (by omega) (by omega) (by omega), hK 500 _ (by omega) (by omega) (by omega), hK 500 _ (by omega) (by omega) (by omega), hK 500 _ (by omega) (by omega) (by omega), hg 1000511 r (by omega) (by omega) (by omega), hg 1000512 r (by omega) (by omega) (by omega), hg 1000513 r (by omega) (by omega) (by omega)]
      exact ⟨x1, x2, x3, x4⟩
    · unfold LPk
      rw [h5 r (by omega), hg 1000511 r (by omega) (by omega) (by omega), hg 1000512 r (by omega) (by omega) (by omega), hg 1000513 r (by omega) (by omega) (by omega), eo]
      exact y
  · obtain ⟨⟨x1, x2, x3⟩, ⟨d4, d5, d6, d7⟩, y2, y3⟩ := d2 x hx
    refine ⟨?_, ⟨d4, d5, (hg _ _ (by omega) (by omega) (by omega)).trans d6, ?_⟩, ?_, ?_⟩
    · unfold LE
      rw [hK 501 _ (by omega) (by omega) (by omega), hK 501 _ (by omega) (by omega) (by omega), hK 501 _ (by omega) (by omega) (by omega), hg 1000532 x (by omega) (by omega) (by omega), hg 1000535 x (by omega) (by omega) (by omega), hg 1000536 x (by omega) (by omega) (by omega)]
      exact ⟨x1, x2, x3⟩
    · by_cases ed : d4 = d
      · rw [ed]; rw [ed] at d7; exact h517 d7
      · rw [hg 1000517 d4 (by omega) (by omega) (by omega)]; exact d7
    · rw [hg 1000535 x (by omega) (by omega) (by omega)]; exact y2
    · rw [hg 1000536 x (by omega) (by omega) (by omega)]; exact y3
  · rw [hK 499 u (by omega) (by omega) (by omega)]
    refine e u hu (y.imp id (fun ⟨r, hr, y⟩ => ⟨r, hr, by rw [← hg 1000511 r (by omega) (by omega) (by omega)]; exact y⟩))
  · rw [hg 1000507 _ (by omega) (by omega) (by omega)]; exact f g hg2 t ht
theorem z_goBy (hX : X.1 ≤ 400000) (iv : Al s T rc sc t n N I L F) (hd : d < 3) (hr : r < rc) (hb : I 1000517 d ≠ 0) (q1 : f_X9_isGoodFor (nI r) (423 + 5 * d) I = 0 → Q (.inr 2) (G X I L F)) (q2 : ¬ f_X9_isGoodFor (nI r) (423 + 5 * d) I = 0 → ∀ J, Al s T rc sc t n N J L F → Q (.inl none) (G X J L F)) : WP mX9_goBy 0 (am_ent 4 [.ref 0, .int (nI d), .int (nI r)]) [] (G X I L F) 0 0 Q := by
  obtain ⟨iv, lc⟩ := iv
  have rr := iv.2.2.2.1
  have h40 := rr.1
  have cd : (nI d).toNatClampNeg = d := nI_clamp (by omega)
  obtain ⟨z1, z2, z3, z4, z5, z6, z7, z8, z9, z10, z11⟩ := (iv.2.2.2.2.2.1 d hd).1
  refine k_X9_goBy_0 ⟨fun a => absurd a (by rw [d9_1 ⟨d, hd, rfl⟩]; exact n10), fun _ => ⟨fun a => absurd a (by rw [r9_1 h40 rr.2.1 ⟨r, hr, rfl⟩]; exact n10), fun _ => ?_⟩⟩
  rw [cd, z1]
  refine ⟨fun b => absurd b hb, fun b => ⟨q1, fun g => ?_⟩⟩
  obtain ⟨mo, cap, hmo, hcap, m1, m2, c1, c2⟩ := z2 b
  rw [G_eq (J := am_u (am_u I (423 + 5 * d) 7 (nI r)) 1000524 d (nI r)) (H := F) (fun o k h => am_u_ne (by omega)) (fun _ _ _ => rfl)]
  generalize hK : am_u (am_u I (423 + 5 * d) 7 (nI r)) 1000524 d (nI r) = K
  have ki : ∀ o k, ¬ (o = 423 + 5 * d ∧ k = 7) → ¬ (o = 1000524 ∧ k = d) → K o k = I o k := fun o k a b => by rw [← hK, am_u_ne (by omega), am_u_ne (by omega)]
  have k7 : K (423 + 5 * d) 7 = nI r := by rw [← hK, am_u_ne (by omega), am_u_eq]
  have k524 : K 1000524 d = nI r := by rw [← hK, am_u_eq]
  refine q2 g K ⟨InvS.damc iv hd (fun o k a b c e g h => ki o k (by omega) (by omega)) (ki _ _ (by omega) (by omega)) ?_, lc.fr ⟨fun r hr => ki _ _ (by omega) (by omega), fun o k h => ki o k (by omega) (by omega)⟩ LQF.refl⟩
  have r523 : K 1000523 = I 1000523 := funext fun k => ki 1000523 k (by omega) (by omega)
  have kk : ∀ o, 1000517 ≤ o → o ≠ 1000524 → K o d = I o d := fun o h h2 => ki o d (by omega) (by omega)
  have k0 : ∀ k, k ≠ 7 → K (423 + 5 * d) k = I (423 + 5 * d) k := fun k a => ki _ k (by omega) (by omega)
  refine ⟨?_, fun _ => ⟨mo, cap, hmo, hcap, (k0 3 (by decide)).trans m1, (kk _ (by decide) (by decide)).trans m2, (k0 4 (by decide)).trans c1, (kk _ (by decide) (by decide)).trans c2⟩, ?_, ?_, k7.trans k524.symm, Or.inr ⟨r, hr, k524⟩, ?_, ?_, ?_, ?_, ?_⟩
  · rw [k0 2 (by decide), kk 1000517 (by decide) (by decide)]; exact z1
  · rw [k0 6 (by decide), kk 1000521 (by decide) (by decide)]; exact z3
  · rw [kk 1000521 (by decide) (by decide), kk 1000522 (by decide) (by decide), r523]
    intro nz
    obtain ⟨l, y1, y2, y3, y4⟩ := z4 nz
    exact ⟨l, y1, y2, y3, FC_fr (fun x y h => ki x y (by omega) (by omega)) y4⟩
  · rw [k0 8 (by decide), kk 1000526 (by decide) (by decide)]; exact z7
  · rw [kk 1000526 (by decide) (by decide), kk 1000517 (by decide) (by decide)]; exact z8
  · rw [k0 9 (by decide), kk 1000527 (by decide) (by decide)]; exact z9
  · rw [k0 10 (by decide), kk 1000528 (by decide) (by decide)]; exact z10
  · rw [k0 11 (by decide), kk 1000529 (by decide) (by decide)]; exact z11
theorem z_build (hX : X.1 ≤ 400000) (iv : InvS s T rc sc t n N I L F) (hd : d < 3) (hm : mo < 6) (c1 : 1 ≤ cap) (c2 : cap ≤ 100000) (hb : I 1000517 d = 0)
    (q : ∀ K, InvS s T rc sc t n N K L F → (∀ o k, ¬ (o = 423 + 5 * d ∧ 2 ≤ k ∧ k ≤ 4) → ¬ (1000517 ≤ o ∧ o ≤ 1000519 ∧ k = d) → K o k = I o k) → K 1000517 d = 1 → K 1000518 d = nI mo → Q (.inl none) (G X K L F)) : WP mX9_build 0 (am_ent 5 [.ref 0, .int (nI d), .int (nI mo), .int (nI cap)]) [] (G X I L F) 0 0 Q := by
  have cd : (nI d).toNatClampNeg = d := nI_clamp (by omega)
  obtain ⟨z1, z2, z3, z4, z5, z6, z7, z8, z9, z10, z11⟩ := (iv.2.2.2.2.2.1 d hd).1
  refine k_X9_build_0 ⟨fun a => absurd a (by rw [d9_1 ⟨d, hd, rfl⟩]; exact n10), fun _ => ⟨fun a => absurd a (by rw [m9_1 ⟨mo, hm, rfl⟩]; exact n10), fun _ => ⟨fun a => absurd ((nI_ltI (a := cap) (b := 1) (by omega) (by decide)).mp a) (by omega), fun _ => ⟨fun _ => ?_, fun a => absurd ((nI_leI (a := cap) (b := 100000) (by omega) (by decide)).mpr c2) a⟩⟩⟩⟩
  rw [cd, z1]
  refine ⟨fun _ => ?_, fun b => absurd hb b⟩
  rw [G_eq (J := am_u (am_u (am_u (am_u (am_u (am_u I (423 + 5 * d) 2 1) (423 + 5 * d) 3 (nI mo)) (423 + 5 * d) 4 (nI cap)) 1000517 d 1) 1000518 d (nI mo)) 1000519 d (nI cap)) (H := F) (fun o k h => by rw [am_u_ne (by omega), am_u_ne (by omega), am_u_ne (by omega)]) (fun _ _ _ => rfl)]
  generalize hK : am_u (am_u (am_u (am_u (am_u (am_u I (423 + 5 * d) 2 1) (423 + 5 * d) 3 (nI mo)) (423 + 5 * d) 4 (nI cap)) 1000517 d 1) 1000518 d (nI mo)) 1000519 d (nI cap) = K
  have ki : ∀ o k, ¬ (o = 423 + 5 * d ∧ 2 ≤ k ∧ k ≤ 4) → ¬ (1000517 ≤ o ∧ o ≤ 1000519 ∧ k = d) → K o k = I o k := fun o k a b => by
    rw [← hK, am_u_ne (by omega), am_u_ne (by omega), am_u_ne (by omega), am_u_ne (by omega), am_u_ne (by omega), am_u_ne (by omega)]
  have k2 : K (423 + 5 * d) 2 = 1 := by rw [← hK, am_u_ne (by omega), am_u_ne (by omega), am_u_ne (by omega), am_u_ne (by omega), am_u_ne (by omega), am_u_eq]
  have k3 : K (423 + 5 * d) 3 = nI mo := by rw [← hK, am_u_ne (by omega), am_u_ne (by omega), am_u_ne (by omega), am_u_ne (by omega), am_u_eq]
  have k4 : K (423 + 5 * d) 4 = nI cap := by rw [← hK, am_u_ne (by omega), am_u_ne (by omega), am_u_ne (by omega), am_u_eq]
  have k517 : K 1000517 d = 1 := by rw [← hK, am_u_ne (by omega), am_u_ne (by omega), am_u_eq]
  have k518 : K 1000518 d = nI mo := by rw [← hK, am_u_ne (by omega), am_u_eq]
  have k519 : K 1000519 d = nI cap := by rw [← hK, am_u_eq]
  have r523 : K 1000523 = I 1000523 := funext fun k => ki 1000523 k (by omega) (by omega)
  have k0 : ∀ k, k ≠ 2 → k ≠ 3 → k ≠ 4 → K (423 + 5 * d) k = I (423 + 5 * d) k := fun k a b c => ki _ k (by omega) (by omega)
  have kk : ∀ o, 1000520 ≤ o → K o d = I o d := fun o h => ki o d (by omega) (by omega)
  refine q K (InvS.damc iv hd (fun o k a b c e g h => ki o k (by omega) (by omega)) (ki _ _ (by omega) (by omega)) ?_) ki k517 k518
  refine ⟨k2.trans k517.symm, fun _ => ⟨mo, cap, hm, c2, k3, k518, k4, k519⟩, ?_, ?_, ?_, ?_, ?_, fun _ => by rw [k517]; decide, ?_, ?_, ?_⟩
  · rw [k0 6 (by decide) (by decide) (by decide), kk 1000521 (by decide)]; exact z3
  · rw [kk 1000521 (by decide), kk 1000522 (by decide), r523]
    intro nz
    obtain ⟨l, y1, y2, y3, y4⟩ := z4 nz
    exact ⟨l, y1, y2, y3, FC_fr (fun x y h => ki x y (by omega) (by omega)) y4⟩
  · rw [k0 7 (by decide) (by decide) (by decide), kk 1000524 (by decide)]; exact z5
  · rw [kk 1000524 (by decide)]; exact z6
  · rw [k0 8 (by decide) (by decide) (by decide), kk 1000526 (by decide)]; exact z7
  · rw [k0 9 (by decide) (by decide) (by decide), kk 1000527 (by decide)]; exact z9
  · rw [k0 10 (by decide) (by decide) (by decide), kk 1000528 (by decide)]; exact z10
  · rw [k0 11 (by decide) (by decide) (by decide), kk 1000529 (by decide)]; exact z11
theorem z_valley {pe da ho : Nat} (hX : X.1 ≤ 400000) (iv : InvS s T rc sc t n N I L F) (hd : d < 3) (h1 : pe ≤ 10000) (h2 : 1 ≤ da) (h3 : da ≤ 100000) (h4 : ho ≤ 12) (hb : I 1000517 d ≠ 0)
    (q : ∀ K, InvS s T rc sc t n N K L F → (∀ o k, ¬ (o = 423 + 5 * d ∧ 8 ≤ k ∧ k ≤ 11) → ¬ (1000526 ≤ o ∧ o ≤ 1000529 ∧ k = d) → K o k = I o k) → K 1000526 d = 1 → K 1000527 d = nI pe → K 1000528 d = nI da → Q (.inl none) (G X K L F)) : WP mX9_valley 0 (am_ent 6 [.ref 0, .int (nI d), .int (nI pe), .int (nI da), .int (nI ho)]) [] (G X I L F) 0 0 Q := by
  have cd : (nI d).toNatClampNeg = d := nI_clamp (by omega)
  obtain ⟨z1, z2, z3, z4, z5, z6, z7, z8, z9, z10, z11⟩ := (iv.2.2.2.2.2.1 d hd).1
  refine k_X9_valley_0 ⟨fun a => absurd a (by rw [d9_1 ⟨d, hd, rfl⟩]; exact n10), fun _ => ⟨fun a => absurd a (nI_pos (by omega)), fun _ => ⟨fun a => absurd ((nI_ltI (a := 10000) (by decide) (by omega)).mp a) (by omega), fun _ => ⟨fun a => absurd ((nI_ltI (b := 1) (by omega) (by decide)).mp a) (by omega), fun _ => ⟨fun a => absurd ((nI_ltI (a := 100000) (by decide) (by omega)).mp a) (by omega), fun _ => ⟨fun a => absurd a (nI_pos (by omega)), fun _ => ⟨fun _ => ?_, fun a => absurd ((nI_leI (b := 12) (by omega) (by decide)).mpr h4) a⟩⟩⟩⟩⟩⟩⟩
  rw [cd, z1]
  refine ⟨fun b => absurd b hb, fun b => ?_⟩
  obtain ⟨mo, cap, hmo, hcap, m1, m2, c1, c2⟩ := z2 b
  rw [G_eq (J := am_u (am_u (am_u (am_u (am_u (am_u (am_u (am_u I (423 + 5 * d) 8 1) (423 + 5 * d) 9 (nI pe)) (423 + 5 * d) 10 (nI da)) (423 + 5 * d) 11 (nI ho)) 1000526 d 1) 1000527 d (nI pe)) 1000528 d (nI da)) 1000529 d (nI ho)) (H := F) (fun o k h => by rw [am_u_ne (by omega), am_u_ne (by omega), am_u_ne (by omega), am_u_ne (by omega)]) (fun _ _ _ => rfl)]
  generalize hK : am_u (am_u (am_u (am_u (am_u (am_u (am_u (am_u I (423 + 5 * d) 8 1) (423 + 5 * d) 9 (nI pe)) (423 + 5 * d) 10 (nI da)) (423 + 5 * d) 11 (nI ho)) 1000526 d 1) 1000527 d (nI pe)) 1000528 d (nI da)) 1000529 d (nI ho) = K
  have ki : ∀ o k, ¬ (o = 423 + 5 * d ∧ 8 ≤ k ∧ k ≤ 11) → ¬ (1000526 ≤ o ∧ o ≤ 1000529 ∧ k = d) → K o k = I o k := fun o k a b => by
    rw [← hK, am_u_ne (by omega), am_u_ne (by omega), am_u_ne (by omega), am_u_ne (by omega), am_u_ne (by omega), am_u_ne (by omega), am_u_ne (by omega), am_u_ne (by omega)]
  have k8 : K (423 + 5 * d) 8 = 1 := by rw [← hK, am_u_ne (by omega), am_u_ne (by omega), am_u_ne (by omega), am_u_ne (by omega), am_u_ne (by omega), am_u_ne (by omega), am_u_ne (by omega), am_u_eq]
  have k9 : K (423 + 5 * d) 9 = nI pe := by rw [← hK, am_u_ne (by omega), am_u_ne (by omega), am_u_ne (by omega), am_u_ne (by omega), am_u_ne (by omega), am_u_ne (by omega), am_u_eq]
  have k10 : K (423 + 5 * d) 10 = nI da := by rw [← hK, am_u_ne (by omega), am_u_ne (by omega), am_u_ne (by omega), am_u_ne (by omega), am_u_ne (by omega), am_u_eq]
  have k11 : K (423 + 5 * d) 11 = nI ho := by rw [← hK, am_u_ne (by omega), am_u_ne (by omega), am_u_ne (by omega), am_u_ne (by omega), am_u_eq]
  have k526 : K 1000526 d = 1 := by rw [← hK, am_u_ne (by omega), am_u_ne (by omega), am_u_ne (by omega), am_u_eq]
  have k527 : K 1000527 d = nI pe := by rw [← hK, am_u_ne (by omega), am_u_ne (by omega), am_u_eq]
  have k528 : K 1000528 d = nI da := by rw [← hK, am_u_ne (by omega), am_u_eq]
  have k529 : K 1000529 d = nI ho := by rw [← hK, am_u_eq]
  have r523 : K 1000523 = I 1000523 := funext fun k => ki 1000523 k (by omega) (by omega)
  have k0 : ∀ k, ¬ (8 ≤ k ∧ k ≤ 11) → K (423 + 5 * d) k = I (423 + 5 * d) k := fun k a => ki _ k (by omega) (by omega)
  have kk : ∀ o, 1000517 ≤ o → o ≤ 1000525 → K o d = I o d := fun o h h2 => ki o d (by omega) (by omega)
  refine q K (InvS.damc iv hd (fun o k a b c e g h => ki o k (by omega) (by omega)) (ki _ _ (by omega) (by omega)) ?_) ki k526 k527 k528
  refine ⟨?_, ?_, ?_, ?_, ?_, ?_, k8.trans k526.symm, fun _ => ?_, k9.trans k527.symm, k10.trans k528.symm, k11.trans k529.symm⟩
  · rw [k0 2 (by omega), kk 1000517 (by decide) (by decide)]; exact z1
  · rw [k0 3 (by omega), k0 4 (by omega), kk 1000517 (by decide) (by decide), kk 1000518 (by decide) (by decide), kk 1000519 (by decide) (by decide)]; exact z2
  · rw [k0 6 (by omega), kk 1000521 (by decide) (by decide)]; exact z3
  · rw [kk 1000521 (by decide) (by decide), kk 1000522 (by decide) (by decide), r523]
    intro nz
    obtain ⟨l, y1, y2, y3, y4⟩ := z4 nz
    exact ⟨l, y1, y2, y3, FC_fr (fun x y h => ki x y (by omega) (by omega)) y4⟩
  · rw [k0 7 (by omega), kk 1000524 (by decide) (by decide)]; exact z5
  · rw [kk 1000524 (by decide) (by decide)]; exact z6
  · rw [kk 1000517 (by decide) (by decide)]; exact b
theorem sp_goes (hX : X.1 ≤ 400000) (iv : Al s T rc sc t n N I L F) (hd : d < 3) (hr : r < rc) (hb : I 1000517 d ≠ 0) (q : ∀ J, Al s T rc sc t n N J L F → Q (.inl (some (.int 1))) (G X J L F)) : WP mL_goes 0 (am_ent 7 [.ref 0, .ref 498, .ref 499, .ref 500, .int (nI d), .int (nI r)]) [] (G X I L F) 0 0 Q := by
  have lc := iv.2
  have r12 := lc.1.2.2.2.2.1
  have h60 := iv.1.1.1.1.1
  obtain ⟨v, a, b, z1, z2, z3, z4, z5, _⟩ := iv.1.2.2.2.1.2.2.2 r hr
  have l500 : I 500 r = nI v := (lc.2.2.1 r hr).1.1.trans z5
  have l499 : I 499 v = aM s v := lc.2.2.2.2.1 v z1 (Or.inr ⟨r, hr, z5⟩)
  have ed : (4 : Int32) + 6 * nI d + 1 = nI (5 + 6 * d) := by
    rw [show (6 : Int32) = nI 6 from rfl, nI_mul, show (4 : Int32) = nI 4 from rfl, nI_add, nI_1, show 4 + 6 * d + 1 = 5 + 6 * d by omega]
  have l498 : I 498 (5 + 6 * d) = I 1000518 d := (lc.2.1 d hd).1.2.1
  refine k_L_goes_0 (z_why iv.1 hr (k_L_goes_6 ?_))
  rw [ed, nI_clamp (show r < 2 ^ 31 by omega), l500, nI_clamp (show v < 2 ^ 31 by omega), l499, nI_clamp (show 5 + 6 * d < 2 ^ 31 by omega), l498]
  refine ⟨fun _ => ⟨nI_in (by omega) (by decide), nI_in (by omega) (by decide), nI_in (by omega) (by decide), trivial⟩, fun y ey => ⟨by decide, k_L_ofGo_0 ?_⟩⟩
  rw [← good_v iv.1 hd hr hb z5 z1] at ey
  refine z_goBy hX iv hd hr hb (fun g => ?_) (fun g J a2 => k_L_ofGo_6 (k_L_goes_44 (fun u eu w ew => ?_)))
  · refine ⟨_, rfl, trivial, k_L_ofGo_10 (k_L_goes_44 (fun u eu w ew => ?_))⟩
    rw [ey, if_pos g] at eu
    rw [eu, if_pos rfl] at ew
    rw [ew]
    exact ⟨Or.inr rfl, q I iv⟩
  · rw [ey, if_neg g] at eu
    rw [eu, if_pos rfl] at ew
    rw [ew]
    exact ⟨Or.inr rfl, q J a2⟩
end ZDM
