/-! own: hours pass in the law -/
set_option maxRecDepth 100000
def gPI (t : Nat) (A J : Nat → Nat → Int32) : Nat → Nat → Int32 := fun o k => if o = 1000498 ∧ k = 1 then nI t else if o = 1000498 ∧ k = 0 then 0 else if o = 1000531 then A 1000531 k else if o = 1000535 then A 1000535 k else J o k
def gPF (B H : Nat → Nat → UInt32) : Nat → Nat → UInt32 := fun o k => if o = 1000520 then B 1000520 k else if o = 1000525 then B 1000525 k else if o = 1000530 then B 1000530 k else H o k
section ZPS
variable {X : Nat × (Nat × (Nat → Int32))} {I J K A : Nat → Nat → Int32} {L M : Nat → Nat → Int64} {F H B : Nat → Nat → UInt32} {Q : AQ} {N T rc sc t n n2 d r v k h x m p w t2 : Nat} {s z : AS}
theorem gPI_ne {o : Nat} (h1 : ¬ (o = 1000498 ∧ k = 1)) (h2 : ¬ (o = 1000498 ∧ k = 0)) (h3 : o ≠ 1000531) (h4 : o ≠ 1000535) : gPI t A J o k = J o k := by
  unfold gPI
  rw [if_neg h1, if_neg h2, if_neg h3, if_neg h4]
theorem gPF_ne {o : Nat} (h1 : o ≠ 1000520) (h2 : o ≠ 1000525) (h3 : o ≠ 1000530) : gPF B H o k = H o k := by
  unfold gPF
  rw [if_neg h1, if_neg h2, if_neg h3]
/-- what hours leave in cells -/
def PaP (I K A : Nat → Nat → Int32) (F H B : Nat → Nat → UInt32) : Prop := (∀ o k, 498 ≤ o → o ≠ 1000498 → o ≠ 1000531 → o ≠ 1000535 → K o k = I o k) ∧ (∀ r, r < 12 → K (383 + r) 5 = I (383 + r) 5) ∧ (∀ k, K 1000531 k = A 1000531 k) ∧ (∀ k, K 1000535 k = A 1000535 k) ∧ (∀ k, H 1000520 k = B 1000520 k) ∧ (∀ k, H 1000530 k = B 1000530 k) ∧ ∀ k, H 1000514 k = F 1000514 k
theorem z_pass (hX : X.1 ≤ 400000) (iv : InvS s T rc sc t n N I L F) (so : SrO I sc) (pv : PV I sc I F) (h1 : 1 ≤ n2) (h24 : n2 ≤ 24) (le : t + n2 ≤ 200) (q : ∀ K H A B, InvS s T rc sc (t + n2) n N K L H → PV I sc A B → PaP I K A F H B → Q (.inl (some (.int (nI (t + n2))))) (G X K L H)) : WP mX9_pass 0 (am_ent 4 [.ref 0, .int (nI n2)]) [] (G X I L F) 0 0 Q := by
  obtain ⟨ht, e9, e1⟩ := iv.2.2.1
  have da := iv.2.2.2.2.2.1
  have si := iv.2.2.2.2.2.2
  have ps : PSt s I L F T rc sc := ⟨⟨iv.1.1.1, iv.1.1.2.2.1, iv.1.1.2.2.2⟩, iv.2.2.2.1, fun d hd => (da d hd).1, si.1, si.2.1, si.2.2.1, fun x hx => (si.2.2.2 x hx).1⟩
  have vb : VBk F t 0 := fun d hd => by
    rw [if_neg (Nat.not_lt_zero d)]
    exact (da d hd).2.2
  have cr : CPf I I := fun _ _ _ _ _ _ _ => rfl
  have cR : CPF F F := fun _ _ _ _ _ _ => rfl
  have cv : CV s I L F I F t sc I F := ⟨cr, cR, iv.1.outc, e9, fun d hd => (da d hd).2.1, fun x hx => (si.2.2.2 x hx).2⟩
  have hd : ∀ x, x < sc → ∃ d, d < 3 ∧ I 1000532 x = nI d := fun x hx => by
    obtain ⟨d, r, a, _, _, b, _⟩ := ps.2.2.2.2.2.2 x hx
    exact ⟨d, a, b⟩
  refine sp_cpass ps vb cv ht (fun h => (hrs_no (m := 24) h1 h24 (by decide) rfl h).elim) (fun n3 g1 g2 e c => ?_) (fun n3 g1 g2 e _ J0 H0 cv2 => ?_)
  · have en : n2 = n3 := (nI_eq (by omega) (by omega)).mp e
    omega
  · have en : n2 = n3 := (nI_eq (by omega) (by omega)).mp e
    subst en
    have vb2 := vHs_ok (s := s) hd ps.2.2.1 vb n2 (by omega)
    have pv2 := PV.hrs (s := s) so ps.2.2.1 vb pv n2 (by omega)
    generalize (vHs s I F sc t n2).1 = A at cv2 pv2
    generalize (vHs s I F sc t n2).2 = B at cv2 pv2 vb2
    have c1 := cv2.1
    have c2 := cv2.2.1
    have hr : ∀ o, 1000499 ≤ o → o ≠ 1000531 → o ≠ 1000535 → gPI (t + n2) A J0 o = I o := fun o h a b => (funext fun k => gPI_ne (by omega) (by omega) a b).trans (c1.hi (by omega))
    have fr : ∀ o k, 438 ≤ o → H0 o k = F o k := fun o k h => c2 o k (by omega) (by omega) (fun ⟨v, a, b⟩ => by omega) (by omega)
    have mv : MVs s J0 H0 A B (t + n2) (gPI (t + n2) A J0) (gPF B H0) := by
      refine ⟨fun o k a _ _ _ b c => gPI_ne (by omega) (by omega) b c, fun o k _ _ _ a b c => gPF_ne a b c, OutM.ext (hr _ (by decide) (by decide) (by decide)) (hr _ (by decide) (by decide) (by decide)) (hr _ (by decide) (by decide) (by decide)) (hr _ (by decide) (by decide) (by decide)) (hr _ (by decide) (by decide) (by decide)) (funext fun k => (gPF_ne (by decide) (by decide) (by decide)).trans (fr _ k (by decide))) iv.1.outm, ⟨if_pos ⟨rfl, rfl⟩, ?_⟩, fun k => ?_, fun k => ?_, fun k => if_pos rfl, fun k => ?_, fun k => ?_⟩
      · unfold gPI; rw [if_neg (by decide), if_pos ⟨rfl, rfl⟩]
      · unfold gPI; rw [if_neg (by omega), if_neg (by omega), if_pos rfl]
      · unfold gPI; rw [if_neg (by omega), if_neg (by omega), if_neg (by decide), if_pos rfl]
      · unfold gPF; rw [if_neg (by decide), if_pos rfl]
      · unfold gPF; rw [if_neg (by decide), if_neg (by decide), if_pos rfl]
    rw [G_eq (J := gPI (t + n2) A J0) (H := gPF B H0) (fun o k h => gPI_ne (by omega) (by omega) (by omega) (by omega)) (fun o k h => gPF_ne (by omega) (by omega) (by omega))]
    refine q _ _ A B (InvS.passed iv cv2 mv vb2 le) pv2 ⟨fun o k a b c d => ?_, fun r hr => ?_, mv.2.2.2.2.1, mv.2.2.2.2.2.1, mv.2.2.2.2.2.2.1, mv.2.2.2.2.2.2.2.2, fun k => ?_⟩
    · rw [gPI_ne (by omega) (by omega) c d]
      exact c1 o k (by omega) (by omega) (fun ⟨v, _, y, _⟩ => by omega) (fun ⟨d, _, y, _⟩ => by omega) (by omega)
    · rw [gPI_ne (by omega) (by omega) (by omega) (by omega)]
      exact c1 _ _ (by omega) (by omega) (fun ⟨v, _, y, _⟩ => by omega) (fun ⟨d, _, y, _⟩ => by omega) (by omega)
    · rw [gPF_ne (by decide) (by decide) (by decide)]; exact fr _ k (by decide)
/-- hours have passed in the law's rows -/
theorem LC.pas (lc : LC s rc sc t I F) (pa : PaP I K A F H B) (pv : PV I sc A B) (hJ : ∀ o k, ¬ (o = 498 ∧ k = 0) → ¬ (o = 501 ∧ 12 ≤ k ∧ k < 24) → J o k = K o k) (e0 : J 498 0 = nI t2) (ee : ∀ x, x < sc → J 501 (12 + x) = A 1000535 x) : LC s rc sc t2 J H := by
  obtain ⟨⟨a0, a1, a2, a3, a4, a5⟩, b, c, d2, e, f, g, k⟩ := lc
  obtain ⟨p1, p2, p3, p4, p5, p6, p7⟩ := pa
  have jk : ∀ o k, 498 ≤ o → o ≠ 1000498 → o ≠ 1000531 → o ≠ 1000535 → ¬ (o = 498 ∧ k = 0) → ¬ (o = 501 ∧ 12 ≤ k ∧ k < 24) → J o k = I o k := fun o k a b c d e f => (hJ o k e f).trans (p1 o k a b c d)
  have eo : OI J = OI I := OI_cong (funext fun k => jk _ k (by omega) (by omega) (by omega) (by omega) (by omega) (by omega)) (funext fun k => jk _ k (by omega) (by omega) (by omega) (by omega) (by omega) (by omega)) (funext fun k => jk _ k (by omega) (by omega) (by omega) (by omega) (by omega) (by omega)) (funext fun k => jk _ k (by omega) (by omega) (by omega) (by omega) (by omega) (by omega))
  have j535 : ∀ x, J 1000535 x = A 1000535 x := fun x => (hJ _ _ (by omega) (by omega)).trans (p4 x)
  have j531 : ∀ x, J 1000531 x = A 1000531 x := fun x => (hJ _ _ (by omega) (by omega)).trans (p3 x)
  have cj : cntB (jdg J) sc = cntB (jdg A) sc := cntB_congr (fun x _ => by unfold jdg; rw [j535])
  refine ⟨⟨e0, (jk _ _ (by omega) (by omega) (by omega) (by omega) (by omega) (by omega)).trans a1, (jk _ _ (by omega) (by omega) (by omega) (by omega) (by omega) (by omega)).trans a2, (jk _ _ (by omega) (by omega) (by omega) (by omega) (by omega) (by omega)).trans a3, a4, a5⟩, fun d3 hd3 => ?_, fun r hr => ?_, fun x hx => ?_, fun u hu y => ?_, fun g hg2 t ht => ?_, fun v => (jk _ _ (by omega) (by omega) (by omega) (by omega) (by omega) (by omega)).trans (g v), k⟩
  · obtain ⟨⟨x1, x2, x3, x4, x5⟩, y1, y2, y3, y4, y5, y6, y7⟩ := b d3 hd3
    obtain ⟨w1, w2, w3⟩ := pv.2 d3 hd3
    have j517 : J 1000517 d3 = I 1000517 d3 := jk _ _ (by omega) (by omega) (by omega) (by omega) (by omega) (by omega)
    refine ⟨?_, ?_⟩
    · unfold LD
      rw [jk 498 _ (by omega) (by omega) (by omega) (by omega) (by omega) (by omega), jk 498 _ (by omega) (by omega) (by omega) (by omega) (by omega) (by omega), jk 498 _ (by omega) (by omega) (by omega) (by omega) (by omega) (by omega), jk 498 _ (by omega) (by omega) (by omega) (by omega) (by omega) (by omega), jk 498 _ (by omega) (by omega) (by omega) (by omega) (by omega) (by omega), j517, jk 1000518 d3 (by omega) (by omega) (by omega) (by omega) (by omega) (by omega), jk 1000526 d3 (by omega) (by omega) (by omega) (by omega) (by omega) (by omega), jk 1000527 d3 (by omega) (by omega) (by omega) (by omega) (by omega) (by omega), jk 1000528 d3 (by omega) (by omega) (by omega) (by omega) (by omega) (by omega)]
      exact ⟨x1, x2, x3, x4, x5⟩
    · unfold LG
      rw [cj, j517, jk 1000526 d3 (by omega) (by omega) (by omega) (by omega) (by omega) (by omega), jk 1000527 d3 (by omega) (by omega) (by omega) (by omega) (by omega) (by omega), jk 1000528 d3 (by omega) (by omega) (by omega) (by omega) (by omega) (by omega), j531, p5, p6]
      exact ⟨y1, y2, y3, y4, w3, w1, w2⟩
  · obtain ⟨⟨x1, x2, x3, x4⟩, y⟩ := c r hr
    refine ⟨?_, ?_⟩
    · unfold LR
      rw [jk 500 _ (by omega) (by omega) (by omega) (by omega) (by omega) (by omega), jk 500 _ (by omega) (by omega) (by omega) (by omega) (by omega) (by omega), jk 500 _ (by omega) (by omega) (by omega) (by omega) (by omega) (by omega), jk 500 _ (by omega) (by omega) (by omega) (by omega) (by omega) (by omega), jk 1000511 r (by omega) (by omega) (by omega) (by omega) (by omega) (by omega), jk 1000512 r (by omega) (by omega) (by omega) (by omega) (by omega) (by omega), jk 1000513 r (by omega) (by omega) (by omega) (by omega) (by omega) (by omega), p7]
      exact ⟨x1, x2, x3, x4⟩
    · unfold LPk
      rw [hJ (383 + r) 5 (by omega) (by omega), p2 r (by omega), jk 1000511 r (by omega) (by omega) (by omega) (by omega) (by omega) (by omega), jk 1000512 r (by omega) (by omega) (by omega) (by omega) (by omega) (by omega), jk 1000513 r (by omega) (by omega) (by omega) (by omega) (by omega) (by omega), p7, eo]
      exact y
  · obtain ⟨⟨x1, x2, x3⟩, ⟨d4, d5, d6, d7⟩, y2, y3⟩ := d2 x hx
    refine ⟨⟨?_, (ee x hx).trans (j535 x).symm, ?_⟩, ⟨d4, d5, ?_, ?_⟩, ?_, ?_⟩
    · rw [jk 501 _ (by omega) (by omega) (by omega) (by omega) (by omega) (by omega), jk 1000532 x (by omega) (by omega) (by omega) (by omega) (by omega) (by omega)]; exact x1
    · rw [jk 501 _ (by omega) (by omega) (by omega) (by omega) (by omega) (by omega), jk 1000536 x (by omega) (by omega) (by omega) (by omega) (by omega) (by omega)]; exact x3
    · rw [jk 1000532 x (by omega) (by omega) (by omega) (by omega) (by omega) (by omega)]; exact d6
    · rw [jk 1000517 d4 (by omega) (by omega) (by omega) (by omega) (by omega) (by omega)]; exact d7
    · rw [j535]; exact (pv.1 x hx).1
    · rw [jk 1000536 x (by omega) (by omega) (by omega) (by omega) (by omega) (by omega)]; exact y3
  · rw [jk 499 u (by omega) (by omega) (by omega) (by omega) (by omega) (by omega)]
    refine e u hu (y.imp id (fun ⟨r, hr, y⟩ => ⟨r, hr, by rw [← jk 1000511 r (by omega) (by omega) (by omega) (by omega) (by omega) (by omega)]; exact y⟩))
  · rw [jk 1000507 _ (by omega) (by omega) (by omega) (by omega) (by omega) (by omega)]; exact f g hg2 t ht
/-- the law looks at each siren -/
theorem sp_pa28 {x3 : Int32} (lc : LC s rc sc t I F) (iv : InvS s T rc sc t2 n N K L H) (pv : PV I sc A B) (pa : PaP I K A F H B) (e0 : K 498 0 = nI t2) (q : ∀ J, (∀ o k, ¬ (o = 501 ∧ 12 ≤ k ∧ k < 24) → J o k = K o k) → (∀ x, x < sc → J 501 (12 + x) = A 1000535 x) → Q (.inl (some (.int 1))) (G X J L H)) :
    ∀ (f k : Nat) (J : Nat → Nat → Int32) (d6 : Option Value) (c0 s0 : Nat), k + f = sc → (∀ o k, ¬ (o = 501 ∧ 12 ≤ k ∧ k < 24) → J o k = K o k) → (∀ x, x < k → J 501 (12 + x) = A 1000535 x) → (∀ x, k ≤ x → J 501 (12 + x) = K 501 (12 + x)) → c0 ≤ 1 + 2 * k → s0 ≤ 6 + 12 * k →
      WP mL_passes 28 [some (.ref 0), some (.ref 498), some (.ref 501), some (.int x3), some (.int 1), some (.int (nI k)), d6] [] (G X J L H) c0 s0 Q
  | 0, k, J, d6, c0, s0, hk, fr, h1, h2, hc, hs => by
    have e : k = sc := by omega
    subst e
    have j2 : J 498 2 = nI k := by rw [fr _ _ (by omega), pa.1 _ _ (by omega) (by omega) (by omega) (by omega)]; exact lc.1.2.2.1
    exact k_L_passes_28 ⟨fun _ => ⟨Or.inr rfl, q J fr h1⟩, fun h => absurd (by rw [j2]; exact Int32.le_refl _) h⟩
  | f + 1, k, J, d6, c0, s0, hk, fr, h1, h2, hc, hs => by
    have l12 : sc ≤ 12 := lc.1.2.2.2.2.2
    have j2 : J 498 2 = nI sc := by rw [fr _ _ (by omega), pa.1 _ _ (by omega) (by omega) (by omega) (by omega)]; exact lc.1.2.2.1
    have ivJ : InvS s T rc sc t2 n N J L H := iv.row (fun o k h => fr o k (by omega))
    have e12 : (12 : Int32) + nI k = nI (12 + k) := nI_add 12 k
    have e24 : (24 : Int32) + nI k = nI (24 + k) := nI_add 24 k
    have c12 : (nI (12 + k)).toNatClampNeg = 12 + k := nI_clamp (by omega)
    have c24 : (nI (24 + k)).toNatClampNeg = 24 + k := nI_clamp (by omega)
    have i12 : vp_in (nI (12 + k)) 36 := nI_in (by omega) (by decide)
    have i24 : vp_in (nI (24 + k)) 36 := nI_in (by omega) (by decide)
    obtain ⟨⟨l1, l2, l3⟩, _⟩ := lc.2.2.2.1 k (by omega)
    obtain ⟨⟨g, g4, eg⟩, same⟩ := pv.1 k (by omega)
    have jA : J 1000535 k = A 1000535 k := (fr _ _ (by omega)).trans (pa.2.2.2.1 k)
    have jo : J 501 (12 + k) = I 1000535 k := by rw [h2 k (Nat.le_refl k), pa.1 _ _ (by omega) (by omega) (by omega) (by omega)]; exact l2
    have jw : J 1000536 k = I 1000536 k := (fr _ _ (by omega)).trans (pa.1 _ _ (by omega) (by omega) (by omega) (by omega))
    have jw2 : J 501 (24 + k) = I 1000536 k := by rw [fr _ _ (by omega), pa.1 _ _ (by omega) (by omega) (by omega) (by omega)]; exact l3
    have go : c0 + 1 + 1 ≤ 40 → s0 + 6 + 6 ≤ 240 → WP mX9_walkers 0 (am_ent 2 [.ref 0, .int (nI k)]) [] (G X J L H) 0 0 (am_kq mL_passes 88 [some (.ref 0), some (.ref 498), some (.ref 501), some (.int x3), some (.int 1), some (.int (nI k)), some (.int (A 1000535 k))] [] (c0 + 1 + 1) (s0 + 6 + 6) Q) := fun _ _ => by
      refine z_walkers ivJ (by omega) (k_L_passes_91 ?_)
      rw [e24, c24, e12, c12, jw, jw2]
      refine ⟨i24, fun y ey => ⟨i12, ?_⟩⟩
      rw [if_pos rfl] at ey
      rw [ey, nI_1]
      refine sp_pa28 lc iv pv pa e0 q f (k + 1) _ _ _ _ (by omega) (fun o j h => (am_u_ne (by omega)).trans (fr o j h)) (fun x hx => ?_) (fun x hx => (am_u_ne (by omega)).trans (h2 x (by omega))) (by omega) (by omega)
      by_cases xk : x = k
      · rw [xk, am_u_eq]
      · rw [am_u_ne (by omega)]; exact h1 x (by omega)
    refine k_L_passes_28 ⟨fun h => absurd ((nI_leI (a := sc) (b := k) (by omega) (by omega)).mp (by rw [← j2]; exact h)) (by omega), fun _ => ⟨fun h => absurd h (by decide), fun _ => ⟨by omega, ?_⟩⟩⟩
    refine z_siren ivJ (by omega) (k_L_passes_47 ?_)
    rw [e12, c12, jo, jA]
    refine ⟨i12, fun o0 => ⟨fun h => absurd h (by rw [eg]; exact nI_pos (by omega)), fun _ => ⟨fun h => absurd ((nI_leI (a := 4) (b := g) (by decide) (by omega)).mp (by rw [← eg]; exact h)) (by omega), fun _ => ⟨by omega, go (by omega) (by omega)⟩⟩⟩, fun o1 => ⟨i12, fun _ => ⟨by omega, go (by omega) (by omega)⟩, fun h => absurd (same o1) h⟩⟩
theorem sp_passes (hX : X.1 ≤ 400000) (iv : Al s T rc sc t n N I L F) (h1 : 1 ≤ n2) (h4 : n2 ≤ 4) (le : t ≤ 190) (q : ∀ J H, Al s T rc sc (t + n2) n N J L H → Q (.inl (some (.int 1))) (G X J L H)) : WP mL_passes 0 (am_ent 7 [.ref 0, .ref 498, .ref 501, .int (nI n2)]) [] (G X I L F) 0 0 Q := by
  have lc := iv.2
  obtain ⟨b0, b1, b2, b3, b4, b5⟩ := lc.1
  refine k_L_passes_0 ?_
  rw [b0, nI_add]
  have iv0 : InvS s T rc sc t n N (am_u I 498 0 (nI (t + n2))) L F := iv.1.row (fun o k h => am_u_ne (by omega))
  have e : ∀ o k, ¬ (o = 498 ∧ k = 0) → am_u I 498 0 (nI (t + n2)) o k = I o k := fun o k h => am_u_ne (by omega)
  have so : SrO (am_u I 498 0 (nI (t + n2))) sc := ⟨b5, fun x hx => by
    obtain ⟨_, ⟨d, d1, d2, d3⟩, _, y3⟩ := lc.2.2.2.1 x hx
    exact ⟨⟨d, d1, (e _ _ (by omega)).trans d2, by rw [e _ _ (by omega)]; exact d3⟩, by rw [e _ _ (by omega)]; exact y3⟩⟩
  have pv0 : PV (am_u I 498 0 (nI (t + n2))) sc (am_u I 498 0 (nI (t + n2))) F := by
    refine ⟨fun x hx => ?_, fun d hd => ?_⟩
    · obtain ⟨_, _, y2, _⟩ := lc.2.2.2.1 x hx
      exact ⟨by rw [e _ _ (by omega)]; exact y2, fun _ => rfl⟩
    · obtain ⟨_, _, _, _, _, y5, y6, y7⟩ := lc.2.1 d hd
      have cj : jdg (am_u I 498 0 (nI (t + n2))) = jdg I := funext fun x => by unfold jdg; rw [e _ _ (by omega)]
      rw [cj, e _ _ (by omega), e _ _ (by omega)]
      exact ⟨y6, y7, y5⟩
  refine z_pass hX iv0 so pv0 h1 (by omega) (by omega) (fun K H A B iv2 pv pa => k_L_passes_12 (fun y ey => ?_))
  have k0 : K 498 0 = nI (t + n2) := by rw [pa.1 _ _ (by omega) (by omega) (by omega) (by omega), am_u_eq]
  rw [k0, if_pos rfl] at ey
  rw [ey]
  have lc0 : LC s rc sc (t + n2) (am_u I 498 0 (nI (t + n2))) F := by
    obtain ⟨⟨_, a1, a2, a3, a4, a5⟩, r⟩ := lc
    have eo : OI (am_u I 498 0 (nI (t + n2))) = OI I := OI_cong (funext fun k => e _ k (by omega)) (funext fun k => e _ k (by omega)) (funext fun k => e _ k (by omega)) (funext fun k => e _ k (by omega))
    have cj : jdg (am_u I 498 0 (nI (t + n2))) = jdg I := funext fun x => by unfold jdg; rw [e _ _ (by omega)]
    refine ⟨⟨am_u_eq, (e _ _ (by omega)).trans a1, (e _ _ (by omega)).trans a2, (e _ _ (by omega)).trans a3, a4, a5⟩, fun d hd => ?_, fun r2 hr => ?_, fun x hx => ?_, fun u hu y => ?_, fun g hg t ht => ?_, fun v => (e _ _ (by omega)).trans (r.2.2.2.2.2.1 v), r.2.2.2.2.2.2⟩
    · obtain ⟨x1, x2⟩ := r.1 d hd
      unfold LD LG
      rw [cj, e 498 _ (by omega), e 498 _ (by omega), e 498 _ (by omega), e 498 _ (by omega), e 498 _ (by omega), e _ _ (by omega), e _ _ (by omega), e _ _ (by omega), e _ _ (by omega), e _ _ (by omega), e _ _ (by omega)]
      exact ⟨x1, x2⟩
    · obtain ⟨x1, x2⟩ := r.2.1 r2 hr
      unfold LR LPk
      rw [eo, e 500 _ (by omega), e 500 _ (by omega), e 500 _ (by omega), e 500 _ (by omega), e 1000511 _ (by omega), e 1000512 _ (by omega), e 1000513 _ (by omega), e (383 + r2) _ (by omega)]
      exact ⟨x1, x2⟩
    · obtain ⟨x1, ⟨d, d1, d2, d3⟩, x3, x4⟩ := r.2.2.1 x hx
      refine ⟨?_, ⟨d, d1, (e _ _ (by omega)).trans d2, by rw [e _ _ (by omega)]; exact d3⟩, by rw [e _ _ (by omega)]; exact x3, by rw [e _ _ (by omega)]; exact x4⟩
      unfold LE
      rw [e 501 _ (by omega), e 501 _ (by omega), e 501 _ (by omega), e 1000532 _ (by omega), e 1000535 _ (by omega), e 1000536 _ (by omega)]
      exact x1
    · rw [e _ _ (by omega)]
      exact r.2.2.2.1 u hu (y.imp id (fun ⟨r3, hr, y⟩ => ⟨r3, hr, by rw [e _ _ (by omega)] at y; exact y⟩))
    · rw [e _ _ (by omega)]; exact r.2.2.2.2.1 g hg t ht
  refine sp_pa28 lc0 iv2 pv pa k0 (fun J fr h => q J H ⟨iv2.row (fun o k x => fr o k (by omega)), lc0.pas pa pv (fun o k a b => fr o k b) ((fr _ _ (by omega)).trans k0) h⟩) sc 0 K none 1 6 (Nat.zero_add _) (fun _ _ _ => rfl) (fun x hx => absurd hx (by omega)) (fun _ _ => rfl) (by decide) (by decide)
end ZPS
