/-! own: sirens sounded by the law -/
set_option maxRecDepth 100000
theorem cntB_congr {f g : Nat → Bool} {n : Nat} (h : ∀ k, k < n → f k = g k) : cntB f n = cntB g n :=
  Nat.le_antisymm (cntB_mono n (fun k hk e => by rw [← h k hk]; exact e)) (cntB_mono n (fun k hk e => by rw [h k hk]; exact e))
section ZS
variable {X : Nat × (Nat × (Nat → Int32))} {I J K : Nat → Nat → Int32} {L M : Nat → Nat → Int64} {F H : Nat → Nat → UInt32} {Q : AQ} {N T rc sc t n d r v k h x m p w : Nat} {s z : AS}
/-- a siren more -/
def SoP (I K : Nat → Nat → Int32) (sc d w : Nat) : Prop := (∀ o k, 498 ≤ o → ¬ (1000532 ≤ o ∧ o ≤ 1000536 ∧ k = sc) → ¬ (o = 1000498 ∧ k = 39) → K o k = I o k) ∧ (∀ r, r < 12 → K (383 + r) 5 = I (383 + r) 5) ∧ K 1000532 sc = nI d ∧ K 1000535 sc = 0 ∧ K 1000536 sc = nI w
theorem z_sound (hX : X.1 ≤ 400000) (iv : InvS s T rc sc t n N I L F) (hd : d < 3) (hr : r < rc) (hp : p ≤ 10000) (ep : I 1000527 d = nI p) (q1 : ¬ May I F d r sc → Q (.inr 2) (G X I L F)) (q2 : May I F d r sc → ∀ K w, InvS s T rc (sc + 1) t n N K L F → SoP I K sc d w → w ≤ p → Q (.inl (some (.int (nI sc)))) (G X K L F)) : WP mX9_sound 0 (am_ent 5 [.ref 0, .int (nI d), .int (nI r)]) [] (G X I L F) 0 0 Q := by
  have da := iv.2.2.2.2.2.1
  have rr := iv.2.2.2.1
  have h40 := rr.1
  obtain ⟨s60, e8, e39, ss⟩ := iv.2.2.2.2.2.2
  have i : InN (nI d) 3 := ⟨d, hd, rfl⟩
  have j : InN (nI r) rc := ⟨r, hr, rfl⟩
  have hin : vp_in (nI d) 3 := nI_in hd (by decide)
  have cd : (nI d).toNatClampNeg = d := nI_clamp (by omega)
  have csc : (nI sc).toNatClampNeg = sc := nI_clamp (by omega)
  obtain ⟨⟨z1, z2, z3, z4, z5, z6, z7, z8, z9, z10, z11⟩, ⟨_, d12, _⟩, _, _, tr, _⟩ := da d hd
  refine k_X9_sound_0 ⟨fun a => absurd a (by rw [d9_1 i]; exact n10), fun _ => ⟨fun a => absurd a (by rw [r9_1 h40 rr.2.1 j]; exact n10), fun _ => ?_⟩⟩
  refine k_X9_maySound_0 ⟨fun a => absurd a (by rw [d9_1 i]; exact n10), fun _ => ⟨fun a => absurd a (by rw [r9_1 h40 rr.2.1 j]; exact n10), fun _ => ⟨fun lt => ?_, fun lt => k_X9_sound_32 ⟨fun _ => q1 (fun z => lt ?_), fun z => absurd rfl z⟩⟩⟩⟩
  · rw [e8] at lt
    have l60 : sc < 60 := (nI_ltI (b := 60) (by omega) (by decide)).mp lt
    refine sp_ms32 hd (by omega) l60 e8 (fun mm => k_X9_sound_32 ⟨fun z => absurd z n10, fun _ => ⟨hin, ?_⟩⟩) (fun nm => k_X9_sound_32 ⟨fun _ => q1 nm, fun z => absurd rfl z⟩) sc 0 (Nat.zero_add _) (fun x hx => absurd hx (by omega))
    rw [e8, csc, cd, nI_1, d12, show nI (sc + 1) - 1 = nI sc by rw [← nI_1, Int32.add_sub_cancel]]
    have g9 : am_u (am_u (am_u I (438 + sc) 0 (nI d)) (438 + sc) 1 (nI r)) (438 + sc) 2 (I 0 9) (423 + 5 * d) 9 = nI p := by
      rw [am_u_ne (by omega), am_u_ne (by omega), am_u_ne (by omega), z9]; exact ep
    rw [g9]
    have nv : vf_n32 (FP.fmul (FP.i2f (nI p)) (F 1000530 d)) := nn_vf.mpr (nn_mul (fin_i2f _) tr.1)
    refine ⟨nI_in (by omega) (by decide), nv, ?_⟩
    obtain ⟨w, hw, ew⟩ := walk_ok hp tr
    rw [ew]
    generalize hJ : am_u (am_u (am_u (am_u (am_u (am_u I (438 + sc) 0 (nI d)) (438 + sc) 1 (nI r)) (438 + sc) 2 (I 0 9)) (438 + sc) 3 (nI w)) (438 + sc) 4 0) 0 8 (nI (sc + 1)) = J
    have hi : ∀ o k, ¬ (o = 0 ∧ k = 8) → o ≠ 438 + sc → J o k = I o k := fun o k a b => by
      rw [← hJ, am_u_ne (by omega), am_u_ne (by omega), am_u_ne (by omega), am_u_ne (by omega), am_u_ne (by omega), am_u_ne (by omega)]
    have j8 : J 0 8 = nI (sc + 1) := by rw [← hJ, am_u_eq]
    have j0 : J (438 + sc) 0 = nI d := by rw [← hJ, am_u_ne (by omega), am_u_ne (by omega), am_u_ne (by omega), am_u_ne (by omega), am_u_ne (by omega), am_u_eq]
    have j1 : J (438 + sc) 1 = nI r := by rw [← hJ, am_u_ne (by omega), am_u_ne (by omega), am_u_ne (by omega), am_u_ne (by omega), am_u_eq]
    have j2 : J (438 + sc) 2 = I 0 9 := by rw [← hJ, am_u_ne (by omega), am_u_ne (by omega), am_u_ne (by omega), am_u_eq]
    have j3 : J (438 + sc) 3 = nI w := by rw [← hJ, am_u_ne (by omega), am_u_ne (by omega), am_u_eq]
    have j4 : J (438 + sc) 4 = 0 := by rw [← hJ, am_u_ne (by omega), am_u_eq]
    rw [G_eq (J := am_u (am_u (am_u (am_u (am_u (am_u J 1000532 sc (nI d)) 1000533 sc (nI r)) 1000534 sc (I 0 9)) 1000535 sc 0) 1000536 sc (nI w)) 1000498 39 (nI (sc + 1))) (H := F) (fun o k h => by rw [am_u_ne (by omega), am_u_ne (by omega), am_u_ne (by omega), am_u_ne (by omega), am_u_ne (by omega), am_u_ne (by omega)]) (fun _ _ _ => rfl)]
    generalize hK : am_u (am_u (am_u (am_u (am_u (am_u J 1000532 sc (nI d)) 1000533 sc (nI r)) 1000534 sc (I 0 9)) 1000535 sc 0) 1000536 sc (nI w)) 1000498 39 (nI (sc + 1)) = K
    have ki : ∀ o k, ¬ (1000532 ≤ o ∧ o ≤ 1000536 ∧ k = sc) → ¬ (o = 1000498 ∧ k = 39) → K o k = J o k := fun o k a b => by
      rw [← hK, am_u_ne (by omega), am_u_ne (by omega), am_u_ne (by omega), am_u_ne (by omega), am_u_ne (by omega), am_u_ne (by omega)]
    have k532 : K 1000532 sc = nI d := by rw [← hK, am_u_ne (by omega), am_u_ne (by omega), am_u_ne (by omega), am_u_ne (by omega), am_u_ne (by omega), am_u_eq]
    have k533 : K 1000533 sc = nI r := by rw [← hK, am_u_ne (by omega), am_u_ne (by omega), am_u_ne (by omega), am_u_ne (by omega), am_u_eq]
    have k534 : K 1000534 sc = I 0 9 := by rw [← hK, am_u_ne (by omega), am_u_ne (by omega), am_u_ne (by omega), am_u_eq]
    have k535 : K 1000535 sc = 0 := by rw [← hK, am_u_ne (by omega), am_u_ne (by omega), am_u_eq]
    have k536 : K 1000536 sc = nI w := by rw [← hK, am_u_ne (by omega), am_u_eq]
    have k39 : K 1000498 39 = nI (sc + 1) := by rw [← hK, am_u_eq]
    refine q2 mm K w (InvS.sire iv l60 (fun o k a b c e => (ki o k c (by omega)).trans (hi o k a b)) ((ki _ _ (by omega) (by omega)).trans j8) k39 ⟨d, r, hd, hr, (ki _ _ (by omega) (by omega)).trans j0, k532, (ki _ _ (by omega) (by omega)).trans j1, k533, ?_, ?_⟩ ?_) ⟨fun o k a b c => (ki o k b c).trans (hi o k (by omega) (by omega)), fun r hr => (ki _ _ (by omega) (by omega)).trans (hi _ _ (by omega) (by omega)), k532, k535, k536⟩ hw
    · rw [ki _ _ (by omega) (by omega), j2, k534]
    · rw [ki _ _ (by omega) (by omega), j3, k536]
    · rw [ki _ _ (by omega) (by omega), j4, k535]
  · rw [e8]
    exact (nI_ltI (b := 60) (by omega) (by decide)).mpr z.1
/-- a siren more in the law's rows -/
theorem LC.sir (lc : LC s rc sc t I F) (l12 : sc < 12) (h5 : ∀ r, r < 12 → K (383 + r) 5 = I (383 + r) 5) (hK : ∀ o k, 498 ≤ o → o ≤ 501 → ¬ (o = 498 ∧ k = 2) → ¬ (o = 501 ∧ (k = sc ∨ k = 12 + sc ∨ k = 24 + sc)) → K o k = I o k) (e2 : K 498 2 = nI (sc + 1)) (hg : ∀ o k, 1000502 ≤ o → o ≤ 1000536 → ¬ (1000532 ≤ o ∧ o ≤ 1000536 ∧ k = sc) → K o k = I o k) (le : LE K sc) (ls : LSi K sc) (z535 : K 1000535 sc = 0) : LC s rc (sc + 1) t K F := by
  obtain ⟨⟨a0, a1, a2, a3, a4, a5⟩, b, c, d2, e, f, g, k⟩ := lc
  have eo : OI K = OI I := OI_cong (funext fun k => hg _ k (by omega) (by omega) (by omega)) (funext fun k => hg _ k (by omega) (by omega) (by omega)) (funext fun k => hg _ k (by omega) (by omega) (by omega)) (funext fun k => hg _ k (by omega) (by omega) (by omega))
  have cj : cntB (jdg K) (sc + 1) = cntB (jdg I) sc := by
    show cntB (jdg K) sc + (jdg K sc).toNat = _
    have e0 : jdg K sc = false := decide_eq_false (fun n => n z535)
    rw [e0, cntB_congr (f := jdg K) (g := jdg I) (fun x hx => by unfold jdg; rw [hg 1000535 x (by omega) (by omega) (by omega)])]
    rfl
  refine ⟨⟨(hK _ _ (by omega) (by omega) (by omega) (by omega)).trans a0, (hK _ _ (by omega) (by omega) (by omega) (by omega)).trans a1, e2, (hK _ _ (by omega) (by omega) (by omega) (by omega)).trans a3, a4, by omega⟩, fun d3 hd3 => ?_, fun r hr => ?_, fun x hx => ?_, fun u hu y => ?_, fun g hg2 t ht => ?_, fun v => (hg _ _ (by omega) (by omega) (by omega)).trans (g v), k⟩
  · obtain ⟨⟨x1, x2, x3, x4, x5⟩, y⟩ := b d3 hd3
    refine ⟨?_, ?_⟩
    · unfold LD
      rw [hK 498 _ (by omega) (by omega) (by omega) (by omega), hK 498 _ (by omega) (by omega) (by omega) (by omega), hK 498 _ (by omega) (by omega) (by omega) (by omega), hK 498 _ (by omega) (by omega) (by omega) (by omega), hK 498 _ (by omega) (by omega) (by omega) (by omega), hg 1000517 d3 (by omega) (by omega) (by omega), hg 1000518 d3 (by omega) (by omega) (by omega), hg 1000526 d3 (by omega) (by omega) (by omega), hg 1000527 d3 (by omega) (by omega) (by omega), hg 1000528 d3 (by omega) (by omega) (by omega)]
      exact ⟨x1, x2, x3, x4, x5⟩
    · unfold LG at y ⊢
      rw [cj, hg 1000517 d3 (by omega) (by omega) (by omega), hg 1000526 d3 (by omega) (by omega) (by omega), hg 1000527 d3 (by omega) (by omega) (by omega), hg 1000528 d3 (by omega) (by omega) (by omega), hg 1000531 d3 (by omega) (by omega) (by omega)]
      exact y
  · obtain ⟨⟨x1, x2, x3, x4⟩, y⟩ := c r hr
    refine ⟨?_, ?_⟩
    · unfold LR
      rw [hK 500 _ (by omega) (by omega) (by omega) (by omega), hK 500 _ (by omega) (by omega) (by omega) (by omega), hK 500 _ (by omega) (by omega) (by omega) (by omega), hK 500 _ (by omega) (by omega) (by omega) (by omega), hg 1000511 r (by omega) (by omega) (by omega), hg 1000512 r (by omega) (by omega) (by omega), hg 1000513 r (by omega) (by omega) (by omega)]
      exact ⟨x1, x2, x3, x4⟩
    · unfold LPk
      rw [h5 r (by omega), hg 1000511 r (by omega) (by omega) (by omega), hg 1000512 r (by omega) (by omega) (by omega), hg 1000513 r (by omega) (by omega) (by omega), eo]
      exact y
  · by_cases ex : x = sc
    · rw [ex]; exact ⟨le, ls⟩
    · obtain ⟨⟨x1, x2, x3⟩, ⟨d4, d5, d6, d7⟩, y2, y3⟩ := d2 x (by omega)
      refine ⟨?_, ⟨d4, d5, (hg _ _ (by omega) (by omega) (by omega)).trans d6, ?_⟩, ?_, ?_⟩
      · unfold LE
        rw [hK 501 _ (by omega) (by omega) (by omega) (by omega), hK 501 _ (by omega) (by omega) (by omega) (by omega), hK 501 _ (by omega) (by omega) (by omega) (by omega), hg 1000532 x (by omega) (by omega) (by omega), hg 1000535 x (by omega) (by omega) (by omega), hg 1000536 x (by omega) (by omega) (by omega)]
        exact ⟨x1, x2, x3⟩
      · rw [hg 1000517 d4 (by omega) (by omega) (by omega)]; exact d7
      · rw [hg 1000535 x (by omega) (by omega) (by omega)]; exact y2
      · rw [hg 1000536 x (by omega) (by omega) (by omega)]; exact y3
  · rw [hK 499 u (by omega) (by omega) (by omega) (by omega)]
    refine e u hu (y.imp id (fun ⟨r, hr, y⟩ => ⟨r, hr, by rw [← hg 1000511 r (by omega) (by omega) (by omega)]; exact y⟩))
  · rw [hg 1000507 _ (by omega) (by omega) (by omega)]; exact f g hg2 t ht
/-- the law's loop over the sirens that ring -/
theorem sp_so15 {x7 : Int32} (iv : Al s T rc sc t n N I L F) (hd : d < 3) (q : ∀ (y : Int32) (c0 s0 : Nat), ((y = 0 ∧ ∀ x, x < sc → ¬ (I 501 x = nI d ∧ I 501 (12 + x) = 0)) ∨ (y = 1 ∧ ∃ x, x < sc ∧ I 501 x = nI d ∧ I 501 (12 + x) = 0)) → c0 = 0 → s0 = 0 → WP mL_sounds 15 [some (.ref 0), some (.ref 498), some (.ref 499), some (.ref 500), some (.ref 501), some (.int (nI d)), some (.int (nI r)), some (.int x7), some (.int y), some (.int (nI sc)), none] [] (G X I L F) c0 s0 Q) :
    ∀ (f k : Nat) (y : Int32), k + f = sc → ((y = 0 ∧ ∀ x, x < k → ¬ (I 501 x = nI d ∧ I 501 (12 + x) = 0)) ∨ (y = 1 ∧ ∃ x, x < sc ∧ I 501 x = nI d ∧ I 501 (12 + x) = 0)) → WP mL_sounds 15 [some (.ref 0), some (.ref 498), some (.ref 499), some (.ref 500), some (.ref 501), some (.int (nI d)), some (.int (nI r)), some (.int x7), some (.int y), some (.int (nI k)), none] [] (G X I L F) 0 0 Q
  | 0, k, y, hk, hy => by
    have e : k = sc := by omega
    subst e
    exact q y 0 0 hy rfl rfl
  | f + 1, k, y, hk, hy => by
    have s12 := iv.2.1.2.2.2.2.2
    have e2 : I 498 2 = nI sc := iv.2.1.2.2.1
    have e12 : (12 : Int32) + nI k = nI (12 + k) := nI_add 12 k
    refine k_L_sounds_15 ⟨fun h => absurd ((nI_leI (a := sc) (b := k) (by omega) (by omega)).mp (by rw [← e2]; exact h)) (by omega), fun _ => ?_⟩
    rw [e12, nI_clamp (show k < 2 ^ 31 by omega), nI_clamp (show 12 + k < 2 ^ 31 by omega)]
    refine ⟨fun _ => ⟨nI_in (by omega) (by decide), fun _ => ⟨nI_in (by omega) (by decide), trivial⟩⟩, fun z ez => ?_⟩
    rw [nI_1]
    refine sp_so15 iv hd q f (k + 1) z (by omega) ?_
    rcases hy with ⟨e, h⟩ | ⟨e, h⟩
    · rw [if_pos e] at ez
      by_cases c : I 501 k = nI d ∧ I 501 (12 + k) = 0
      · rw [if_pos c.1, if_pos c.2] at ez
        exact Or.inr ⟨ez, k, by omega, c⟩
      · refine Or.inl ⟨?_, fun x hx => ?_⟩
        · by_cases c1 : I 501 k = nI d
          · rw [if_pos c1, if_neg (fun c2 => c ⟨c1, c2⟩)] at ez; exact ez
          · rw [if_neg c1] at ez; exact ez
        · by_cases xk : x = k
          · rw [xk]; exact c
          · exact h x (by omega)
    · rw [if_neg (by rw [e]; decide)] at ez
      exact Or.inr ⟨ez, h⟩
theorem sp_sounds (hX : X.1 ≤ 400000) (iv : Al s T rc sc t n N I L F) (hd : d < 3) (hr : r < rc) (l12 : sc < 12) (q : ∀ sc2 J, Al s T rc sc2 t n N J L F → Q (.inl (some (.int 1))) (G X J L F)) : WP mL_sounds 0 (am_ent 11 [.ref 0, .ref 498, .ref 499, .ref 500, .ref 501, .int (nI d), .int (nI r)]) [] (G X I L F) 0 0 Q := by
  have one : ¬ (1 : Int32) = 0 := by decide
  have lc := iv.2
  obtain ⟨b0, b1, b2, b3, r12, b5⟩ := lc.1
  have h60 := iv.1.1.1.1.1
  have rr := iv.1.2.2.2.1
  obtain ⟨v, a, b, z1, z2, z3, z4, z5, _, _, _, _, pe, kp, _⟩ := rr.2.2.2 r hr
  obtain ⟨l1, l2, l3, l4⟩ := (lc.2.2.1 r hr).1
  have l500 : I 500 r = nI v := l1.trans z5
  have l499 : I 499 v = aM s v := lc.2.2.2.2.1 v z1 (Or.inr ⟨r, hr, z5⟩)
  obtain ⟨⟨x1, x2, x3, x4, x5⟩, g1, g2, ⟨p, hp, ep⟩, g4, g5, g6, g7⟩ := lc.2.1 d hd
  obtain ⟨⟨y1, y2, y3, y4, y5, y6, y7, y8, y9, y10, y11⟩, _⟩ := iv.1.2.2.2.2.2.1 d hd
  have ss := iv.1.2.2.2.2.2.2.2.2.2
  have ed : ∀ j : Nat, (4 : Int32) + 6 * nI d + nI j = nI (4 + 6 * d + j) := fun j => by
    rw [show (6 : Int32) = nI 6 from rfl, nI_mul, show (4 : Int32) = nI 4 from rfl, nI_add, nI_add]
  have in22 : ∀ j, j ≤ 5 → vp_in (nI (4 + 6 * d + j)) 22 ∧ (nI (4 + 6 * d + j)).toNatClampNeg = 4 + 6 * d + j := fun j hj => ⟨nI_in (by omega) (by decide), nI_clamp (by omega)⟩
  have ed3 : (4 : Int32) + 6 * nI d + 3 = nI (7 + 6 * d) := by rw [show (3 : Int32) = nI 3 from rfl, ed 3, show 4 + 6 * d + 3 = 7 + 6 * d by omega]
  have ed1 : (4 : Int32) + 6 * nI d + 1 = nI (5 + 6 * d) := by rw [show (1 : Int32) = nI 1 from rfl, ed 1, show 4 + 6 * d + 1 = 5 + 6 * d by omega]
  have ed5 : (4 : Int32) + 6 * nI d + 5 = nI (9 + 6 * d) := by rw [show (5 : Int32) = nI 5 from rfl, ed 5, show 4 + 6 * d + 5 = 9 + 6 * d by omega]
  have ed4 : (4 : Int32) + 6 * nI d + 4 = nI (8 + 6 * d) := (ed 4).trans (by rw [show 4 + 6 * d + 4 = 8 + 6 * d by omega])
  have c7 : (nI (7 + 6 * d)).toNatClampNeg = 7 + 6 * d := nI_clamp (by omega)
  have c5 : (nI (5 + 6 * d)).toNatClampNeg = 5 + 6 * d := nI_clamp (by omega)
  have c9 : (nI (9 + 6 * d)).toNatClampNeg = 9 + 6 * d := nI_clamp (by omega)
  have c8 : (nI (8 + 6 * d)).toNatClampNeg = 8 + 6 * d := nI_clamp (by omega)
  have cr : (nI r).toNatClampNeg = r := nI_clamp (by omega)
  have cv : (nI v).toNatClampNeg = v := nI_clamp (by omega)
  have e36 : (36 : Int32) + nI r = nI (36 + r) := nI_add 36 r
  have c36 : (nI (36 + r)).toNatClampNeg = 36 + r := nI_clamp (by omega)
  -- the sirens that ring, in the class
  have rg : (∃ x, x < sc ∧ I 501 x = nI d ∧ I 501 (12 + x) = 0) ↔ ∃ x, x < sc ∧ I (438 + x) 0 = nI d ∧ I (438 + x) 4 = 0 := by
    constructor
    · rintro ⟨x, hx, u1, u2⟩
      obtain ⟨⟨w1, w2, w3⟩, _⟩ := lc.2.2.2.1 x hx
      obtain ⟨⟨d4, r4, _, _, k1, k2, _⟩, k3⟩ := ss x hx
      exact ⟨x, hx, by rw [k1, ← k2, ← w1]; exact u1, by rw [k3, ← w2]; exact u2⟩
    · rintro ⟨x, hx, u1, u2⟩
      obtain ⟨⟨w1, w2, w3⟩, _⟩ := lc.2.2.2.1 x hx
      obtain ⟨⟨d4, r4, _, _, k1, k2, _⟩, k3⟩ := ss x hx
      exact ⟨x, hx, by rw [w1, k2, ← k1]; exact u1, by rw [w2, ← k3]; exact u2⟩
  -- the siren may not be sounded
  have no : ∀ (y7 y8 : Int32) (c0 s0 : Nat), c0 ≤ 5 → s0 ≤ 30 → ¬ May I F d r sc → WP mL_ofSound 0 (am_ent 4 [.ref 0, .int (nI d), .int (nI r)]) [] (G X I L F) 0 0 (am_kq mL_sounds 135 [some (.ref 0), some (.ref 498), some (.ref 499), some (.ref 500), some (.ref 501), some (.int (nI d)), some (.int (nI r)), some (.int y7), some (.int y8), some (.int 0), none] [] c0 s0 Q) := fun y7 y8 c0 s0 hc hs nm => by
    refine k_L_ofSound_0 (z_sound hX iv.1 hd hr hp ep (fun _ => ?_) (fun mm => absurd mm nm))
    refine ⟨_, rfl, trivial, k_L_ofSound_8 (k_L_sounds_138 (fun u eu => ⟨fun _ => ⟨fun _ => q sc I iv, fun h => absurd rfl h⟩, fun h => absurd ?_ h⟩))⟩
    rw [eu, if_pos rfl]
  -- the siren may be sounded
  have yes : ∀ (yb : Int32) (c0 s0 : Nat), c0 ≤ 5 → s0 ≤ 30 → May I F d r sc → WP mL_ofSound 0 (am_ent 4 [.ref 0, .int (nI d), .int (nI r)]) [] (G X I L F) 0 0 (am_kq mL_sounds 135 [some (.ref 0), some (.ref 498), some (.ref 499), some (.ref 500), some (.ref 501), some (.int (nI d)), some (.int (nI r)), some (.int (4 + 6 * nI d)), some (.int yb), some (.int 1), none] [] c0 s0 Q) := fun yb c0 s0 hc hs mm => by
    refine k_L_ofSound_0 (z_sound hX iv.1 hd hr hp ep (fun nm => absurd mm nm) (fun _ K w iv2 sp hw => k_L_ofSound_6 (k_L_sounds_138 (fun u eu => ⟨fun _ => ⟨fun h => absurd h one, fun _ => ?_⟩, fun h => absurd ?_ h⟩))))
    · obtain ⟨p1, p2, p3, p4, p5⟩ := sp
      have e12 : (12 : Int32) + nI sc = nI (12 + sc) := nI_add 12 sc
      have e24 : (24 : Int32) + nI sc = nI (24 + sc) := nI_add 24 sc
      have csc : (nI sc).toNatClampNeg = sc := nI_clamp (by omega)
      have c12 : (nI (12 + sc)).toNatClampNeg = 12 + sc := nI_clamp (by omega)
      have c24 : (nI (24 + sc)).toNatClampNeg = 24 + sc := nI_clamp (by omega)
      have n36 : ∀ j, j < 36 → vp_in (nI j) 36 := fun j hj => nI_in hj (by decide)
      rw [e12, e24, csc, c12]
      refine ⟨n36 _ (by omega), n36 _ (by omega), by omega, ?_⟩
      have iv3 : InvS s T rc (sc + 1) t n N (am_u (am_u K 501 sc (nI d)) 501 (12 + sc) 0) L F := iv2.row (fun o k h => by rw [am_u_ne (by omega), am_u_ne (by omega)])
      refine z_walkers iv3 (by omega) (k_L_sounds_194 ?_)
      have w36 : am_u (am_u K 501 sc (nI d)) 501 (12 + sc) 0 1000536 sc = nI w := by rw [am_u_ne (by omega), am_u_ne (by omega)]; exact p5
      have k2 : am_u (am_u K 501 sc (nI d)) 501 (12 + sc) 0 498 2 = nI sc := by rw [am_u_ne (by omega), am_u_ne (by omega), p1 _ _ (by omega) (by omega) (by omega)]; exact b2
      rw [c24, w36]
      refine ⟨n36 _ (by omega), fun h => absurd h one, fun _ => ⟨by omega, ?_⟩⟩
      rw [k2, nI_1]
      generalize hK3 : am_u (am_u (am_u (am_u K 501 sc (nI d)) 501 (12 + sc) 0) 501 (24 + sc) (nI w)) 498 2 (nI (sc + 1)) = K3
      have k3 : ∀ o k, ¬ (o = 498 ∧ k = 2) → ¬ (o = 501 ∧ (k = sc ∨ k = 12 + sc ∨ k = 24 + sc)) → K3 o k = K o k := fun o k a b => by
        rw [← hK3, am_u_ne (by omega), am_u_ne (by omega), am_u_ne (by omega), am_u_ne (by omega)]
      have m2 : K3 498 2 = nI (sc + 1) := by rw [← hK3, am_u_eq]
      have m24 : K3 501 (24 + sc) = nI w := by rw [← hK3, am_u_ne (by omega), am_u_eq]
      have m12 : K3 501 (12 + sc) = 0 := by rw [← hK3, am_u_ne (by omega), am_u_ne (by omega), am_u_eq]
      have m0 : K3 501 sc = nI d := by rw [← hK3, am_u_ne (by omega), am_u_ne (by omega), am_u_ne (by omega), am_u_eq]
      have iv4 : InvS s T rc (sc + 1) t n N K3 L F := iv2.row (fun o k h => k3 o k (by omega) (by omega))
      have g535 : K3 1000535 sc = 0 := (k3 _ _ (by omega) (by omega)).trans p4
      have bd : K3 1000517 d ≠ 0 := by
        rw [k3 _ _ (by omega) (by omega), p1 _ _ (by omega) (by omega) (by omega)]
        exact y8 (by rw [← y7]; exact mm.2.2.1)
      have al : Al s T rc (sc + 1) t n N K3 L F := ⟨iv4, lc.sir l12 (fun r hr => (k3 _ _ (by omega) (by omega)).trans (p2 r hr)) (fun o k a b c e => (k3 o k c e).trans (p1 o k a (by omega) (by omega))) m2 (fun o k a b c => (k3 o k (by omega) (by omega)).trans (p1 o k (by omega) c (by omega))) ⟨m0.trans ((k3 _ _ (by omega) (by omega)).trans p3).symm, m12.trans g535.symm, m24.trans ((k3 _ _ (by omega) (by omega)).trans p5).symm⟩ ⟨⟨d, hd, (k3 _ _ (by omega) (by omega)).trans p3, bd⟩, ⟨0, by decide, g535⟩, ⟨w, by omega, (k3 _ _ (by omega) (by omega)).trans p5⟩⟩ g535⟩
      refine z_siren iv4 (by omega) (k_L_sounds_213 ?_)
      have m8 : K3 498 (8 + 6 * d) = nI p := by rw [k3 _ _ (by omega) (by omega), p1 _ _ (by omega) (by omega) (by omega), x4]; exact ep
      rw [e24, c24, ed4, c8, m24, m8, g535]
      refine ⟨fun _ => ⟨n36 _ (by omega), fun _ => ⟨n36 _ (by omega), nI_in (by omega) (by decide), trivial⟩⟩, fun u eu => ?_⟩
      have eu2 : u = 1 := by
        rw [eu, if_pos rfl, if_neg (nI_pos (by omega)), if_neg (fun z => by have := (nI_ltI (by omega) (by omega)).mp z; omega)]
      rw [eu2]
      exact ⟨Or.inr rfl, q (sc + 1) K3 al⟩
    · rw [eu, if_neg one, (sp.1 498 2 (by omega) (by omega) (by omega)), b2]
  refine k_L_sounds_0 (sp_so15 iv hd (fun y c0 s0 hy hc hs => ?_) sc 0 0 (Nat.zero_add _) (Or.inl ⟨rfl, fun x hx => absurd hx (by omega)⟩))
  subst hc hs
  refine k_L_sounds_15 ⟨fun _ => ?_, fun h => absurd (by rw [b2]; exact Int32.le_refl _) h⟩
  rw [ed3, c7, x3]
  refine ⟨nI_in (by omega) (by decide), fun v1 => ⟨fun y0 => ⟨by decide, ?_⟩, fun y0 => ⟨by decide, no _ _ _ _ (by decide) (by decide) (fun mm => ?_)⟩⟩, fun v0 => ⟨by decide, no _ _ _ _ (by decide) (by decide) (fun mm => ?_)⟩⟩
  · have nr := (hy.resolve_right (fun z => absurd y0 (by rw [z.1]; exact one))).2
    have nr2 : ∀ x, x < sc → ¬ (I (438 + x) 0 = nI d ∧ I (438 + x) 4 = 0) := fun x hx u => by
      obtain ⟨x2, hx2, u2⟩ := rg.mpr ⟨x, hx, u⟩
      exact nr x2 hx2 u2
    have nz : I 1000526 d ≠ 0 := by rw [v1]; exact one
    have gv := good_v iv.1 hd hr (y8 nz) z5 z1
    obtain ⟨g, gg1, gg2, gg3⟩ := g4 nz
    refine z_why iv.1 hr (k_L_sounds_83 ?_)
    rw [cr, l500, cv, l499, ed1, c5, x2, e36, c36, l4, ed5, c9, x5, gg3]
    refine ⟨fun w0 => ⟨nI_in (by omega) (by decide), nI_in (by omega) (by decide), nI_in (by omega) (by decide), fun em => ⟨nI_in (by omega) (by decide), by decide, nI_in (by omega) (by decide), by decide, ?_⟩, fun em => ⟨by decide, no _ _ _ _ (by decide) (by decide) (fun mm => mm.2.2.2.1 ?_)⟩⟩, fun w1 => ⟨by decide, no _ _ _ _ (by decide) (by decide) (fun mm => mm.2.2.2.1 ?_)⟩⟩
    · have mayc : May I F d r sc ↔ ¬ fk (F 1000514 r) < fk (FP.i2f (nI g)) := by
        unfold May
        rw [gv, if_pos w0, if_pos em, pe, y10, gg3, fc_lt kp.nn (fin_i2f _).nn]
        exact ⟨fun z => z.2.2.2.2, fun z => ⟨by omega, nr2, by rw [y7]; exact nz, one, z⟩⟩
      have kb := key_bits kp gg1 gg2
      refine sp_bits gg1 gg2 (k_L_sounds_120 (fun u eu => ⟨by decide, ?_⟩))
      by_cases c : f_L_key (UInt32.toInt32 (F 1000514 r)) < UInt32.toInt32 (FP.i2f (nI g))
      · rw [if_pos c] at eu
        rw [eu]
        exact no _ _ _ _ (by decide) (by decide) (fun mm => absurd (kb.mpr (mayc.mp mm)) (Int32.not_le.mpr c))
      · rw [if_neg c] at eu
        rw [eu]
        exact yes _ _ _ (by decide) (by decide) (mayc.mpr (kb.mp (Int32.not_lt.mp c)))
    · rw [gv, if_pos w0, if_neg em]
    · rw [gv, if_neg w1]
  · have nr := (hy.resolve_left (fun z => y0 z.1)).2
    obtain ⟨x, hx, u⟩ := rg.mp nr
    exact mm.2.1 x hx u
  · have := mm.2.2.1
    rw [y7] at this
    rcases g2 with e | e
    · exact this e
    · exact v0 e
end ZS
