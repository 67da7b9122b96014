/-! own: the law's runs -/
set_option maxRecDepth 100000
section LRN
variable {X : Nat × (Nat × (Nat → Int32))} {I J K : Nat → Nat → Int32} {L M : Nat → Nat → Int64} {F H : Nat → Nat → UInt32} {Q : AQ} {N T rc sc t n n2 d r v k h x m j c0 a b : Nat} {s z : AS}
theorem LQ.trans (x : LQ I J) (y : LQ J K) : LQ I K := ⟨fun r hr => (y.1 r hr).trans (x.1 r hr), fun o k h => (y.2 o k h).trans (x.2 o k h)⟩
theorem LQF.trans {H2 : Nat → Nat → UInt32} (x : LQF F H) (y : LQF H H2) : LQF F H2 := fun o k h => (y o k h).trans (x o k h)
theorem pkk {g : Nat → UInt32} {m : Nat} (h : ∀ t, kv (g t)) : kv (pk g a m).1 := by rw [(pk_val (g := g) (a := a) m).1]; exact h _
/-- one run more in the law's rows -/
theorem LC.run (lc : LC s rc sc t I F) (l12 : rc < 12) (hK : ∀ o k, 498 ≤ o → o ≤ 501 → ¬ (o = 498 ∧ k = 1) → ¬ (o = 500 ∧ (k = rc ∨ k = 12 + rc ∨ k = 24 + rc ∨ k = 36 + rc)) → K o k = I o k) (e1 : K 498 1 = nI (rc + 1)) (hg : ∀ o k, 1000502 ≤ o → o ≤ 1000536 → ¬ (1000511 ≤ o ∧ o ≤ 1000516 ∧ k = rc) → K o k = I o k) (h5 : ∀ r, r < rc → K (383 + r) 5 = I (383 + r) 5) (hF : ∀ o k, 1000498 ≤ o → ¬ (o = 1000514 ∧ k = rc) → H o k = F o k) (lr : LR K H rc) (lp : LPk K H rc) (hm : m < 6) (la : aL s m = nI v) (e511 : K 1000511 rc = nI v) (h60 : aC s ≤ 60) (hv : v < aC s) : LC s (rc + 1) sc t K H := by
  obtain ⟨⟨a0, a1, a2, a3, a4, a5⟩, b, c, d, e, f, g, k⟩ := lc
  have eo : OI K = OI I := OI_cong (funext fun k => hg _ k (by omega) (by omega) (by omega)) (funext fun k => hg _ k (by omega) (by omega) (by omega)) (funext fun k => hg _ k (by omega) (by omega) (by omega)) (funext fun k => hg _ k (by omega) (by omega) (by omega))
  refine ⟨⟨(hK _ _ (by omega) (by omega) (by omega) (by omega)).trans a0, e1, (hK _ _ (by omega) (by omega) (by omega) (by omega)).trans a2, (hK _ _ (by omega) (by omega) (by omega) (by omega)).trans a3, by omega, a5⟩, fun d hd => ?_, fun r hr => ?_, fun x hx => ?_, fun u hu y => ?_, fun g hg2 t ht => ?_, fun v => (hg _ _ (by omega) (by omega) (by omega)).trans (g v), k⟩
  · obtain ⟨⟨x1, x2, x3, x4, x5⟩, y⟩ := b d hd
    refine ⟨?_, y.fr (fun o p q _ _ _ => hg o d (by omega) (by omega) (by omega)) (fun k => hg _ k (by omega) (by omega) (by omega)) (fun o x => hF o d (by omega) (by omega))⟩
    · unfold LD
      rw [hK 498 _ (by omega) (by omega) (by omega) (by omega), hK 498 _ (by omega) (by omega) (by omega) (by omega), hK 498 _ (by omega) (by omega) (by omega) (by omega), hK 498 _ (by omega) (by omega) (by omega) (by omega), hK 498 _ (by omega) (by omega) (by omega) (by omega), hg 1000517 d (by omega) (by omega) (by omega), hg 1000518 d (by omega) (by omega) (by omega), hg 1000526 d (by omega) (by omega) (by omega), hg 1000527 d (by omega) (by omega) (by omega), hg 1000528 d (by omega) (by omega) (by omega)]
      exact ⟨x1, x2, x3, x4, x5⟩
  · by_cases er : r = rc
    · subst er; exact ⟨lr, lp⟩
    · obtain ⟨⟨x1, x2, x3, x4⟩, y⟩ := c r (by omega)
      refine ⟨?_, ?_⟩
      · unfold LR
        rw [hK 500 _ (by omega) (by omega) (by omega) (by omega), hK 500 _ (by omega) (by omega) (by omega) (by omega), hK 500 _ (by omega) (by omega) (by omega) (by omega), hK 500 _ (by omega) (by omega) (by omega) (by omega), hg 1000511 r (by omega) (by omega) (by omega), hg 1000512 r (by omega) (by omega) (by omega), hg 1000513 r (by omega) (by omega) (by omega), hF 1000514 r (by omega) (by omega)]
        exact ⟨x1, x2, x3, x4⟩
      · unfold LPk
        rw [h5 r (by omega), hg 1000511 r (by omega) (by omega) (by omega), hg 1000512 r (by omega) (by omega) (by omega), hg 1000513 r (by omega) (by omega) (by omega), hF 1000514 r (by omega) (by omega), eo]
        exact y
  · obtain ⟨⟨x1, x2, x3⟩, ⟨d, d1, d2, d3⟩, y2, y3⟩ := d x hx
    refine ⟨?_, ⟨d, d1, (hg _ _ (by omega) (by omega) (by omega)).trans d2, ?_⟩, ?_, ?_⟩
    · unfold LE
      rw [hK 501 _ (by omega) (by omega) (by omega) (by omega), hK 501 _ (by omega) (by omega) (by omega) (by omega), hK 501 _ (by omega) (by omega) (by omega) (by omega), hg 1000532 x (by omega) (by omega) (by omega), hg 1000535 x (by omega) (by omega) (by omega), hg 1000536 x (by omega) (by omega) (by omega)]
      exact ⟨x1, x2, x3⟩
    · rw [hg 1000517 d (by omega) (by omega) (by omega)]; exact d3
    · rw [hg 1000535 x (by omega) (by omega) (by omega)]; exact y2
    · rw [hg 1000536 x (by omega) (by omega) (by omega)]; exact y3
  · rw [hK 499 u (by omega) (by omega) (by omega) (by omega)]
    refine e u hu ?_
    rcases y with y | ⟨r, hr, y⟩
    · exact Or.inl y
    · by_cases er : r = rc
      · subst er
        have : u = v := (nI_eq (by omega) (by omega)).mp (y.symm.trans e511)
        exact Or.inl ⟨m, hm, by rw [this]; exact la⟩
      · exact Or.inr ⟨r, by omega, by rw [← hg 1000511 r (by omega) (by omega) (by omega)]; exact y⟩
  · rw [hg 1000507 _ (by omega) (by omega) (by omega)]; exact f g hg2 t ht
/-- the peak is the greatest of the outputs -/
theorem sp_pk22 (hr : r < rc) (e1 : I 1000511 r = nI v) (e2 : I 1000512 r = nI a) (e3 : I 1000513 r = nI b) (hv : v < aC s) (hab : a ≤ b) (hb : b < 201) (h48 : b ≤ a + 48) (r12 : rc ≤ 12) (h60 : aC s ≤ 60)
    (q : ∀ J H, Al s T rc sc t n N J L H → LQ I J → LQF F H → Q (.inl (some (.int 1))) (G X J L H)) :
    ∀ (f i : Nat) (J : Nat → Nat → Int32) (H : Nat → Nat → UInt32) (d5 : Option Value) (c0 s0 : Nat), a + i + f = b + 1 → Al s T rc sc t n N J L H → LQ I J → LQF F H → c0 ≤ 1 + i → s0 ≤ 6 + 6 * i →
      WP mL_isPeak 22 [some (.ref 0), some (.ref 500), some (.int (nI r)), some (.int (UInt32.toInt32 (pk (OI I v) a (i - 1)).1)), some (.int (nI (a + i))), d5] [] (G X J L H) c0 s0 Q
  | f, i, J, H, d5, c0, s0, hf, iv, lq, lf, hc, hs => by
    have in24 : vp_in (24 + nI r) 48 := by rw [show (24 : Int32) + nI r = nI (24 + r) from nI_add 24 r]; exact nI_in (by omega) (by decide)
    have c24 : ((24 : Int32) + nI r).toNatClampNeg = 24 + r := by rw [show (24 : Int32) + nI r = nI (24 + r) from nI_add 24 r]; exact nI_clamp (by omega)
    have inr : vp_in (nI r) 48 := nI_in (by omega) (by decide)
    have cr : (nI r).toNatClampNeg = r := nI_clamp (by omega)
    obtain ⟨⟨l1, l2, l3, l4⟩, _⟩ := iv.2.2.2.1 r hr
    have j1 : J 1000511 r = nI v := (lq.2 _ _ (by omega)).trans e1
    have j2 : J 1000512 r = nI a := (lq.2 _ _ (by omega)).trans e2
    have j3 : J 1000513 r = nI b := (lq.2 _ _ (by omega)).trans e3
    refine k_L_isPeak_22 ?_
    rw [c24, cr, l1, l3, j1, j3]
    cases f with
    | zero =>
      have ei : i - 1 = b - a := by omega
      refine ⟨in24, fun _ => ⟨by omega, ?_⟩, fun h => absurd ((nI_ltI (by omega) (by omega)).mpr (by omega)) h⟩
      refine z_peakAnew iv hr j1 (by omega) j2 j3 (by omega) hb (fun J2 H2 a2 lf2 lq2 lff2 => k_L_isPeak_74 (fun y ey => ?_))
      have ey2 : y = 1 := by rw [ey, lq.oi, ei, if_pos rfl]
      rw [ey2]
      exact ⟨Or.inr rfl, q J2 H2 a2 (lq.trans lq2) (lf.trans lff2)⟩
    | succ f =>
      refine ⟨in24, fun h => absurd ((nI_ltI (by omega) (by omega)).mp h) (by omega), fun _ => ⟨inr, by omega, ?_⟩⟩
      refine z_out iv hv (show a + i < 201 by omega) (fun J2 H2 a2 if2 lq2 lff2 => k_L_isPeak_42 ⟨by omega, by omega, fun y ey => ?_⟩)
      have kvg : ∀ t, kv (OI I v t) := fun t => OO_kv
      have kvm := pkk (a := a) (m := i - 1) kvg
      have ey2 : y = UInt32.toInt32 (pk (OI I v) a (i + 1 - 1)).1 := by
        rw [ey, lq.oi, Nat.add_sub_cancel]
        by_cases le : fk (OI I v (a + i)) ≤ fk (pk (OI I v) a (i - 1)).1
        · rw [if_pos ((key_le (kvg _).2.2 kvm.2.2).mpr le)]
          cases i with
          | zero => rfl
          | succ i =>
            have e : pk (OI I v) a (i + 1) = if fk (pk (OI I v) a i).1 < fk (OI I v (a + i + 1)) then (OI I v (a + i + 1), a + i + 1) else pk (OI I v) a i := rfl
            have le2 : fk (OI I v (a + i + 1)) ≤ fk (pk (OI I v) a i).1 := le
            rw [e, if_neg (by omega), Nat.add_sub_cancel]
        · rw [if_neg (fun z => le ((key_le (kvg _).2.2 kvm.2.2).mp z))]
          cases i with
          | zero => exact absurd (Int.le_refl _) le
          | succ i =>
            have e : pk (OI I v) a (i + 1) = if fk (pk (OI I v) a i).1 < fk (OI I v (a + i + 1)) then (OI I v (a + i + 1), a + i + 1) else pk (OI I v) a i := rfl
            have le2 : ¬ fk (OI I v (a + i + 1)) ≤ fk (pk (OI I v) a i).1 := le
            rw [e, if_pos (by omega)]
            rfl
      rw [ey2, nI_1]
      exact sp_pk22 hr e1 e2 e3 hv hab hb h48 r12 h60 q f (i + 1) J2 H2 _ _ _ (by omega) a2 (lq.trans lq2) (lf.trans lff2) (by omega) (by omega)
theorem sp_isPeak (iv : Al s T rc sc t n N I L F) (hr : r < rc) (e1 : I 1000511 r = nI v) (e2 : I 1000512 r = nI a) (e3 : I 1000513 r = nI b) (hv : v < aC s) (hab : a ≤ b) (hb : b < 201) (h48 : b ≤ a + 48)
    (q : ∀ J H, Al s T rc sc t n N J L H → LQ I J → LQF F H → Q (.inl (some (.int 1))) (G X J L H)) : WP mL_isPeak 0 (am_ent 6 [.ref 0, .ref 500, .int (nI r)]) [] (G X I L F) 0 0 Q := by
  have r12 : rc ≤ 12 := iv.2.1.2.2.2.2.1
  have h60 : aC s ≤ 60 := iv.1.1.1.1.1
  have e12 : (12 : Int32) + nI r = nI (12 + r) := nI_add 12 r
  have in12 : vp_in (nI (12 + r)) 48 := nI_in (by omega) (by decide)
  have c12 : (nI (12 + r)).toNatClampNeg = 12 + r := nI_clamp (by omega)
  have inr : vp_in (nI r) 48 := nI_in (by omega) (by decide)
  have cr : (nI r).toNatClampNeg = r := nI_clamp (by omega)
  obtain ⟨⟨l1, l2, l3, l4⟩, _⟩ := iv.2.2.2.1 r hr
  refine k_L_isPeak_0 ?_
  rw [e12, c12, cr, l1, l2, e1, e2]
  refine ⟨inr, in12, z_out iv hv (show a < 201 by omega) (fun J H a2 if2 lq2 lff2 => k_L_isPeak_13 ?_)⟩
  obtain ⟨⟨g1, g2, g3, g4⟩, _⟩ := a2.2.2.2.1 r hr
  rw [e12, c12, g2, (lq2.2 1000512 r (by omega)).trans e2]
  exact ⟨in12, sp_pk22 hr e1 e2 e3 hv hab hb h48 r12 h60 q (b + 1 - a) 0 J H none 1 6 (by omega) a2 lq2 lff2 (by decide) (by decide)⟩
/-- the law makes a run -/
theorem sp_runs (hX : X.1 ≤ 400000) (hN : N < 1000000) (iv : Al s T rc sc t n N I L F) (l12 : rc < 12) (hm : m < 6) (la : aL s m ≠ -1) (h1 : 1 ≤ n2) (h48 : n2 ≤ 48) (le : t + n2 ≤ 200)
    (q : ∀ K H, Al s T (rc + 1) sc t n N K L H → Q (.inl (some (.int 1))) (G X K L H)) : WP mL_runs 0 (am_ent 7 [.ref 0, .ref 498, .ref 500, .int (nI m), .int (nI n2)]) [] (G X I L F) 0 0 Q := by
  have one : ¬ (1 : Int32) = 0 := by decide
  have lc := iv.2
  obtain ⟨b0, b1, b2, b3, b4, b5⟩ := lc.1
  have w := iv.1.1.1.1
  have h60 := w.1
  obtain ⟨v, hv, ev, em, _⟩ := st_lat w hm la
  have e12 : (12 : Int32) + nI rc = nI (12 + rc) := nI_add 12 rc
  have e24 : (24 : Int32) + nI rc = nI (24 + rc) := nI_add 24 rc
  have e36 : (36 : Int32) + nI rc = nI (36 + rc) := nI_add 36 rc
  have nn : ∀ k, k < 48 → vp_in (nI k) 48 ∧ (nI k).toNatClampNeg = k := fun k hk => ⟨nI_in hk (by decide), nI_clamp (by omega)⟩
  obtain ⟨v1, v2⟩ := nn rc (by omega)
  obtain ⟨v3, v4⟩ := nn (12 + rc) (by omega)
  obtain ⟨v5, v6⟩ := nn (24 + rc) (by omega)
  obtain ⟨v7, v8⟩ := nn (36 + rc) (by omega)
  have iv0 : InvS s T rc sc t n N (am_u I 498 1 (nI (rc + 1))) L F := iv.1.row (fun o k h => am_u_ne (by omega))
  refine k_L_runs_0 ?_
  rw [b1, nI_1]
  refine z_latest iv0 hm (k_L_runs_20 ?_)
  rw [e12, e24, v2, v4, v6, ev, am_u_ne (by omega), b0, nI_add]
  refine ⟨v1, v3, v5, by decide, ?_⟩
  generalize hI : am_u (am_u (am_u (am_u I 498 1 (nI (rc + 1))) 500 rc (nI v)) 500 (12 + rc) (nI t)) 500 (24 + rc) (nI (t + n2)) = I1
  have i1 : ∀ o k, ¬ (o = 498 ∧ k = 1) → ¬ (o = 500 ∧ (k = rc ∨ k = 12 + rc ∨ k = 24 + rc)) → I1 o k = I o k := fun o k a b => by
    rw [← hI, am_u_ne (by omega), am_u_ne (by omega), am_u_ne (by omega), am_u_ne (by omega)]
  have p1 : I1 498 1 = nI (rc + 1) := by rw [← hI, am_u_ne (by omega), am_u_ne (by omega), am_u_ne (by omega), am_u_eq]
  have p2 : I1 500 rc = nI v := by rw [← hI, am_u_ne (by omega), am_u_ne (by omega), am_u_eq]
  have p3 : I1 500 (12 + rc) = nI t := by rw [← hI, am_u_ne (by omega), am_u_eq]
  have p4 : I1 500 (24 + rc) = nI (t + n2) := by rw [← hI, am_u_eq]
  have iv1 : InvS s T rc sc t n N I1 L F := iv.1.row (fun o k h => i1 o k (by omega) (by omega))
  have eo1 : OI I1 = OI I := OI_cong (funext fun k => i1 _ k (by omega) (by omega)) (funext fun k => i1 _ k (by omega) (by omega)) (funext fun k => i1 _ k (by omega) (by omega)) (funext fun k => i1 _ k (by omega) (by omega))
  refine z_run hX hN iv1 (by omega) hm hv ev h1 h48 le (fun K H2 iv2 rp => k_L_runs_51 ⟨fun _ => ⟨by decide, ?_⟩, fun h => absurd rfl h⟩)
  obtain ⟨r1, r2, r3, r4, r5, r6, r7, r8, r9, r10⟩ := rp
  have rr2 := iv2.2.2.2.1
  have eoK : OI K = OI I := (OI_cong (funext fun k => r2 _ k (by omega) (by omega)) (funext fun k => r2 _ k (by omega) (by omega)) (funext fun k => r2 _ k (by omega) (by omega)) (funext fun k => r2 _ k (by omega) (by omega))).trans eo1
  rw [eo1] at r8 r9
  have k0 : K (383 + rc) 0 = nI v := by
    obtain ⟨v9, a9, b9, z1, _, _, z4, z5, _⟩ := rr2.2.2.2 rc (by omega)
    rw [z4, ← z5, r5]
  have why : f_X9_reasonAgainst (nI rc) K = 0 := by
    rw [reason_v w iv2.1.1.2.2.1 rr2.1 rr2.2.1 (by omega) hv k0 hm em, if_pos ev, if_pos r4]
  refine z_why iv2 (by omega) (k_L_runs_62 ⟨fun _ => ⟨by decide, ?_⟩, fun h => absurd why h⟩)
  refine z_peak iv2 (by omega) (k_L_runs_71 ⟨by decide, ?_⟩)
  refine zi_peakAnew iv2 (by omega) r5 (by omega) r6 r7 (by omega) (by omega) (fun J H3 iv3 li lf => k_L_runs_77 (fun y ey => ⟨by decide, ?_⟩))
  have ey2 : y = 1 := by rw [ey, r9, eoK, Nat.add_sub_cancel_left, if_pos rfl]
  subst ey2
  have jl : LQ K J := LQ.lif li
  have hl : LQF H2 H3 := LQF.lff lf
  have h514 : H3 1000514 rc = (pk (OI I v) t n2).1 := (hl _ _ (by omega)).trans r9
  refine z_peak iv3 (by omega) (k_L_runs_99 ?_)
  rw [e36, v8]
  have jf : ∀ o k, 498 ≤ o → J o k = K o k := fun o k h => li o k (by omega) (by omega) (fun ⟨v, _, y, _⟩ => by omega)
  generalize hJ : am_u J 500 (36 + rc) (UInt32.toInt32 (H3 1000514 rc)) = J1
  have j1 : ∀ o k, ¬ (o = 500 ∧ k = 36 + rc) → J1 o k = J o k := fun o k a => by rw [← hJ, am_u_ne (by omega)]
  have j36 : J1 500 (36 + rc) = UInt32.toInt32 (H3 1000514 rc) := by rw [← hJ, am_u_eq]
  have jk : ∀ o k, 498 ≤ o → o < 1000000 → ¬ (o = 500 ∧ k = 36 + rc) → J1 o k = I1 o k := fun o k a b c => by rw [j1 o k c, jf o k a, r1 o k a b]
  have jg : ∀ o k, 1000500 ≤ o → ¬ (1000511 ≤ o ∧ o ≤ 1000516 ∧ k = rc) → J1 o k = I o k := fun o k a b => by rw [j1 o k (by omega), jf o k (by omega), r2 o k a b, i1 o k (by omega) (by omega)]
  have jr : ∀ o, 1000511 ≤ o → o ≤ 1000516 → J1 o rc = K o rc := fun o a b => by rw [j1 o rc (by omega), jf o rc (by omega)]
  have s5 : ∀ r, r < 12 → J1 (383 + r) 5 = K (383 + r) 5 := fun r hr => (j1 _ _ (by omega)).trans (jl.1 r hr)
  have eoJ : OI J1 = OI I := OI_cong (funext fun k => jg _ k (by omega) (by omega)) (funext fun k => jg _ k (by omega) (by omega)) (funext fun k => jg _ k (by omega) (by omega)) (funext fun k => jg _ k (by omega) (by omega))
  have al : Al s T (rc + 1) sc t n N J1 L H3 := by
    refine ⟨iv3.row (fun o k h => j1 o k (by omega)), lc.run l12 (fun o k a b c d => ?_) ?_ (fun o k a b c => jg o k (by omega) c) (fun r hr => ?_) (fun o k a b => ?_) ?_ ?_ hm ev ((jr _ (by decide) (by decide)).trans r5) h60 hv⟩
    · rw [jk o k a (by omega) (by omega)]; exact i1 o k c (by omega)
    · rw [jk _ _ (by omega) (by omega) (by omega)]; exact p1
    · rw [s5 r (by omega), r3 r hr]; exact i1 _ _ (by omega) (by omega)
    · exact (lf o k (by omega) (by omega) (by omega) (fun ⟨v, x, y⟩ => by omega)).trans (r10 o k a b)
    · refine ⟨?_, ?_, ?_, j36⟩
      · rw [jk _ _ (by omega) (by omega) (by omega), p2, jr _ (by decide) (by decide), r5]
      · rw [jk _ _ (by omega) (by omega) (by omega), p3, jr _ (by decide) (by decide), r6]
      · rw [jk _ _ (by omega) (by omega) (by omega), p4, jr _ (by decide) (by decide), r7]
    · intro _ v9 a9 b9 hab hb9 x1 hv9 x2 x3
      rw [jr _ (by decide) (by decide), r5] at x1
      rw [jr _ (by decide) (by decide), r6] at x2
      rw [jr _ (by decide) (by decide), r7] at x3
      have y1 : v = v9 := (nI_eq (by omega) (by omega)).mp x1
      have y2 : t = a9 := (nI_eq (by omega) (by omega)).mp x2
      have y3 : t + n2 = b9 := (nI_eq (by omega) (by omega)).mp x3
      rw [h514, eoJ, ← y1, ← y2, ← y3, Nat.add_sub_cancel_left]
  have g1 : J1 1000511 rc = nI v := (jr _ (by decide) (by decide)).trans r5
  have g2 : J1 1000512 rc = nI t := (jr _ (by decide) (by decide)).trans r6
  have g3 : J1 1000513 rc = nI (t + n2) := (jr _ (by decide) (by decide)).trans r7
  have g5 : J1 1000515 rc = nI (pk (OI I v) t n2).2 := (jr _ (by decide) (by decide)).trans r8
  refine ⟨v7, fun h => absurd h one, fun _ => ⟨by decide, ?_⟩⟩
  refine sp_isPeak al (by omega) g1 g2 g3 hv (by omega) (by omega) (by omega) (fun J2 H4 a2 lq2 lf2 => k_L_runs_112 ⟨fun h => absurd h one, fun _ => ⟨by decide, ?_⟩⟩)
  have pv := pk_val (g := OI I v) (a := t) n2
  have q5 : ∀ J3, LQ J1 J3 → J3 1000515 rc = nI (pk (OI I v) t n2).2 := fun J3 h => (h.2 _ _ (by omega)).trans g5
  refine z_peakHour a2.1 (by omega) (k_L_runs_121 ?_)
  rw [q5 J2 lq2, a2.2.1.1]
  refine ⟨fun h => absurd ((nI_ltI (by omega) (by omega)).mp h) (by omega), fun _ => ⟨by decide, z_peakHour a2.1 (by omega) (k_L_runs_133 ?_)⟩⟩
  rw [q5 J2 lq2, a2.2.1.1, nI_add, v2]
  refine ⟨fun h => absurd ((nI_ltI (by omega) (by omega)).mp h) (by omega), fun _ => ⟨v1, by decide, z_peakHour a2.1 (by omega) (k_L_runs_153 ⟨by decide, ?_⟩)⟩⟩
  rw [q5 J2 lq2, (a2.2.2.2.1 rc (by omega)).1.1, (lq2.2 1000511 rc (by omega)).trans g1]
  refine z_out a2 hv (show (pk (OI I v) t n2).2 < 201 by omega) (fun J3 H5 a3 _ lq3 lf3 => k_L_runs_156 ⟨by decide, z_peak a3.1 (by omega) (k_L_runs_162 (fun y ey => ?_))⟩)
  have ey2 : y = 1 := by
    rw [ey, lq2.oi, eoJ, lf3 _ _ (by omega), lf2 _ _ (by omega), h514, ← pv.1, if_pos rfl]
  rw [ey2]
  exact ⟨Or.inr rfl, q J3 H5 a3⟩
end LRN
