/-! own: sirens sounded, the alarm, both sides -/
set_option maxRecDepth 100000
/-- whether a siren may be sounded -/
def May (I : Nat → Nat → Int32) (F : Nat → Nat → UInt32) (d r sc : Nat) : Prop := sc < 60 ∧ (∀ x, x < sc → ¬ (I (438 + x) 0 = nI d ∧ I (438 + x) 4 = 0)) ∧ I (423 + 5 * d) 8 ≠ 0 ∧ f_X9_isGoodFor (nI r) (423 + 5 * d) I ≠ 0 ∧ ¬ Op.cmpValue (FP.fcmp (F (383 + r) 3) (FP.i2f (I (423 + 5 * d) 10))) .l < 0
section OS
variable {X : Nat × (Nat → Int32)} {I J : Nat → Nat → Int32} {L M : Nat → Nat → Int64} {F H : Nat → Nat → UInt32} {Q : AQ} {N T rc sc t n n2 d c r b : Nat} {s : AS} {p0 p1 p2 p3 : Int32}
theorem sp_ms32 (hd : d < 3) (hr : r < 40) (h60 : sc < 60) (e8 : I 0 8 = nI sc) (q1 : May I F d r sc → Q (.inl (some (.int 1))) (G X I L F)) (q0 : ¬ May I F d r sc → Q (.inl (some (.int 0))) (G X I L F)) : ∀ (m j : Nat), j + m = sc → (∀ x, x < j → ¬ (I (438 + x) 0 = nI d ∧ I (438 + x) 4 = 0)) →
    WP mX9_maySound 32 [some (.ref 0), some (.int (nI d)), some (.int (nI r)), some (.int (nI j))] [] (G X I L F) 0 0 Q
  | 0, j, hj, h => by
    have e : j = sc := by omega
    subst e
    refine k_X9_maySound_32 ⟨fun _ => ⟨nI_in hd (by decide), fun _ _ => ⟨nI_in hr (by decide), trivial⟩, fun y ey => ?_⟩, fun a => absurd (by rw [e8]; exact (nI_leI (by omega) (by omega)).mpr (Nat.le_refl _)) a⟩
    rw [nI_clamp (show d < 2 ^ 31 by omega), nI_clamp (show r < 2 ^ 31 by omega)] at ey
    by_cases c1 : I (423 + 5 * d) 8 = 0
    · rw [if_pos c1] at ey
      rw [ey]; exact ⟨Or.inl rfl, q0 (fun z => z.2.2.1 c1)⟩
    · rw [if_neg c1] at ey
      by_cases c2 : f_X9_isGoodFor (nI r) (423 + 5 * d) I = 0
      · rw [if_pos c2] at ey
        rw [ey]; exact ⟨Or.inl rfl, q0 (fun z => z.2.2.2.1 c2)⟩
      · rw [if_neg c2] at ey
        by_cases c3 : Op.cmpValue (FP.fcmp (F (383 + r) 3) (FP.i2f (I (423 + 5 * d) 10))) .l < 0
        · rw [if_pos c3] at ey
          rw [ey]; exact ⟨Or.inl rfl, q0 (fun z => z.2.2.2.2 c3)⟩
        · rw [if_neg c3] at ey
          rw [ey]; exact ⟨Or.inr rfl, q1 ⟨h60, h, c1, c2, c3⟩⟩
  | m + 1, j, hj, h => by
    refine k_X9_maySound_32 ⟨fun a => absurd ((nI_leI (a := sc) (b := j) (by omega) (by omega)).mp (by rw [← e8]; exact a)) (by omega), fun _ => ⟨nI_in (by omega) (by decide), ?_⟩⟩
    rw [nI_clamp (show j < 2 ^ 31 by omega), nI_1]
    have nx : ¬ (I (438 + j) 0 = nI d ∧ I (438 + j) 4 = 0) → WP mX9_maySound 32 [some (.ref 0), some (.int (nI d)), some (.int (nI r)), some (.int (nI (j + 1)))] [] (G X I L F) 0 0 Q := fun z => sp_ms32 hd hr h60 e8 q1 q0 m (j + 1) (by omega) (fun x hx => by
      by_cases xj : x = j
      · rw [xj]; exact z
      · exact h x (by omega))
    exact ⟨fun a => ⟨nI_in (by omega) (by decide), fun b => q0 (fun z => z.2.1 j (by omega) ⟨a, b⟩), fun b => nx (fun z => b z.2)⟩, fun a => nx (fun z => a z.1)⟩
theorem sp_rng4 (h60 : sc ≤ 60) (e39 : I 498 39 = nI sc) (q : ∀ b : Bool, (b = true ↔ ∃ x, x < sc ∧ I 532 x = nI d ∧ I 535 x = 0) → Q (.inl (some (.int (if b = true then 1 else 0)))) (G X I L F)) : ∀ (m j : Nat) (b : Bool), j + m = sc → (b = true ↔ ∃ x, x < j ∧ I 532 x = nI d ∧ I 535 x = 0) →
    WP mX10_rings 4 [some (.ref 498), some (.int (nI d)), some (.int (if b = true then 1 else 0)), some (.int (nI j))] [] (G X I L F) 0 0 Q
  | 0, j, b, hj, h => by
    have e : j = sc := by omega
    subst e
    refine k_X10_rings_4 ⟨fun _ => ⟨?_, q b h⟩, fun a => absurd (by rw [e39]; exact (nI_leI (by omega) (by omega)).mpr (Nat.le_refl _)) a⟩
    cases b
    · exact Or.inl rfl
    · exact Or.inr rfl
  | m + 1, j, b, hj, h => by
    have hin : vp_in (nI j) 60 := nI_in (by omega) (by decide)
    refine k_X10_rings_4 ⟨fun a => absurd ((nI_leI (a := sc) (b := j) (by omega) (by omega)).mp (by rw [← e39]; exact a)) (by omega), fun _ => ⟨fun _ => ⟨hin, fun _ => ⟨hin, trivial⟩⟩, fun y ey => ?_⟩⟩
    rw [nI_clamp (show j < 2 ^ 31 by omega)] at ey
    have ey2 : y = if (b || (decide (I 532 j = nI d) && decide (I 535 j = 0))) = true then 1 else 0 := by
      rw [ey]
      cases b
      · rw [if_pos (show (if false = true then (1 : Int32) else 0) = 0 from rfl)]
        by_cases c1 : I 532 j = nI d
        · rw [if_pos c1]
          by_cases c2 : I 535 j = 0
          · rw [if_pos c2, if_pos (by rw [Bool.false_or, decide_eq_true c1, decide_eq_true c2]; rfl)]
          · rw [if_neg c2, if_neg (by rw [Bool.false_or, decide_eq_true c1, decide_eq_false c2]; decide)]
        · rw [if_neg c1, if_neg (by rw [Bool.false_or, decide_eq_false c1, Bool.false_and]; decide)]
      · rw [if_neg (show ¬ (if true = true then (1 : Int32) else 0) = 0 by decide), if_pos (Bool.true_or _)]
    rw [ey2, nI_1]
    refine sp_rng4 h60 e39 q m (j + 1) _ (by omega) ?_
    rw [Bool.or_eq_true, Bool.and_eq_true, decide_eq_true_iff, decide_eq_true_iff, h]
    constructor
    · rintro (⟨x, hx, a⟩ | a)
      · exact ⟨x, by omega, a⟩
      · exact ⟨j, by omega, a⟩
    · rintro ⟨x, hx, a⟩
      by_cases xj : x = j
      · rw [xj] at a; exact Or.inr a
      · exact Or.inl ⟨x, by omega, a⟩
theorem good_eq (h7 : J 0 7 = I 0 7) (h9 : J 9 4 = I 9 4) (h14 : ∀ k, J 14 k = I 14 k) (hv : ∀ v, v < 60 → J (19 + 6 * v) 3 = I (19 + 6 * v) 3) (h0 : J (383 + r) 0 = I (383 + r) 0) (h5 : J (383 + r) 5 = I (383 + r) 5) (h3 : J (423 + 5 * d) 3 = I (423 + 5 * d) 3) (hr : r < 2 ^ 31) : f_X9_isGoodFor (nI r) (423 + 5 * d) J = f_X9_isGoodFor (nI r) (423 + 5 * d) I := by
  have rs := rs_eq (r := r) (J := J) (I := I) h7 h9 h14 hv h0 h5 hr
  unfold f_X9_isGoodFor f_X6_modelOf
  have hs : ∀ y, f_X6_has y J = f_X6_has y I := fun y => by unfold f_X6_has; rw [h9]
  rw [rs.1, rs.2, hs, nI_clamp hr, h0, h3]
  by_cases hh : f_X6_has (I (383 + r) 0) I = 0
  · rw [if_pos hh, if_pos hh]
  · rw [hv _ (vp_lt (gd_X6_has hh))]
/-- one siren more -/
theorem InvS.sire (z : InvS s T rc sc t n N I L F) (h60 : sc < 60) (h : ∀ o k, ¬ (o = 0 ∧ k = 8) → o ≠ 438 + sc → ¬ (532 ≤ o ∧ o ≤ 536 ∧ k = sc) → ¬ (o = 498 ∧ (k = 0 ∨ k = 39)) → J o k = I o k) (e8 : J 0 8 = nI (sc + 1)) (e39 : J 498 39 = nI (sc + 1)) (s1 : Sir1 J rc sc) (s2 : J (438 + sc) 4 = J 535 sc) : InvS s T rc (sc + 1) t n N J L F := by
  obtain ⟨v, dr, nw, rr, ⟨tl, hT⟩, da, si⟩ := z
  refine ⟨v.same (fun o k a b c => h o k (by omega) (by omega) (by omega) (by omega)) (h _ _ (by omega) (by omega) (by omega) (by omega)) (fun o a b _ _ _ => funext fun k => h o k (by omega) (by omega) (by omega) (by omega)) (fun _ _ _ _ _ => rfl) rfl, dr.fr (fun k => h _ _ (by omega) (by omega) (by omega) (by omega)) (fun k => h _ _ (by omega) (by omega) (by omega) (by omega)) (h _ _ (by omega) (by omega) (by omega) (by omega)) (fun k => h _ _ (by omega) (by omega) (by omega) (by omega)), nw.fr (h _ _ (by omega) (by omega) (by omega) (by omega)) (h _ _ (by omega) (by omega) (by omega) (by omega)), rr.fr (h _ _ (by omega) (by omega) (by omega) (by omega)) (h _ _ (by omega) (by omega) (by omega) (by omega)) (fun o k a b => h o k (by omega) (by omega) (by omega) (by omega)) (fun o x => funext fun k => h o k (by omega) (by omega) (by omega) (by omega)) (fun _ _ _ _ => rfl) rfl, ⟨tl.fr (h _ _ (by omega) (by omega) (by omega) (by omega)) (funext fun k => h _ k (by omega) (by omega) (by omega) (by omega)), hT⟩, da.fr (fun o k a b => h o k (by omega) (by omega) (by omega) (by omega)) (fun o k a b => h o k (by omega) (by omega) (by omega) (by omega)) (fun _ _ _ _ => rfl) (fun _ _ _ => rfl) (Nat.le_refl _), by omega, e8, e39, fun x hx => ?_⟩
  by_cases xs : x = sc
  · rw [xs]; exact ⟨s1, s2⟩
  · obtain ⟨a, b⟩ := si.2.2.2 x (by omega)
    refine ⟨a.fr (fun k _ => h _ k (by omega) (by omega) (by omega) (by omega)) (fun o x1 x2 _ => h o x (by omega) (by omega) (by omega) (by omega)) (Nat.le_refl _), ?_⟩
    rw [h _ 4 (by omega) (by omega) (by omega) (by omega), h 535 x (by omega) (by omega) (by omega) (by omega)]
    exact b
theorem op_sound (iv : Inv N I L F) : OpV X (N + 1) plD (fun Q => WP mX9_sound 0 (am_ent 5 [.ref 0, .int p0, .int p1]) [] (G X I L F) 0 0 Q) mX10_sound (am_ent 5 [.ref 498, .int p0, .int p1]) := by
  intro Q qv qe
  obtain ⟨s, T, rc, sc, t, n, iv⟩ := iv
  have da := iv.2.2.2.2.2.1
  have rr := iv.2.2.2.1
  have h40 := rr.1
  obtain ⟨s60, e8, e39, ss⟩ := iv.2.2.2.2.2.2
  by_cases i : InN p0 3 ∧ InN p1 rc
  · obtain ⟨i, j⟩ := i
    obtain ⟨d, hd, e⟩ := i
    obtain ⟨r, hr, e2⟩ := j
    subst e e2
    have i : InN (nI d) 3 := ⟨d, hd, rfl⟩
    have j : InN (nI r) rc := ⟨r, hr, rfl⟩
    have hin : vp_in (nI d) 3 := nI_in hd (by decide)
    have hir : vp_in (nI r) 40 := nI_in (by omega) (by decide)
    have cd : (nI d).toNatClampNeg = d := nI_clamp (by omega)
    have cr : (nI r).toNatClampNeg = r := nI_clamp (by omega)
    have csc : (nI sc).toNatClampNeg = sc := nI_clamp (by omega)
    obtain ⟨⟨z1, z2, z3, z4, z5, z6, z7, z8, z9, z10, z11⟩, ⟨_, d12, _⟩, _, _, tr, _⟩ := da d hd
    obtain ⟨v, a, b, _, _, _, _, _, _, _, _, _, pe, pk1, _⟩ := rr.2.2.2 r hr
    -- the model, where the siren may not be sounded
    have md : ¬ May I F d r sc → AnsE X (N + 1) mX10_sound (am_ent 5 [.ref 498, .int (nI d), .int (nI r)]) 2 I L F := fun nm Q2 q => by
      have qq : Q2 (.inl (some (.int 0))) (G X (fI_X10_holds 2 I) L F) := q _ _ _ iv.thr.inv am_u_eq
      have h2 : ¬ ¬ f_X10_holds 2 = 0 := fun z => z (hol_0 (by decide))
      refine k_X10_sound_0 (fun y ey => ?_)
      rw [d10_1 i, if_neg n10, r10_1 h40 rr.2.2.1 j, if_neg n10] at ey
      subst ey
      rw [cd]
      refine ⟨fun z => absurd z n10, fun _ => ⟨hin, fun _ => ⟨fun _ => qq, fun z => absurd z h2⟩, fun c1 => ?_⟩⟩
      obtain ⟨mo, cap, hmo, hcap, m1, m2, _⟩ := z2 (z8 c1)
      refine sp_isForSame iv.1.1.1 iv.1.1.2.2.1 iv.1.1.2.2.2 rr hr hd (m1.trans m2.symm) (k_X10_sound_40 ⟨fun _ y ey => ?_, fun c2 => ⟨hir, hin, ?_⟩⟩)
      · rw [if_neg n10] at ey
        subst ey
        exact ⟨fun _ => qq, fun z => absurd z h2⟩
      · rw [cd, cr]
        refine ⟨fun _ y ey => ?_, fun c3 => k_X10_rings_0 (sp_rng4 s60 e39 (fun bb hb => k_X10_sound_65 (fun y ey w ew => ?_)) sc 0 false (Nat.zero_add _) ⟨fun z => (by cases z), fun ⟨x, hx, _⟩ => absurd hx (by omega)⟩)⟩
        · rw [if_neg n10] at ey
          subst ey
          exact ⟨fun _ => qq, fun z => absurd z h2⟩
        · have ys : y = 0 := by
            rw [ey, e39]
            cases bb
            · rw [if_pos (show (if false = true then (1 : Int32) else 0) = 0 from rfl)]
              by_cases c4 : sc < 60
              · refine absurd ⟨c4, fun x hx z => ?_, by rw [z7]; exact c1, c2, by rw [pe, z10]; exact c3⟩ nm
                obtain ⟨⟨dd, r2, _, _, x0, x1, _⟩, x4⟩ := ss x hx
                have := hb.mpr ⟨x, hx, by rw [x1, ← x0]; exact z.1, by rw [← x4]; exact z.2⟩
                cases this
              · rw [if_pos (show (60 : Int32) ≤ nI sc from (nI_leI (a := 60) (by decide) (by omega)).mpr (by omega))]
            · rw [if_neg (show ¬ (if true = true then (1 : Int32) else 0) = 0 by decide)]
          rw [if_neg n10, if_pos ys] at ew
          subst ew
          exact ⟨fun _ => qq, fun z => absurd z h2⟩
    refine k_X9_sound_0 ⟨fun a => absurd a (by rw [d9_1 i]; exact n10), fun _ => ⟨fun a => absurd a (by rw [r9_1 h40 rr.2.1 j]; exact n10), fun _ => ?_⟩⟩
    refine k_X9_maySound_0 ⟨fun a => absurd a (by rw [d9_1 i]; exact n10), fun _ => ⟨fun a => absurd a (by rw [r9_1 h40 rr.2.1 j]; exact n10), fun _ => ⟨fun lt => ?_, fun lt => k_X9_sound_32 ⟨fun _ => qe 2 _ _ _ (by decide) (md (fun z => lt ?_)), fun z => absurd rfl z⟩⟩⟩⟩
    · rw [e8] at lt
      have l60 : sc < 60 := (nI_ltI (b := 60) (by omega) (by decide)).mp lt
      refine sp_ms32 hd (by omega) l60 e8 (fun mm => k_X9_sound_32 ⟨fun z => absurd z n10, fun _ => ⟨hin, ?_⟩⟩) (fun nm => k_X9_sound_32 ⟨fun _ => qe 2 _ _ _ (by decide) (md nm), fun z => absurd rfl z⟩) sc 0 (Nat.zero_add _) (fun x hx => absurd hx (by omega))
      rw [e8, csc, cd, nI_1, d12, show nI (sc + 1) - 1 = nI sc by rw [← nI_1, Int32.add_sub_cancel]]
      have g9 : am_u (am_u (am_u I (438 + sc) 0 (nI d)) (438 + sc) 1 (nI r)) (438 + sc) 2 (I 0 9) (423 + 5 * d) 9 = I 527 d := by
        rw [am_u_ne (by omega), am_u_ne (by omega), am_u_ne (by omega)]; exact z9
      rw [g9]
      have nv : vf_n32 (FP.fmul (FP.i2f (I 527 d)) (F 530 d)) := nn_vf.mpr (nn_mul (fin_i2f _) tr.1)
      refine ⟨nI_in (by omega) (by decide), nv, ?_⟩
      generalize hJ : am_u (am_u (am_u (am_u (am_u (am_u I (438 + sc) 0 (nI d)) (438 + sc) 1 (nI r)) (438 + sc) 2 (I 0 9)) (438 + sc) 3 (FP.f2i (FP.fmul (FP.i2f (I 527 d)) (F 530 d)))) (438 + sc) 4 0) 0 8 (nI (sc + 1)) = J
      have hi : ∀ o k, ¬ (o = 0 ∧ k = 8) → o ≠ 438 + sc → J o k = I o k := fun o k a b => by
        rw [← hJ, am_u_ne (by omega), am_u_ne (by omega), am_u_ne (by omega), am_u_ne (by omega), am_u_ne (by omega), am_u_ne (by omega)]
      refine qv _ _ _ _ (fun z Q2 q => k_X10_sound_0 (fun y ey => ?_))
      rw [d10_1 i, if_neg n10, r10_1 h40 ((hi 498 17 (by omega) (by omega)).trans rr.2.2.1) j, if_neg n10] at ey
      subst ey
      obtain ⟨mm1, mm2, mm3, mm4, mm5⟩ := mm
      have c1 : I 526 d ≠ 0 := by rw [← z7]; exact mm3
      obtain ⟨mo, cap, hmo, hcap, m1, m2, _⟩ := z2 (z8 c1)
      rw [cd, hi 526 d (by omega) (by omega)]
      have ca2 : CA J L s := iv.1.1.2.2.1.hi (fun o k a b => hi o k (by omega) (by omega)) iv.1.1.1.1
      have ca3 : CA J (am_u L 540 0 z) s := ca2.lo (fun o k _ _ _ => Or.inl rfl) (fun o k a b => am_u_ne (by omega)) (fun _ _ _ _ _ => rfl) iv.1.1.1.1
      have ma2 : MA J s := iv.1.1.2.2.2.fr (hi _ _ (by omega) (by omega)) (fun o a b => funext fun k => hi o k (by omega) (by omega))
      have rr2 : RunR J F (aC s) T rc := rr.fr (hi _ _ (by omega) (by omega)) (hi _ _ (by omega) (by omega)) (fun o k a b => hi o k (by omega) (by omega)) (fun o h => funext fun k => hi o k (by omega) (by omega)) (fun _ _ _ _ => rfl) rfl
      have ge : f_X9_isGoodFor (nI r) (423 + 5 * d) J = f_X9_isGoodFor (nI r) (423 + 5 * d) I := good_eq (hi _ _ (by omega) (by omega)) (hi _ _ (by omega) (by omega)) (fun k => hi _ _ (by omega) (by omega)) (fun v hv => hi _ _ (by omega) (by omega)) (hi _ _ (by omega) (by omega)) (hi _ _ (by omega) (by omega)) (hi _ _ (by omega) (by omega)) (by omega)
      refine ⟨fun z => absurd z n10, fun _ => ⟨hin, fun z => absurd z c1, fun _ => sp_isForSame iv.1.1.1 ca3 ma2 rr2 hr hd (by rw [hi _ _ (by omega) (by omega), hi _ _ (by omega) (by omega)]; exact m1.trans m2.symm) (k_X10_sound_40 ⟨fun z => absurd z (by rw [ge]; exact mm4), fun _ => ⟨hir, hin, ?_⟩⟩)⟩⟩
      rw [cd, cr, hi 528 d (by omega) (by omega), ← pe, ← z10]
      refine ⟨fun z => absurd z mm5, fun _ => k_X10_rings_0 (sp_rng4 s60 ((hi 498 39 (by omega) (by omega)).trans e39) (fun bb hb => k_X10_sound_65 (fun y ey w ew => ?_)) sc 0 false (Nat.zero_add _) ⟨fun z => (by cases z), fun ⟨x, hx, _⟩ => absurd hx (by omega)⟩)⟩
      have bf : bb = false := by
        cases bb
        · rfl
        · obtain ⟨x, hx, y1, y2⟩ := hb.mp rfl
          obtain ⟨⟨dd, r2, _, _, x0, x1, _⟩, x4⟩ := ss x hx
          rw [hi 532 x (by omega) (by omega)] at y1
          rw [hi 535 x (by omega) (by omega)] at y2
          exact absurd ⟨by rw [x0, ← x1]; exact y1, by rw [x4]; exact y2⟩ (mm2 x hx)
      subst bf
      rw [if_pos (show (if false = true then (1 : Int32) else 0) = 0 from rfl), hi 498 39 (by omega) (by omega), e39, if_neg (show ¬ (60 : Int32) ≤ nI sc from fun z => by have := (nI_leI (a := 60) (by decide) (by omega)).mp z; omega)] at ey
      subst ey
      rw [if_neg n10, if_neg n10] at ew
      subst ew
      have g39 : fI_X10_holds 0 J 498 39 = nI sc := (am_u_ne (by omega)).trans ((hi 498 39 (by omega) (by omega)).trans e39)
      have g1 : fI_X10_holds 0 J 498 1 = I 498 1 := (am_u_ne (by omega)).trans (hi 498 1 (by omega) (by omega))
      have g527 : fI_X10_holds 0 J 527 d = I 527 d := (am_u_ne (by omega)).trans (hi 527 d (by omega) (by omega))
      have hs : vp_in (nI sc) 60 := nI_in (by omega) (by decide)
      rw [g39, cd, csc, g527, g1, nI_1, show nI (sc + 1) - 1 = nI sc by rw [← nI_1, Int32.add_sub_cancel]]
      refine ⟨fun z => absurd z (by rw [hol_1]; exact n10), fun _ => ⟨hs, hs, hs, hs, hin, hin, nv, hs, ?_⟩⟩
      unfold fI_X10_holds
      generalize hK : am_u (am_u (am_u (am_u (am_u (am_u (am_u J 498 0 0) 532 sc (nI d)) 533 sc (nI r)) 534 sc (I 498 1)) 535 sc 0) 536 sc (FP.f2i (FP.fmul (FP.i2f (I 527 d)) (F 530 d)))) 498 39 (nI (sc + 1)) = K
      have ki : ∀ o k, ¬ (532 ≤ o ∧ o ≤ 536 ∧ k = sc) → ¬ (o = 498 ∧ (k = 0 ∨ k = 39)) → K o k = J o k := fun o k a b => by
        rw [← hK, am_u_ne (by omega), am_u_ne (by omega), am_u_ne (by omega), am_u_ne (by omega), am_u_ne (by omega), am_u_ne (by omega), am_u_ne (by omega)]
      have t09 : I 0 9 = I 498 1 := iv.2.2.1.2.1.trans iv.2.2.1.2.2.symm
      refine q _ _ (InvS.inv (InvS.sire iv.l540 l60 (fun o k a b c e => (ki o k c e).trans (hi o k a b)) ?_ ?_ ⟨d, r, hd, hr, ?_, ?_, ?_, ?_, ?_, ?_⟩ ?_)) ?_
      · rw [ki _ _ (by omega) (by omega), ← hJ, am_u_eq]
      · rw [← hK, am_u_eq]
      · rw [ki _ _ (by omega) (by omega), ← hJ, am_u_ne (by omega), am_u_ne (by omega), am_u_ne (by omega), am_u_ne (by omega), am_u_ne (by omega), am_u_eq]
      · rw [← hK, am_u_ne (by omega), am_u_ne (by omega), am_u_ne (by omega), am_u_ne (by omega), am_u_ne (by omega), am_u_eq]
      · rw [ki _ _ (by omega) (by omega), ← hJ, am_u_ne (by omega), am_u_ne (by omega), am_u_ne (by omega), am_u_ne (by omega), am_u_eq]
      · rw [← hK, am_u_ne (by omega), am_u_ne (by omega), am_u_ne (by omega), am_u_ne (by omega), am_u_eq]
      · rw [ki _ _ (by omega) (by omega), ← hJ, am_u_ne (by omega), am_u_ne (by omega), am_u_ne (by omega), am_u_eq, ← hK, am_u_ne (by omega), am_u_ne (by omega), am_u_ne (by omega), am_u_eq]
        exact t09
      · rw [ki _ _ (by omega) (by omega), ← hJ, am_u_ne (by omega), am_u_ne (by omega), am_u_eq, ← hK, am_u_ne (by omega), am_u_eq]
      · rw [ki _ _ (by omega) (by omega), ← hJ, am_u_ne (by omega), am_u_eq, ← hK, am_u_ne (by omega), am_u_ne (by omega), am_u_eq]
      · rw [← hK, am_u_ne (by omega), am_u_ne (by omega), am_u_ne (by omega), am_u_ne (by omega), am_u_ne (by omega), am_u_ne (by omega), am_u_eq]
    · rw [e8]
      exact (nI_ltI (b := 60) (by omega) (by decide)).mpr z.1
  · have md : AnsE X (N + 1) mX10_sound (am_ent 5 [.ref 498, .int p0, .int p1]) 1 I L F := fun Q2 q => k_X10_sound_0 (fun y ey => by
      have e0 : y = 0 := by
        rw [ey]
        by_cases a : InN p0 3
        · rw [d10_1 a, if_neg n10, r10_0 h40 rr.2.2.1 (fun b => i ⟨a, b⟩), if_pos rfl]
        · rw [d10_0 a, if_pos rfl]
      exact ⟨fun _ => ⟨fun _ => q _ _ _ iv.thr.inv am_u_eq, fun a => absurd (hol_0 (by decide)) a⟩, fun a => absurd e0 a⟩)
    refine k_X9_sound_0 ⟨fun _ => qe 0 _ _ _ (by decide) md, fun a => ⟨fun _ => qe 0 _ _ _ (by decide) md, fun b => absurd ⟨?_, ?_⟩ i⟩⟩
    · exact Classical.byContradiction fun h => a (d9_0 h)
    · exact Classical.byContradiction fun h => b (r9_0 h40 rr.2.1 h)
end OS
