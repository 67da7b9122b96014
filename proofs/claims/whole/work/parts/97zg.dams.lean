/-! own: dams and valleys told, both sides -/
set_option maxRecDepth 100000
section OD
variable {X : Nat × (Nat → Int32)} {I J : Nat → Nat → Int32} {L M : Nat → Nat → Int64} {F H : Nat → Nat → UInt32} {Q : AQ} {N T rc sc t n n2 d c : Nat} {s : AS} {p0 p1 p2 p3 : Int32}
theorem op_goBy (iv : Inv N I L F) : OpN X (N + 1) plD (fun Q => WP mX9_goBy 0 (am_ent 4 [.ref 0, .int p0, .int p1]) [] (G X I L F) 0 0 Q) mX10_goBy (am_ent 4 [.ref 498, .int p0, .int p1]) := by
  intro Q qv qe
  obtain ⟨s, T, rc, sc, t, n, iv⟩ := iv
  have da := iv.2.2.2.2.2.1
  have rr := iv.2.2.2.1
  have h40 := rr.1
  by_cases i : InN p0 3 ∧ InN p1 rc
  · obtain ⟨i, j⟩ := i
    obtain ⟨d, hd, e⟩ := i
    obtain ⟨r, hr, e2⟩ := j
    subst e e2
    have i : InN (nI d) 3 := ⟨d, hd, rfl⟩
    have j : InN (nI r) rc := ⟨r, hr, rfl⟩
    have hin : vp_in (nI d) 3 := nI_in hd (by decide)
    have cd : (nI d).toNatClampNeg = d := nI_clamp (by omega)
    obtain ⟨z1, z2, z3, z4, z5, z6, z7, z8, z9, z10, z11⟩ := (da d hd).1
    have are : (if (f_X10_isDam (nI d)) = 0 then (0 : Int32) else (if (f_X10_isRun (nI r) I) = 0 then 0 else 1)) = 1 := by rw [d10_1 i, if_neg n10, r10_1 h40 rr.2.2.1 j, if_neg n10]
    refine k_X9_goBy_0 ⟨fun a => absurd a (by rw [d9_1 i]; exact n10), fun _ => ⟨fun a => absurd a (by rw [r9_1 h40 rr.2.1 j]; exact n10), fun _ => ?_⟩⟩
    rw [cd, z1]
    refine ⟨fun b => qe 2 _ _ _ (by decide) (fun Q2 q => k_X10_goBy_0 (fun y ey => ?_)), fun b => ?_⟩
    · rw [are] at ey
      subst ey
      rw [cd]
      refine ⟨fun a => absurd a n10, fun _ => ⟨hin, fun _ => ⟨fun _ => ⟨hin, trivial⟩, fun K eK => ?_⟩, fun a => absurd b a⟩⟩
      rw [hol_0 (by decide), if_pos rfl] at eK
      rw [eK]
      exact q _ _ iv.thr.inv am_u_eq
    · obtain ⟨mo, cap, hmo, hcap, m1, m2, c1, c2⟩ := z2 b
      refine ⟨fun g => qe 2 _ _ _ (by decide) (fun Q2 q => k_X10_goBy_0 (fun y ey => ?_)), fun g => qv _ _ _ (fun Q2 q => k_X10_goBy_0 (fun y ey => ?_))⟩
      · rw [are] at ey
        subst ey
        rw [cd]
        refine ⟨fun a => absurd a n10, fun _ => ⟨hin, fun a => absurd a b, fun _ => sp_isForSame iv.1.1.1 iv.1.1.2.2.1 iv.1.1.2.2.2 rr hr hd (m1.trans m2.symm) (k_X10_goBy_45 (fun w ew => ⟨fun _ => ⟨hin, trivial⟩, fun K eK => ?_⟩))⟩⟩
        rw [g, if_pos rfl] at ew
        rw [ew, hol_0 (by decide), if_pos rfl] at eK
        rw [eK]
        exact q _ _ iv.thr.inv am_u_eq
      · generalize hJ : am_u I (423 + 5 * d) 7 (nI r) = J at ey ⊢
        have hi : ∀ o k, ¬ (o = 423 + 5 * d ∧ k = 7) → J o k = I o k := fun o k a => by rw [← hJ, am_u_ne (by omega)]
        have are2 : (if (f_X10_isDam (nI d)) = 0 then (0 : Int32) else (if (f_X10_isRun (nI r) J) = 0 then 0 else 1)) = 1 := by
          rw [d10_1 i, if_neg n10, r10_1 (I := J) h40 ((hi 498 17 (by omega)).trans rr.2.2.1) j, if_neg n10]
        rw [are2] at ey
        subst ey
        rw [cd, hi 517 d (by omega)]
        have ca2 : CA J L s := iv.1.1.2.2.1.hi (fun o k a b => hi o k (by omega)) iv.1.1.1.1
        have ma2 : MA J s := iv.1.1.2.2.2.fr (hi _ _ (by omega)) (fun o a b => funext fun k => hi o k (by omega))
        have rr2 : RunR J F (aC s) T rc := rr.fr (hi _ _ (by omega)) (hi _ _ (by omega)) (fun o k a b => hi o k (by omega)) (fun o h => funext fun k => hi o k (by omega)) (fun _ _ _ _ => rfl) rfl
        have ge : f_X9_isGoodFor (nI r) (423 + 5 * d) J = f_X9_isGoodFor (nI r) (423 + 5 * d) I := by
          have rs := rs_eq (r := r) (J := J) (I := I) (hi _ _ (by omega)) (hi _ _ (by omega)) (fun k => hi _ _ (by omega)) (fun v hv => hi _ _ (by omega)) (hi _ _ (by omega)) (hi _ _ (by omega)) (by omega)
          unfold f_X9_isGoodFor f_X6_modelOf
          have hs : ∀ y, f_X6_has y J = f_X6_has y I := fun y => by unfold f_X6_has; rw [hi 9 4 (by omega)]
          rw [rs.1, rs.2, hs, nI_clamp (show r < 2 ^ 31 by omega), hi (383 + r) 0 (by omega), hi (423 + 5 * d) 3 (by omega)]
          by_cases hh : f_X6_has (I (383 + r) 0) I = 0
          · rw [if_pos hh, if_pos hh]
          · have lt := vp_lt (gd_X6_has hh)
            rw [hi (19 + 6 * (I (383 + r) 0).toNatClampNeg) 3 (by omega)]
        refine ⟨fun a => absurd a n10, fun _ => ⟨hin, fun a => absurd a b, fun _ => sp_isForSame iv.1.1.1 ca2 ma2 rr2 hr hd (by rw [hi _ _ (by omega), hi _ _ (by omega)]; exact m1.trans m2.symm) (k_X10_goBy_45 (fun w ew => ⟨fun _ => ⟨hin, trivial⟩, fun K eK => ?_⟩))⟩⟩
        rw [ge, if_neg g] at ew
        rw [ew, hol_1, if_neg n10, cd] at eK
        rw [eK]
        unfold fI_X10_holds
        refine q _ _ (InvS.inv (InvS.damc iv hd (fun o k a b c e g h => ?_) ?_ ?_)) ?_
        · rw [am_u_ne (by omega), am_u_ne (by omega), hi o k (by omega)]
        · rw [am_u_ne (by omega), am_u_ne (by omega), hi _ _ (by omega)]
        · generalize hK : am_u (am_u J 498 0 0) 524 d (nI r) = K
          have k0 : ∀ k, k ≠ 7 → K (423 + 5 * d) k = I (423 + 5 * d) k := fun k a => by
            rw [← hK, am_u_ne (by omega), am_u_ne (by omega), hi _ _ (by omega)]
          have kr : ∀ o k, 423 + 5 * d < o → o ≠ 498 → o ≠ 524 → K o k = I o k := fun o k a b c => by
            rw [← hK, am_u_ne (by omega), am_u_ne (by omega), hi _ _ (by omega)]
          have r523 : K 523 = I 523 := funext fun k => kr 523 k (by omega) (by decide) (by decide)
          have kk : ∀ o, 517 ≤ o → o ≠ 524 → K o d = I o d := fun o h h2 => kr o d (by omega) (by omega) h2
          have k7 : K (423 + 5 * d) 7 = nI r := by rw [← hK, am_u_ne (by omega), am_u_ne (by omega), ← hJ, am_u_eq]
          have k524 : K 524 d = nI r := by rw [← hK, am_u_eq]
          refine ⟨?_, fun _ => ⟨mo, cap, hmo, hcap, ?_, ?_, ?_, ?_⟩, ?_, ?_, k7.trans k524.symm, Or.inr ⟨r, hr, k524⟩, ?_, ?_, ?_, ?_, ?_⟩
          · rw [k0 2 (by decide), kk 517 (by decide) (by decide)]; exact z1
          · rw [k0 3 (by decide)]; exact m1
          · rw [kk 518 (by decide) (by decide)]; exact m2
          · rw [k0 4 (by decide)]; exact c1
          · rw [kk 519 (by decide) (by decide)]; exact c2
          · rw [k0 6 (by decide), kk 521 (by decide) (by decide)]; exact z3
          · rw [kk 521 (by decide) (by decide), kk 522 (by decide) (by decide), r523]
            intro nz
            obtain ⟨l, y1, y2, y3, y4⟩ := z4 nz
            exact ⟨l, y1, y2, y3, FC_fr (fun x y h => kr x y (by omega) (by omega) (by omega)) y4⟩
          · rw [k0 8 (by decide), kk 526 (by decide) (by decide)]; exact z7
          · rw [kk 526 (by decide) (by decide), kk 517 (by decide) (by decide)]; exact z8
          · rw [k0 9 (by decide), kk 527 (by decide) (by decide)]; exact z9
          · rw [k0 10 (by decide), kk 528 (by decide) (by decide)]; exact z10
          · rw [k0 11 (by decide), kk 529 (by decide) (by decide)]; exact z11
        · rw [am_u_ne (by omega), am_u_eq]; rfl
  · have md : AnsN X (N + 1) mX10_goBy (am_ent 4 [.ref 498, .int p0, .int p1]) 1 I L F := fun Q2 q => k_X10_goBy_0 (fun y ey => by
      have e0 : y = 0 := by
        rw [ey]
        by_cases a : InN p0 3
        · rw [d10_1 a, if_neg n10, r10_0 h40 rr.2.2.1 (fun b => i ⟨a, b⟩), if_pos rfl]
        · rw [d10_0 a, if_pos rfl]
      refine ⟨fun _ => ⟨fun a => absurd (hol_0 (by decide)) a, fun K eK => ?_⟩, fun a => absurd e0 a⟩
      rw [hol_0 (by decide), if_pos rfl] at eK
      rw [eK]
      exact q _ _ iv.thr.inv am_u_eq)
    refine k_X9_goBy_0 ⟨fun _ => qe 0 _ _ _ (by decide) md, fun a => ⟨fun _ => qe 0 _ _ _ (by decide) md, fun b => absurd ⟨?_, ?_⟩ i⟩⟩
    · exact Classical.byContradiction fun h => a (d9_0 h)
    · exact Classical.byContradiction fun h => b (r9_0 h40 rr.2.1 h)
theorem op_valley (iv : Inv N I L F) : OpN X (N + 1) plC (fun Q => WP mX9_valley 0 (am_ent 6 [.ref 0, .int p0, .int p1, .int p2, .int p3]) [] (G X I L F) 0 0 Q) mX10_valley (am_ent 7 [.ref 498, .int p0, .int p1, .int p2, .int p3]) := by
  intro Q qv qe
  obtain ⟨s, T, rc, sc, t, n, iv⟩ := iv
  have da := iv.2.2.2.2.2.1
  have mE : ∀ e, nI e ≠ 0 → (if (f_X10_isDam p0) = 0 then (1 : Int32) else (if (if (f_X10_isIn p1 0 10000) = 0 then (0 : Int32) else (if (f_X10_isIn p2 1 100000) = 0 then 0 else (if (f_X10_isIn p3 0 12) = 0 then 0 else 1))) = 0 then 2 else (if (I 517 (Int32.toNatClampNeg p0)) = 0 then 3 else 0))) = nI e → AnsN X (N + 1) mX10_valley (am_ent 7 [.ref 498, .int p0, .int p1, .int p2, .int p3]) e I L F := fun e ne pe Q2 q => by
    refine s_X10_valley ?_ ?_
    · unfold p_X10_valley
      rw [pe, hol_0 ne]
      exact ⟨fun a => absurd rfl a, trivial⟩
    · unfold fI_X10_valley fI_X10_holds
      rw [pe, hol_0 ne, if_pos rfl]
      exact q _ _ iv.thr.inv am_u_eq
  by_cases i : InN p0 3
  · have i2 := i
    obtain ⟨d, hd, e⟩ := i2
    have cd : Int32.toNatClampNeg p0 = d := by rw [e, nI_clamp (by omega)]
    refine k_X9_valley_0 ⟨fun a => absurd a (by rw [d9_1 i]; exact n10), fun _ => ?_⟩
    obtain ⟨z1, z2, z3, z4, z5, z6, z7, z8, z9, z10, z11⟩ := (da d hd).1
    by_cases h : InN p1 10001 ∧ (¬ (p2 < 1 ∨ ¬ p2 ≤ nI 100000)) ∧ InN p3 13
    · obtain ⟨h1, h2, h3⟩ := h
      obtain ⟨cap, q1, q2, ec⟩ := (rng (x := p2) (m := 100000) (by decide)).resolve_left h2
      have are : (if (f_X10_isIn p1 0 10000) = 0 then (0 : Int32) else (if (f_X10_isIn p2 1 100000) = 0 then 0 else (if (f_X10_isIn p3 0 12) = 0 then 0 else 1))) = 1 := by
        rw [show f_X10_isIn p1 0 10000 = 1 from isIn_1 (n := 10000) (by decide) h1, if_neg n10, show f_X10_isIn p2 1 100000 = 1 by rw [ec]; exact isIn1_1 q1 q2 (by decide), if_neg n10, show f_X10_isIn p3 0 12 = 1 from isIn_1 (n := 12) (by decide) h3, if_neg n10]
      obtain ⟨a1, a2⟩ := (inN_le (n := 10000) (by decide)).mpr h1
      obtain ⟨b1, b2⟩ := (inN_le (n := 12) (by decide)).mpr h3
      refine ⟨fun a => absurd a a1, fun _ => ⟨fun a => absurd a2 (Int32.not_le.mpr a), fun _ => ⟨fun a => absurd (Or.inl a) h2, fun _ => ⟨fun a => absurd (Or.inr (Int32.not_le.mpr a)) h2, fun _ => ⟨fun a => absurd a b1, fun _ => ⟨fun _ => ?_, fun a => absurd b2 a⟩⟩⟩⟩⟩⟩
      rw [cd, z1]
      refine ⟨fun b => qe 2 _ _ _ (by decide) (mE 3 (by decide) (by rw [d10_1 i, if_neg n10, are, if_neg n10, cd, if_pos b]; rfl)), fun b => ?_⟩
      generalize hJ : am_u (am_u (am_u (am_u I (423 + 5 * d) 8 1) (423 + 5 * d) 9 p1) (423 + 5 * d) 10 p2) (423 + 5 * d) 11 p3 = J
      refine qv _ _ _ (fun Q2 q => ?_)
      have hi : ∀ o k, ¬ (o = 423 + 5 * d ∧ 8 ≤ k ∧ k ≤ 11) → J o k = I o k := fun o k a => by rw [← hJ, am_u_ne (by omega), am_u_ne (by omega), am_u_ne (by omega), am_u_ne (by omega)]
      have pe : (if (f_X10_isDam p0) = 0 then (1 : Int32) else (if (if (f_X10_isIn p1 0 10000) = 0 then (0 : Int32) else (if (f_X10_isIn p2 1 100000) = 0 then 0 else (if (f_X10_isIn p3 0 12) = 0 then 0 else 1))) = 0 then 2 else (if (J 517 (Int32.toNatClampNeg p0)) = 0 then 3 else 0))) = 0 := by
        rw [d10_1 i, if_neg n10, are, if_neg n10, cd, hi 517 d (by omega), if_neg b]
      have hin : vp_in p0 3 := by rw [e]; exact nI_in hd (by decide)
      refine s_X10_valley ?_ ?_
      · unfold p_X10_valley
        exact ⟨fun _ => ⟨hin, hin, hin, hin, trivial⟩, trivial⟩
      · unfold fI_X10_valley fI_X10_holds
        rw [pe, hol_1, if_neg n10, cd, nar_b]
        refine q _ _ (InvS.inv (InvS.damc iv hd (fun o k a b c e g h => ?_) ?_ ?_)) ?_
        · rw [am_u_ne (by omega), am_u_ne (by omega), am_u_ne (by omega), am_u_ne (by omega), am_u_ne (by omega), hi o k (by omega)]
        · rw [am_u_ne (by omega), am_u_ne (by omega), am_u_ne (by omega), am_u_ne (by omega), am_u_ne (by omega), hi _ _ (by omega)]
        · generalize hK : am_u (am_u (am_u (am_u (am_u J 498 0 0) 526 d 1) 527 d p1) 528 d p2) 529 d p3 = K
          have k0 : ∀ k, ¬ (8 ≤ k ∧ k ≤ 11) → K (423 + 5 * d) k = I (423 + 5 * d) k := fun k a => by
            rw [← hK, am_u_ne (by omega), am_u_ne (by omega), am_u_ne (by omega), am_u_ne (by omega), am_u_ne (by omega), hi _ _ (by omega)]
          have kj : ∀ k, K (423 + 5 * d) k = J (423 + 5 * d) k := fun k => by
            rw [← hK, am_u_ne (by omega), am_u_ne (by omega), am_u_ne (by omega), am_u_ne (by omega), am_u_ne (by omega)]
          have kr : ∀ o k, 423 + 5 * d < o → o ≠ 498 → o ≤ 525 → K o k = I o k := fun o k a b c => by
            rw [← hK, am_u_ne (by omega), am_u_ne (by omega), am_u_ne (by omega), am_u_ne (by omega), am_u_ne (by omega), hi _ _ (by omega)]
          have r523 : K 523 = I 523 := funext fun k => kr 523 k (by omega) (by decide) (by decide)
          have kk : ∀ o, 517 ≤ o → o ≤ 525 → K o d = I o d := fun o h h2 => kr o d (by omega) (by omega) h2
          have k8 : K (423 + 5 * d) 8 = 1 := by rw [kj, ← hJ, am_u_ne (by omega), am_u_ne (by omega), am_u_ne (by omega), am_u_eq]
          have k9 : K (423 + 5 * d) 9 = p1 := by rw [kj, ← hJ, am_u_ne (by omega), am_u_ne (by omega), am_u_eq]
          have k10 : K (423 + 5 * d) 10 = p2 := by rw [kj, ← hJ, am_u_ne (by omega), am_u_eq]
          have k11 : K (423 + 5 * d) 11 = p3 := by rw [kj, ← hJ, am_u_eq]
          have k526 : K 526 d = 1 := by rw [← hK, am_u_ne (by omega), am_u_ne (by omega), am_u_ne (by omega), am_u_eq]
          have k527 : K 527 d = p1 := by rw [← hK, am_u_ne (by omega), am_u_ne (by omega), am_u_eq]
          have k528 : K 528 d = p2 := by rw [← hK, am_u_ne (by omega), am_u_eq]
          have k529 : K 529 d = p3 := by rw [← hK, am_u_eq]
          refine ⟨?_, ?_, ?_, ?_, ?_, ?_, k8.trans k526.symm, fun _ => ?_, k9.trans k527.symm, k10.trans k528.symm, k11.trans k529.symm⟩
          · rw [k0 2 (by omega), kk 517 (by decide) (by decide)]; exact z1
          · rw [k0 3 (by omega), k0 4 (by omega), kk 517 (by decide) (by decide), kk 518 (by decide) (by decide), kk 519 (by decide) (by decide)]; exact z2
          · rw [k0 6 (by omega), kk 521 (by decide) (by decide)]; exact z3
          · rw [kk 521 (by decide) (by decide), kk 522 (by decide) (by decide), r523]
            intro nz
            obtain ⟨l, y1, y2, y3, y4⟩ := z4 nz
            exact ⟨l, y1, y2, y3, FC_fr (fun x y h => kr x y (by omega) (by omega) (by omega)) y4⟩
          · rw [k0 7 (by omega), kk 524 (by decide) (by decide)]; exact z5
          · rw [kk 524 (by decide) (by decide)]; exact z6
          · rw [kk 517 (by decide) (by decide)]; exact b
        · rw [am_u_ne (by omega), am_u_ne (by omega), am_u_ne (by omega), am_u_ne (by omega), am_u_eq]; rfl
    · have er : AnsN X (N + 1) mX10_valley (am_ent 7 [.ref 498, .int p0, .int p1, .int p2, .int p3]) 2 I L F := mE 2 (by decide) (by
        rw [d10_1 i, if_neg n10]
        have z : (if (f_X10_isIn p1 0 10000) = 0 then (0 : Int32) else (if (f_X10_isIn p2 1 100000) = 0 then 0 else (if (f_X10_isIn p3 0 12) = 0 then 0 else 1))) = 0 := by
          by_cases h1 : InN p1 10001
          · rw [show f_X10_isIn p1 0 10000 = 1 from isIn_1 (n := 10000) (by decide) h1, if_neg n10]
            by_cases h2 : p2 < 1 ∨ ¬ p2 ≤ nI 100000
            · rw [show f_X10_isIn p2 1 100000 = 0 from isIn1_0 h2, if_pos rfl]
            · by_cases h3 : InN p3 13
              · exact absurd ⟨h1, h2, h3⟩ h
              · rw [show f_X10_isIn p3 0 12 = 0 from isIn_0 (n := 12) (by decide) h3, if_pos rfl]
                split <;> rfl
          · rw [show f_X10_isIn p1 0 10000 = 0 from isIn_0 (n := 10000) (by decide) h1, if_pos rfl]
        rw [z, if_pos rfl]; rfl)
      have qq := qe 1 _ _ _ (by decide) er
      refine ⟨fun _ => qq, fun a1 => ⟨fun _ => qq, fun a2 => ⟨fun _ => qq, fun b1 => ⟨fun _ => qq, fun b2 => ⟨fun _ => qq, fun c1 => ⟨fun c2 => absurd ⟨?_, ?_, ?_⟩ h, fun _ => qq⟩⟩⟩⟩⟩⟩
      · exact (inN_le (n := 10000) (by decide)).mp ⟨a1, Int32.not_lt.mp a2⟩
      · exact fun z => z.elim b1 (fun w => w (Int32.not_lt.mp b2))
      · exact (inN_le (n := 12) (by decide)).mp ⟨c1, c2⟩
  · exact k_X9_valley_0 ⟨fun _ => qe 0 _ _ _ (by decide) (mE 1 (by decide) (by rw [d10_0 i, if_pos rfl]; rfl)), fun a => absurd (d9_0 i) a⟩
/-- the model takes the rule's letters -/
theorem sp_mr66 {x2 : Int32} {I0 : Nat → Nat → Int32} (hd : d < 3) (h40 : n ≤ 40) (q : ∀ K, (∀ o k, ¬ (o = 523 ∧ 40 * d ≤ k ∧ k < 40 * d + n) → K o k = I0 o k) → (∀ k, k < n → K 523 (40 * d + k) = I0 499 k) → Q (.inl none) (G X K L F)) : ∀ (m j : Nat) (J : Nat → Nat → Int32), j + m = n → I0 498 2 = nI n → (∀ o k, ¬ (o = 523 ∧ 40 * d ≤ k ∧ k < 40 * d + n) → J o k = I0 o k) → (∀ k, k < j → J 523 (40 * d + k) = I0 499 k) →
    WP mX10_rule 66 [some (.ref 498), some (.int (nI d)), some (.int x2), some (.int (nI j))] [] (G X J L F) 0 0 Q
  | 0, j, J, hj, e2, f, g => by
    have e : j = n := by omega
    subst e
    exact k_X10_rule_66 ⟨fun _ => q J f g, fun h => absurd (by rw [f 498 2 (by omega), e2]; exact (nI_leI (by omega) (by omega)).mpr (Nat.le_refl _)) h⟩
  | m + 1, j, J, hj, e2, f, g => by
    have ix : (40 : Int32) * nI d + nI j = nI (40 * d + j) := by rw [show (40 : Int32) = nI 40 from rfl, nI_mul, nI_add]
    refine k_X10_rule_66 ⟨fun h => absurd ((nI_leI (a := n) (b := j) (by omega) (by omega)).mp (by rw [f 498 2 (by omega), e2] at h; exact h)) (by omega), fun _ => ?_⟩
    rw [ix, nI_clamp (show j < 2 ^ 31 by omega), nI_clamp (show 40 * d + j < 2 ^ 31 by omega), nI_1]
    refine ⟨nI_in (by omega) (by decide), nI_in (by omega) (by decide), sp_mr66 hd h40 q m (j + 1) _ (by omega) e2 (fun o k h => ?_) (fun k hk => ?_)⟩
    · rw [am_u_ne (by omega)]; exact f o k h
    · by_cases kj : k = j
      · rw [kj, am_u_eq]; exact f 499 j (by omega)
      · rw [am_u_ne (by omega)]; exact g k (by omega)
theorem op_rule (iv : Inv N I L F) : OpN X (N + 1) plC (fun Q => WP mX9_rule 0 (am_ent 3 [.ref 0, .int p0]) [] (G X I L F) 0 0 Q) mX10_rule (am_ent 4 [.ref 498, .int p0]) := by
  intro Q qv qe
  obtain ⟨s, T, rc, sc, t, n, iv⟩ := iv
  have da := iv.2.2.2.2.2.1
  obtain ⟨n40, d1, d2, dk⟩ := iv.2.1
  by_cases i : InN p0 3
  · obtain ⟨d, hd, e⟩ := i
    subst e
    have i : InN (nI d) 3 := ⟨d, hd, rfl⟩
    have hin : vp_in (nI d) 3 := nI_in hd (by decide)
    have cd : (nI d).toNatClampNeg = d := nI_clamp (by omega)
    refine k_X9_rule_0 ⟨fun a => absurd a (by rw [d9_1 i]; exact n10), fun _ => sp_read d1 n40 (Or.inr rfl) (fun J fr ok => k_X9_rule_30 ?_)⟩
    have iv1 := iv.rd fr
    have da1 := iv1.2.2.2.2.2.1
    have es : ∀ J2 : Nat → Nat → Int32, (∀ k, J2 499 k = I 499 k) → seg (J2 499) 0 n = seg (I 2) 0 n := fun J2 h => seg_cong n 0 0 (fun k hk => by
      rw [Nat.zero_add, h k]
      exact (dk k hk).symm)
    obtain ⟨z1, z2, z3, z4, z5, z6, z7, z8, z9, z10, z11⟩ := (da1 d hd).1
    have dm : f_X10_isDam (nI d) = 1 := d10_1 i
    -- the model, when the class threw
    have mE : ∀ e, (if rFault 1 (seg (I 2) 0 n) = -1 then (if J 517 d = 0 then (3 : Int32) else 0) else 2) = nI e → nI e ≠ 0 → AnsN X (N + 1) mX10_rule (am_ent 4 [.ref 498, .int (nI d)]) e J L F := fun e pe ne Q2 q => by
      refine k_X10_rule_0 ⟨fun a => absurd a (by rw [dm]; exact n10), fun _ => sp_faultOf (n := n) ((fr 498 2 (by omega)).trans d2) n40 (fun K f1 => k_X10_rule_19 ⟨fun _ => ⟨hin, trivial⟩, fun y ey => ?_⟩)⟩
      rw [es J (fun k => fr 499 k (by omega)), ← fault_eq (Or.inr rfl), cd, f1 517 d (by decide), pe] at ey
      subst ey
      refine ⟨fun _ => ?_, fun a => absurd (hol_0 ne) a⟩
      exact q _ _ (iv1.fr1 f1).thr.inv am_u_eq
    refine ⟨fun f0 => ⟨hin, ?_⟩, fun f0 => qe 1 _ _ _ (by decide) (mE 2 (by rw [if_neg f0]; rfl) (by decide))⟩
    rw [cd, z1]
    refine ⟨fun b => qe 2 _ _ _ (by decide) (mE 3 (by rw [if_pos f0, if_pos b]; rfl) (by decide)), fun b => ?_⟩
    have tx : Txt 1 (seg (I 2) 0 n) := (txt_fault (by rw [seg_len]; exact n40)).mp f0
    have fc := (ok f0).fc
    have if4 : isFor (423 + 5 * d + 1) := (gi_damN hd).2.2.2.1
    refine sp_copy if4 isFor_4 (by omega) (fun J2 cp => k_X9_rule_87 (gi_damN hd) (qv _ _ _ (fun Q2 q => ?_)))
    obtain ⟨cp1, ⟨cp2, cp3, cp4⟩, cp5⟩ := cp
    have hi : ∀ o k, ¬ (424 + 5 * d ≤ o ∧ o ≤ 426 + 5 * d) → ¬ (o = 423 + 5 * d ∧ k = 6) → J2 o k = J o k := fun o k a b => by rw [cp5 o k (by omega), am_u_ne (by omega)]
    have hj : ∀ k, am_u J (423 + 5 * d) 6 1 4 k = J 4 k ∧ am_u J (423 + 5 * d) 6 1 5 k = J 5 k ∧ am_u J (423 + 5 * d) 6 1 6 k = J 6 k := fun k => ⟨am_u_ne (by omega), am_u_ne (by omega), am_u_ne (by omega)⟩
    have fc2 : FC J2 (424 + 5 * d) (rForm 1 (seg (I 2) 0 n)) := by
      obtain ⟨y1, y2, y3, y4⟩ := fc
      have ln := tx.len
      refine ⟨?_, ?_, ?_, ?_⟩
      · rw [show 424 + 5 * d = 423 + 5 * d + 1 by omega, cp2, (hj 2).1]; exact y1
      · rw [show 424 + 5 * d + 1 = 423 + 5 * d + 1 + 1 by omega, show 424 + 5 * d + 2 = 423 + 5 * d + 1 + 2 by omega]
        have : ∀ (l : FM), l.length ≤ 40 → StkP J 5 6 l → StkP J2 (423 + 5 * d + 1 + 1) (423 + 5 * d + 1 + 2) l := by
          intro l
          induction l with
          | nil => exact fun _ _ => trivial
          | cons p l ih =>
            intro hl ⟨s1, s2, s3⟩
            have hl2 : l.length + 1 ≤ 40 := hl
            obtain ⟨c1, c2⟩ := cp1 l.length (by omega)
            exact ⟨c1.trans ((hj _).2.1.trans s1), c2.trans ((hj _).2.2.trans s2), ih (by omega) s3⟩
        exact this _ ln y2
      · rw [show 424 + 5 * d = 423 + 5 * d + 1 by omega, cp3, (hj 3).1]; exact y3
      · rw [show 424 + 5 * d = 423 + 5 * d + 1 by omega, cp4, (hj 4).1]; exact y4
    refine k_X10_rule_0 ⟨fun a => absurd a (by rw [dm]; exact n10), fun _ => sp_faultOf (n := n) ((hi 498 2 (by omega) (by omega)).trans ((fr 498 2 (by omega)).trans d2)) n40 (fun K f1 => k_X10_rule_19 ⟨fun _ => ⟨hin, trivial⟩, fun y ey => ?_⟩)⟩
    have j499 : ∀ k, J2 499 k = I 499 k := fun k => (hi 499 k (by omega) (by omega)).trans (fr 499 k (by omega))
    rw [es J2 j499, ← fault_eq (Or.inr rfl), if_pos f0, cd, f1 517 d (by decide), hi 517 d (by omega) (by omega), if_neg b] at ey
    subst ey
    refine ⟨fun a => absurd a (by rw [hol_1]; exact n10), fun _ => ⟨hin, hin, ?_⟩⟩
    unfold fI_X10_holds
    rw [cd, nar_b]
    have k2 : am_u K 498 0 0 498 2 = nI n := by rw [am_u_ne (by omega), f1 498 2 (by decide), hi 498 2 (by omega) (by omega), fr 498 2 (by omega)]; exact d2
    rw [k2]
    generalize hK : am_u (am_u (am_u K 498 0 0) 521 d 1) 522 d (nI n) = K2
    have ki : ∀ o k, o ≠ 500 → ¬ (o = 498 ∧ k = 0) → ¬ ((o = 521 ∨ o = 522) ∧ k = d) → K2 o k = J2 o k := fun o k a b c => by
      rw [← hK, am_u_ne (by omega), am_u_ne (by omega), am_u_ne (by omega)]; exact f1 o k a
    refine sp_mr66 hd n40 (fun K3 f3 g3 => ?_) n 0 K2 (Nat.zero_add n) ?_ (fun _ _ _ => rfl) (fun k hk => absurd hk (by omega))
    · have all : ∀ o k, ¬ (423 + 5 * d ≤ o ∧ o ≤ 426 + 5 * d) → ¬ (517 ≤ o ∧ o ≤ 529 ∧ o ≠ 523 ∧ k = d) → ¬ (o = 523 ∧ 40 * d ≤ k ∧ k < 40 * d + 40) → ¬ (o = 498 ∧ k = 0) → o ≠ 500 → K3 o k = J o k := fun o k a c e g h => by
        rw [f3 o k (by omega), ki o k h g (by omega), hi o k (by omega) (by omega)]
      have dmc : ∀ k, k ≠ 6 → K3 (423 + 5 * d) k = J (423 + 5 * d) k := fun k hk => by
        rw [f3 _ k (by omega), ki _ k (by omega) (by omega) (by omega), hi _ k (by omega) (by omega)]
      have k521 : K3 521 d = 1 := by rw [f3 _ _ (by omega), ← hK, am_u_ne (by omega), am_u_eq]
      have k522 : K3 522 d = nI n := by rw [f3 _ _ (by omega), ← hK, am_u_eq]
      have k6 : K3 (423 + 5 * d) 6 = 1 := by rw [f3 _ _ (by omega), ki _ _ (by omega) (by omega) (by omega), cp5 _ _ (by omega), am_u_eq]
      have kk : ∀ o, 517 ≤ o → o ≤ 529 → o ≠ 521 → o ≠ 522 → o ≠ 523 → K3 o d = J o d := fun o a b c e g => by
        rw [f3 o d (by omega), ki o d (by omega) (by omega) (by omega), hi o d (by omega) (by omega)]
      have k499 : ∀ k, K2 499 k = I 499 k := fun k => (ki 499 k (by omega) (by omega) (by omega)).trans (j499 k)
      have s523 : seg (K3 523) (40 * d) n = seg (I 2) 0 n := seg_cong n (40 * d) 0 (fun k hk => by
        rw [g3 k hk, k499, Nat.zero_add]
        exact (dk k hk).symm)
      refine q _ _ (InvS.inv (InvS.damc iv1 hd (fun o k a _ c e g h => all o k a c e g h) (dmc 13 (by decide)) ?_)) ?_
      · refine ⟨?_, ?_, k6.trans k521.symm, fun _ => ⟨n, n40, k522, ?_, ?_⟩, ?_, ?_, ?_, ?_, ?_, ?_, ?_⟩
        · rw [dmc 2 (by decide), kk 517 (by decide) (by decide) (by decide) (by decide) (by decide)]; exact z1
        · rw [dmc 3 (by decide), dmc 4 (by decide), kk 517 (by decide) (by decide) (by decide) (by decide) (by decide), kk 518 (by decide) (by decide) (by decide) (by decide) (by decide), kk 519 (by decide) (by decide) (by decide) (by decide) (by decide)]; exact z2
        · rw [s523]; exact tx
        · rw [s523]
          exact FC_fr (fun x y h => by rw [f3 x y (by omega), ki x y (by omega) (by omega) (by omega)]) fc2
        · rw [dmc 7 (by decide), kk 524 (by decide) (by decide) (by decide) (by decide) (by decide)]; exact z5
        · rw [kk 524 (by decide) (by decide) (by decide) (by decide) (by decide)]; exact z6
        · rw [dmc 8 (by decide), kk 526 (by decide) (by decide) (by decide) (by decide) (by decide)]; exact z7
        · rw [kk 526 (by decide) (by decide) (by decide) (by decide) (by decide), kk 517 (by decide) (by decide) (by decide) (by decide) (by decide)]; exact z8
        · rw [dmc 9 (by decide), kk 527 (by decide) (by decide) (by decide) (by decide) (by decide)]; exact z9
        · rw [dmc 10 (by decide), kk 528 (by decide) (by decide) (by decide) (by decide) (by decide)]; exact z10
        · rw [dmc 11 (by decide), kk 529 (by decide) (by decide) (by decide) (by decide) (by decide)]; exact z11
      · rw [f3 _ _ (by omega), ← hK, am_u_ne (by omega), am_u_ne (by omega), am_u_eq]; rfl
    · rw [← hK, am_u_ne (by omega), am_u_ne (by omega)]; exact k2
  · refine k_X9_rule_0 ⟨fun _ => qe 0 _ _ _ (by decide) (fun Q2 q => k_X10_rule_0 ⟨fun _ => ⟨fun _ => q _ _ iv.thr.inv am_u_eq, fun a => absurd (hol_0 (by decide)) a⟩, fun a => absurd (d10_0 i) a⟩), fun a => absurd (d9_0 i) a⟩
end OD
