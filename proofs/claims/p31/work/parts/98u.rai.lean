/-! own: rains told by the law; the alarm -/
set_option maxRecDepth 100000
section ZRA
variable {X : Nat × (Nat × (Nat → Int32))} {I J K : Nat → Nat → Int32} {L M : Nat → Nat → Int64} {F H : Nat → Nat → UInt32} {Q : AQ} {N T rc sc t n d r v k h x m p w g : Nat} {s z : AS}
theorem LC.rai (lc : LC s rc sc t I F) (hK : ∀ o k, ((498 ≤ o ∧ o ≤ 501) ∨ (1000502 ≤ o ∧ o ≤ 1000536)) → o ≠ 1000508 → ¬ (o = 1000507 ∧ k = 201 * g + h) → K o k = I o k) (hm : m ≤ 500) (em : K 1000507 (201 * g + h) = nI m) (lp : ∀ r, r < rc → LPk K F r) : LC s rc sc t K F := by
  obtain ⟨⟨a0, a1, a2, a3, a4, a5⟩, b, c, d2, e, f, g2, k⟩ := lc
  have ek : ∀ o k, ((498 ≤ o ∧ o ≤ 501) ∨ (1000509 ≤ o ∧ o ≤ 1000536)) → K o k = I o k := fun o k a => hK o k (by omega) (by omega) (by omega)
  have cj : jdg K = jdg I := funext fun x => by unfold jdg; rw [ek _ _ (by omega)]
  refine ⟨⟨(ek _ _ (by omega)).trans a0, (ek _ _ (by omega)).trans a1, (ek _ _ (by omega)).trans a2, (ek _ _ (by omega)).trans a3, a4, a5⟩, fun d hd => ?_, fun r2 hr => ?_, fun x hx => ?_, fun u hu y => ?_, fun g3 hg h3 ht => ?_, fun v => (ek _ _ (by omega)).trans (g2 v), k⟩
  · obtain ⟨x1, x2⟩ := b d hd
    unfold LD LG
    rw [cj, ek 498 _ (by omega), ek 498 _ (by omega), ek 498 _ (by omega), ek 498 _ (by omega), ek 498 _ (by omega), ek _ _ (by omega), ek _ _ (by omega), ek _ _ (by omega), ek _ _ (by omega), ek _ _ (by omega), ek _ _ (by omega)]
    exact ⟨x1, x2⟩
  · obtain ⟨x1, _⟩ := c r2 hr
    refine ⟨?_, lp r2 hr⟩
    unfold LR
    rw [ek 500 _ (by omega), ek 500 _ (by omega), ek 500 _ (by omega), ek 500 _ (by omega), ek 1000511 _ (by omega), ek 1000512 _ (by omega), ek 1000513 _ (by omega)]
    exact x1
  · obtain ⟨x1, ⟨d, d1, d2, d3⟩, x3, x4⟩ := d2 x hx
    refine ⟨?_, ⟨d, d1, (ek _ _ (by omega)).trans d2, by rw [ek _ _ (by omega)]; exact d3⟩, by rw [ek _ _ (by omega)]; exact x3, by rw [ek _ _ (by omega)]; exact x4⟩
    unfold LE
    rw [ek 501 _ (by omega), ek 501 _ (by omega), ek 501 _ (by omega), ek 1000532 _ (by omega), ek 1000535 _ (by omega), ek 1000536 _ (by omega)]
    exact x1
  · rw [ek _ _ (by omega)]
    exact e u hu (y.imp id (fun ⟨r3, hr, y⟩ => ⟨r3, hr, by rw [ek _ _ (by omega)] at y; exact y⟩))
  · by_cases c : g3 = g ∧ h3 = h
    · rw [c.1, c.2]; exact ⟨m, hm, em⟩
    · by_cases c2 : 201 * g3 + h3 = 201 * g + h
      · rw [c2]; exact ⟨m, hm, em⟩
      · rw [hK _ _ (by omega) (by omega) (by omega)]; exact f g3 hg h3 ht
theorem z_rain (hX : X.1 ≤ 400000) (hN : N < 1000000) (iv : Al s T rc sc t n N I L F) (hg : g < 3) (hh : h < 201) (hm : m ≤ 500) (q : ∀ T2 K, Al s T2 rc sc t n (N + 1) K L F → K 1000507 (201 * g + h) = nI m → Q (.inl (some (.int (I 1000507 (201 * g + h))))) (G X K L F)) : WP mX9_rain 0 (am_ent 5 [.ref 0, .int (nI g), .int (nI h), .int (nI m)]) [] (G X I L F) 0 0 Q := by
  obtain ⟨iv, lc⟩ := iv
  have iv0 := iv
  obtain ⟨vi, dr, nw, rr, ⟨tl, hT⟩, da, si⟩ := iv
  have hc := vi.1.1.1
  have c9 := vi.1.2.2.1.1
  have h40 := rr.1
  have hk : ∀ v, v < aC s → ∃ kh, kh ≤ 201 ∧ I (19 + 6 * v) 6 = nI kh := fun v hv => by
    obtain ⟨kh, a, b, _⟩ := vi.2.2.1 v hv
    exact ⟨kh, a, b⟩
  have hrun : ∀ r, r < rc → ∃ v b, v < aC s ∧ b < 201 ∧ I (383 + r) 0 = nI v ∧ I (383 + r) 2 = nI b := fun r hr => by
    obtain ⟨v, a, b, z1, z2, z3, z4, z5, z6, z7, z8, _⟩ := rr.2.2.2 r hr
    exact ⟨v, b, z1, z3, z4, z8⟩
  have r12 := lc.1.2.2.2.2.1
  refine sp_crain hc c9 hk rr.1 rr.2.1 hrun (fun h => absurd ⟨g, hg, rfl⟩ h) (fun _ h2 => absurd ⟨⟨h, hh, rfl⟩, ⟨m, by omega, rfl⟩⟩ h2) (fun g2 h2 hg2 hh2 eg eh _ J cr => ?_)
  have g2e : g = g2 := (nI_eq (by omega) (by omega)).mp eg
  have h2e : h = h2 := (nI_eq (by omega) (by omega)).mp eh
  subst g2e h2e
  obtain ⟨J1, f1, e1, tr, k0, sf, same, stp⟩ := cr
  have rcI : I (16 + g) h = I 1000507 (201 * g + h) := vi.2.1 g hg h hh
  have jf : ∀ o k, ¬ (o = 16 + g ∧ k = h) → ¬ (∃ v, v < 60 ∧ o = 19 + 6 * v ∧ k = 6) → ¬ (383 ≤ o ∧ o < 423 ∧ k = 5) → J o k = I o k := fun o k a b c => by rw [sf o k c]; exact f1 o k a b
  have jh : ∀ o k, 498 ≤ o → J o k = I o k := fun o k a => jf o k (by omega) (fun ⟨v, x, y, _⟩ => by omega) (by omega)
  have jv : ∀ v, v < 60 → J (19 + 6 * v) 6 = J1 (19 + 6 * v) 6 := fun v hv => sf _ _ (by omega)
  have jg : J (16 + g) h = nI m := (sf _ _ (by omega)).trans e1
  have g510 := lc.2.2.2.2.2.2.1
  have trivOM : ∀ K : Nat → Nat → Int32, (∀ v, K 1000510 v = 0) → OM K F (aC s) := fun K z v hv => ⟨0, by omega, z v, fun t ht => absurd ht (by omega)⟩
  rw [rcI]
  by_cases un : I (16 + g) h = nI m
  · have jj : J = J1 := same un
    have j507 : J 1000507 (201 * g + h) = nI m := (jh _ _ (by omega)).trans (rcI.symm.trans un)
    have iv2 : InvS s T rc sc t n (N + 1) J L F := by
      refine InvS.rained (T2 := T) iv0 hg hh (by omega) (fun o k a b c e f g2 => jf o k a b c) (jg.trans j507.symm) (fun v hv => ?_) (fun v a b => ?_) (trivOM J (fun v => (jh _ _ (by omega)).trans (g510 v))) (Or.inl ⟨rfl, (jh _ _ (by omega)).trans tl.1, jh _ _ (by omega), fun r hr => ?_⟩) (by omega)
      · have e7 : J 1000507 (201 * g + h) = I 1000507 (201 * g + h) := jh _ _ (by omega)
        intro kh a b
        obtain ⟨k2, l2, m2, _⟩ := tr v hv kh a b
        exact ⟨k2, l2, by rw [jv v (by omega)]; exact m2, fun c => absurd e7 c⟩
      · rw [jv v b]; exact k0 v a
      · rw [jj]
        exact f1 _ _ (by omega) (fun ⟨v, x, y, _⟩ => by omega)
    have eo : OI J = OI I := OI_cong (funext fun k => jh _ k (by omega)) (funext fun k => jh _ k (by omega)) (funext fun k => jh _ k (by omega)) (funext fun k => jh _ k (by omega))
    refine q T J ⟨iv2, lc.rai (g := g) (h := h) (fun o k a _ _ => jh o k (by omega)) hm j507 (fun r hr => ?_)⟩ j507
    unfold LPk
    rw [eo, jh 1000511 r (by omega), jh 1000512 r (by omega), jh 1000513 r (by omega), jj, f1 (383 + r) 5 (by omega) (fun ⟨v, x, y, _⟩ => by omega)]
    exact (lc.2.2.1 r hr).2
  · rw [G_eq (J := am_u (am_u (am_u J 1000507 (201 * g + h) (nI m)) 1000508 (201 * g + h) (nI (T + 1))) 1000498 14 (nI (T + 1))) (H := F) (fun o k h => by rw [am_u_ne (by omega), am_u_ne (by omega), am_u_ne (by omega)]) (fun _ _ _ => rfl)]
    generalize hK : am_u (am_u (am_u J 1000507 (201 * g + h) (nI m)) 1000508 (201 * g + h) (nI (T + 1))) 1000498 14 (nI (T + 1)) = K
    have ki : ∀ o k, ¬ ((o = 1000507 ∨ o = 1000508) ∧ k = 201 * g + h) → ¬ (o = 1000498 ∧ k = 14) → K o k = J o k := fun o k a b => by
      rw [← hK, am_u_ne (by omega), am_u_ne (by omega), am_u_ne (by omega)]
    have x507 : K 1000507 (201 * g + h) = nI m := by rw [← hK, am_u_ne (by omega), am_u_ne (by omega), am_u_eq]
    have x508 : K 1000508 (201 * g + h) = nI (T + 1) := by rw [← hK, am_u_ne (by omega), am_u_eq]
    have x14 : K 1000498 14 = nI (T + 1) := by rw [← hK, am_u_eq]
    have ch : I (16 + g) h ≠ nI m := un
    have kh : ∀ o k, 498 ≤ o → ¬ ((o = 1000507 ∨ o = 1000508) ∧ k = 201 * g + h) → ¬ (o = 1000498 ∧ k = 14) → K o k = I o k := fun o k a b c => (ki o k b c).trans (jh o k a)
    have j1r : ∀ r k, r < 40 → J1 (383 + r) k = I (383 + r) k := fun r k hr => f1 _ k (by omega) (fun ⟨v, x, y, _⟩ => by omega)
    have stm : ∀ r v b, r < rc → v < aC s → b < 201 → I (383 + r) 0 = nI v → I (383 + r) 2 = nI b → ((h ≤ b ∧ GU I v g) → K (383 + r) 5 = 1) ∧ (¬ (h ≤ b ∧ GU I v g) → K (383 + r) 5 = I (383 + r) 5) := fun r v b hr hv hb ev eb => by
      have j14 : J1 (19 + 6 * v) 4 = I (19 + 6 * v) 4 := f1 _ 4 (by omega) (fun ⟨v, x, y, w⟩ => by omega)
      obtain ⟨s1, s2⟩ := stp ch r v b hr hv hb ((j1r r 0 (by omega)).trans ev) ((j1r r 2 (by omega)).trans eb)
      rw [j14, ca_gau vi.1.1 vi.1.2.2.1 vi.1.2.2.2 (v + 1) v (by omega) hv g] at s1 s2
      rw [ki _ _ (by omega) (by omega)]
      exact ⟨s1, fun x => (s2 x).trans (j1r r 5 (by omega))⟩
    have iv2 : InvS s (T + 1) rc sc t n (N + 1) K L F := by
      refine InvS.rained (T2 := T + 1) iv0 hg hh (by omega) (fun o k a b c e f g2 => (ki o k (by omega) (by omega)).trans (jf o k a b c)) ?_ (fun v hv => ?_) (fun v a b => ?_) (trivOM K (fun v => (kh _ _ (by omega) (by omega) (by omega)).trans (g510 v))) (Or.inr ⟨rfl, x14, x508, stm⟩) (by omega)
      · rw [ki _ _ (by omega) (by omega), jg, x507]
      · intro kh2 a b
        obtain ⟨k2, l2, m2, c2⟩ := tr v hv kh2 a b
        exact ⟨k2, l2, by rw [ki _ _ (by omega) (by omega), jv v (by omega)]; exact m2, fun _ => c2 ch⟩
      · rw [ki _ _ (by omega) (by omega), jv v b]; exact k0 v a
    refine q (T + 1) K ⟨iv2, lc.rai (g := g) (h := h) (fun o k a b c => kh o k (by omega) (by omega) (by omega)) hm x507 (fun r hr => ?_)⟩ x507
    intro s0 v a b hab hb ev hv ea eb
    rw [kh _ _ (by omega) (by omega) (by omega)] at ev ea eb
    obtain ⟨v2, a2, b2, z1, z2, z3, z4, z5, z6, z7, z8, z9, _⟩ := rr.2.2.2 r hr
    have y1 : v = v2 := (nI_eq (by omega) (by omega)).mp (ev.symm.trans z5)
    have y2 : a = a2 := (nI_eq (by omega) (by omega)).mp (ea.symm.trans z7)
    have y3 : b = b2 := (nI_eq (by omega) (by omega)).mp (eb.symm.trans z9)
    subst y1 y2 y3
    obtain ⟨t1, t2⟩ := stm r v b hr z1 z3 z4 z8
    have nc : ¬ (h ≤ b ∧ GU I v g) := fun c => by
      rw [t1 c] at s0
      exact absurd s0 (by decide)
    rw [t2 nc] at s0
    rw [(lc.2.2.1 r hr).2 s0 v a b hab hb ev hv ea eb]
    rw [pk_cong (b - a) (fun t' h1 h2 => (OI_rain (g := g) (h := h) vi.1.1 vi.1.2.2.2 (funext fun k => kh _ k (by omega) (by omega) (by omega)) (funext fun k => kh _ k (by omega) (by omega) (by omega)) (funext fun k => kh _ k (by omega) (by omega) (by omega)) (fun k hk => kh _ k (by omega) (by omega) (by omega)) hh z1 (show t' < 201 by omega) ?_).symm)]
    by_cases c : h ≤ b
    · exact Or.inr (Or.inr (fun gu => nc ⟨c, gu⟩))
    · exact Or.inr (Or.inl (by omega))
theorem sp_al18L {b : Nat} {I0 : Nat → Nat → Int32} {F0 : Nat → Nat → UInt32} (hb : t ≤ b) (hb2 : b < 201) (q : ∀ J H, Al s T rc sc t n N J L H → LQ I0 J → LQF F0 H → Q (.inl (some (.int (alS s I0 t b 3)))) (G X J L H)) : ∀ (m j : Nat) (I : Nat → Nat → Int32) (F : Nat → Nat → UInt32) (d4 d5 : Option Value), j + m = 3 → Al s T rc sc t n N I L F → LQ I0 I → LQF F0 F →
    WP mX9_alarm 18 [some (.ref 0), some (.int (nI b)), some (.int (alS s I0 t b j)), some (.int (nI j)), d4, d5] [] (G X I L F) 0 0 Q
  | 0, j, I, F, d4, d5, hj, iv, lq, lf => by
    have e : j = 3 := by omega
    subst e
    exact k_X9_alarm_18 ⟨fun _ => q I F iv lq lf, fun a => absurd (by decide) a⟩
  | m + 1, j, I, F, d4, d5, hj, iv, lq, lf => by
    have lc := iv.2
    obtain ⟨z1, z2, _, _, _, _, z7, z8, _, z10, _⟩ := (iv.1.2.2.2.2.2.1 j (by omega)).1
    refine k_X9_alarm_18 ⟨fun a => absurd ((nI_leI (a := 3) (b := j) (by decide) (by omega)).mp a) (by omega), fun _ => ⟨nI_in (by omega) (by decide), ?_⟩⟩
    rw [nI_clamp (show j < 2 ^ 31 by omega), nI_1, z7]
    have es : alS s I0 t b (j + 1) = alS s I0 t b j ||| alB s I0 t b j := rfl
    have h526 := lq.2 1000526 j (by omega)
    have h518 := lq.2 1000518 j (by omega)
    have h528 := lq.2 1000528 j (by omega)
    refine ⟨fun c1 => ?_, fun c1 => ?_⟩
    · have := sp_al18L hb hb2 q m (j + 1) I F (some (.ref (423 + 5 * j))) (some (.int (f_X6_latestOf (I (423 + 5 * j) 3) I))) (by omega) iv lq lf
      rw [es, show alB s I0 t b j = 0 by unfold alB; rw [if_pos (by rw [← h526]; exact c1)], or_0] at this
      exact this
    · obtain ⟨mo, cap, hmo, hcap, m1, m2, _⟩ := z2 (z8 c1)
      have el : f_X6_latestOf (I (423 + 5 * j) 3) I = aL s mo := by rw [m1, lat_v hmo]; exact iv.1.1.1.2.2.1.2.2 mo hmo
      have e518 : (I0 1000518 j).toNatClampNeg = mo := by rw [← h518, m2, nI_clamp (by omega)]
      rw [el]
      refine ⟨fun c2 => ?_, fun c2 => ?_⟩
      · have := sp_al18L hb hb2 q m (j + 1) I F (some (.ref (423 + 5 * j))) (some (.int (aL s mo))) (by omega) iv lq lf
        rw [es, show alB s I0 t b j = 0 by unfold alB; rw [if_neg (by rw [← h526]; exact c1), e518, if_pos c2], or_0] at this
        exact this
      · obtain ⟨v, hv, ev, e2⟩ := lat_lt iv.1.1.1.1 hmo c2
        rw [ev, iv.1.2.2.1.2.1]
        refine sp_look isRun_380 (by omega) (by omega) hv hb hb2 iv.1.1.outc (fun J H i1 i2 oc eo2 ri => k_X9_alarm_81 (gi_damN (by omega)) (fun y ey => ?_))
        have iv2 : Al s T rc sc t n N J L H := ⟨iv.1.lif i1 i2 oc, lc.fr (LQ.lif i1) (LQF.lff i2)⟩
        have j10 : J (423 + 5 * j) 10 = I0 1000528 j := by rw [i1 _ 10 (by omega) (by omega) (fun ⟨v, _, y, _⟩ => by omega), z10]; exact h528
        rw [ri.2.2.2.2.1, j10, lq.oi] at ey
        have ea : y = alB s I0 t b j := by
          rw [ey]
          unfold alB
          rw [if_neg (show ¬ I0 1000526 j = 0 by rw [← h526]; exact c1), e518, if_neg c2, e2]
        rw [ea, ← es, nI_1]
        exact sp_al18L hb hb2 q m (j + 1) J H _ _ (by omega) iv2 (lq.trans (LQ.lif i1)) (lf.trans (LQF.lff i2))
/-- the last hour of the alarm -/
def alE (t : Nat) : Nat := if t + 24 ≤ 200 then t + 24 else 200
theorem z_alarm (iv : Al s T rc sc t n N I L F) (q : ∀ J H, Al s T rc sc t n N J L H → LQ I J → LQF F H → Q (.inl (some (.int (alS s I t (alE t) 3)))) (G X J L H)) : WP mX9_alarm 0 (am_ent 6 [.ref 0]) [] (G X I L F) 0 0 Q := by
  obtain ⟨ht, e9, e1⟩ := iv.1.2.2.1
  have m1 : f_J9_min_7cf53 ((I 0 9) + 24) 200 = nI (alE t) := by
    unfold f_J9_min_7cf53 alE
    rw [e9, show nI t + 24 = nI (t + 24) from nI_add t 24]
    by_cases h : t + 24 ≤ 200
    · rw [if_pos h, if_neg (show ¬ (200 : Int32) < nI (t + 24) from fun z => by have := (nI_ltI (a := 200) (b := t + 24) (by decide) (by omega)).mp z; omega)]
    · rw [if_neg h, if_pos (show (200 : Int32) < nI (t + 24) from (nI_ltI (a := 200) (b := t + 24) (by decide) (by omega)).mpr (by omega))]; rfl
  refine k_X9_alarm_0 ?_
  rw [m1]
  have b1 : t ≤ alE t ∧ alE t < 201 := by unfold alE; split <;> omega
  exact sp_al18L (I0 := I) (F0 := F) b1.1 b1.2 q 3 0 I F none none rfl iv LQ.refl LQF.refl
end ZRA
