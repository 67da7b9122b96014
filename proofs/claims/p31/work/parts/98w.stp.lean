/-! own: a step of the law -/
set_option maxRecDepth 100000
section LST
variable {X : Nat × (Nat × (Nat → Int32))} {I J K : Nat → Nat → Int32} {L M : Nat → Nat → Int64} {F H : Nat → Nat → UInt32} {Q : AQ} {N T rc sc t n d r v k h x m p w g a b : Nat} {s z : AS}
/-- a step leaves all as it must be -/
def Nxs (X : Nat × (Nat × (Nat → Int32))) (N : Nat) (Q : AQ) : Prop := ∀ X2 (s2 : AS) T2 rc2 sc2 t2 n2 K M H, (X2 = X ∨ X2 = (X.1 + 1 + 1, X.2)) → Al s2 T2 rc2 sc2 t2 n2 (N + 2) K M H → Q (.inl (some (.int 1))) (G X2 K M H)
theorem Nxs.same (q : Nxs X N Q) {T2 rc2 sc2 t2 n2 : Nat} (z : Al s T2 rc2 sc2 t2 n2 N I L F) : Q (.inl (some (.int 1))) (G X I L F) := q X s T2 rc2 sc2 t2 n2 I L F (Or.inl rfl) (z.up (by omega))
theorem st_rain {wh : Int32} (hX : X.1 ≤ 400000) (hN : N + 1 < 1000000) (iv : Al s T rc sc t n N I L F) (la : a < 2 ^ 31) (lb : b < 2 ^ 31) (q : Nxs X N Q) : WP mX9_rain 0 (am_ent 5 [.ref 0, .int (nI (b % 3)), .int (nI (a % 60)), .int (nI (a / 60 % 501))]) [] (G X I L F) 0 0 (am_kq mL_step 241 [some (.ref 0), some (.ref 498), some (.ref 499), some (.ref 500), some (.ref 501), some (.int wh), some (.int (nI a)), some (.int (nI b)), some (.int (nI (b % 3))), some (.int (4 + 6 * nI (b % 3))), none, none, some (.int (nI (a % 60)))] [] 1 6 Q) := by
  have l3 := Nat.mod_lt b (show 0 < 3 by decide)
  have l60 := Nat.mod_lt a (show 0 < 60 by decide)
  have l501 := Nat.mod_lt (a / 60) (show 0 < 501 by decide)
  have rb : nI b - nI b / 3 * 3 = nI (b % 3) := rem_n (d := 3) lb (by decide) (by decide)
  have da : nI a / 60 = nI (a / 60) := pk_div (d := 60) la (by decide) (by decide)
  have ra : nI (a / 60) - nI (a / 60) / 501 * 501 = nI (a / 60 % 501) := rem_n (d := 501) (by omega) (by decide) (by decide)
  obtain ⟨m0, hm0, em0⟩ := iv.2.2.2.2.2.2.1 (b % 3) l3 (a % 60) (by omega)
  refine z_rain hX (by omega) iv l3 (by omega) (by omega) (fun T2 K a2 e2 => k_L_step_244 ?_)
  rw [em0, rb, da, ra]
  refine ⟨fun h => absurd ((nI_ltI (a := 500) (by decide) (by omega)).mp h) (by omega), fun _ => ⟨by decide, ?_⟩⟩
  refine z_rain hX (by omega) a2 l3 (by omega) (by omega) (fun T3 K3 a3 e3 => k_L_step_269 ?_)
  rw [e2, da, ra]
  intro y ey
  rw [if_pos rfl] at ey
  rw [ey]
  exact ⟨Or.inr rfl, q X s T3 rc sc t n K3 L F (Or.inl rfl) a3⟩
theorem st_texts {wh x8 x9 : Int32} (hX : X.1 ≤ 10000) (hE : X.1 % 2 = 0) (iv : Al s T rc sc t n N I L F) (lb : b < 2 ^ 31) (q : Nxs X N Q) : (50 < (I 498 3) → Q (.inl (some (.int 1))) (G X I L F)) ∧ (¬ 50 < (I 498 3) → WP mL_texts 0 (am_ent 17 [.ref 0, .ref 498, .ref 499, .int (nI (a % 6)), .int (nI b)]) [] (G X I L F) 0 0 (am_kq mL_step 122 [some (.ref 0), some (.ref 498), some (.ref 499), some (.ref 500), some (.ref 501), some (.int wh), some (.int (nI a)), some (.int (nI b)), some (.int x8), some (.int x9), none, none, none] [] 400 2500 Q)) := by
  refine ⟨fun _ => q.same iv, fun h => ?_⟩
  have h60 := iv.1.1.1.1.1
  have h50 : aC s ≤ 50 := by
    have : ¬ 50 < aC s := fun z => h (by rw [iv.2.1.2.2.2.1]; exact (nI_ltI (a := 50) (by decide) (by omega)).mpr z)
    omega
  refine sp_texts hX hE iv (Nat.mod_lt a (by decide)) lb h50 (fun s2 n2 K M a2 => k_L_step_125 (fun y ey => ?_))
  rw [if_neg (show ¬ (1 : Int32) = 0 by decide)] at ey
  rw [ey]
  exact ⟨Or.inr rfl, q _ s2 T rc sc t n2 K M F (Or.inr rfl) (a2.up (by omega))⟩
theorem st_runs {wh x8 x9 : Int32} (hX : X.1 ≤ 400000) (hN : N < 1000000) (iv : Al s T rc sc t n N I L F) (lb : b < 2 ^ 31) (la : a < 2 ^ 31) (q : Nxs X N Q) : ((I 498 1) = 12 → Q (.inl (some (.int 1))) (G X I L F)) ∧ (¬ (I 498 1) = 12 → WP mX9_latest 0 (am_ent 2 [.ref 0, .int (nI (a % 6))]) [] (G X I L F) 0 0 (am_kq mL_step 505 [some (.ref 0), some (.ref 498), some (.ref 499), some (.ref 500), some (.ref 501), some (.int wh), some (.int (nI a)), some (.int (nI b)), some (.int x8), some (.int x9), none, none, none] [] 1 6 Q)) := by
  have l6 := Nat.mod_lt a (show 0 < 6 by decide)
  have l48 := Nat.mod_lt b (show 0 < 48 by decide)
  have ra : nI a - nI a / 6 * 6 = nI (a % 6) := rem_n (d := 6) la (by decide) (by decide)
  have rb : (1 : Int32) + (nI b - nI b / 48 * 48) = nI (1 + b % 48) := by
    rw [show nI b - nI b / 48 * 48 = nI (b % 48) from rem_n (d := 48) lb (by decide) (by decide)]
    exact nI_add 1 _
  obtain ⟨b0, b1, b2, b3, b4, b5⟩ := iv.2.1
  have ht := iv.1.2.2.1.1
  refine ⟨fun _ => q.same iv, fun h => z_latest iv.1 l6 (k_L_step_508 ?_)⟩
  rw [ra, rb, b0]
  refine ⟨fun _ => q.same iv, fun la2 => ⟨fun _ => q.same iv, fun h150 => ⟨by decide, ?_⟩⟩⟩
  have r11 : rc < 12 := by
    have : rc ≠ 12 := fun e => h (by rw [b1, e]; rfl)
    omega
  have t150 : t ≤ 150 := by
    have : ¬ 150 < t := fun z => h150 ((nI_ltI (a := 150) (by decide) (by omega)).mpr z)
    omega
  refine sp_runs hX hN iv r11 l6 la2 (by omega) (by omega) (by omega) (fun K H a2 => k_L_step_539 (fun y ey => ?_))
  rw [if_neg (show ¬ (1 : Int32) = 0 by decide)] at ey
  rw [ey]
  exact ⟨Or.inr rfl, q _ s T (rc + 1) sc t n K L H (Or.inl rfl) (a2.up (by omega))⟩
theorem st_sounds {wh x8 x9 : Int32} (hX : X.1 ≤ 400000) (iv : Al s T rc sc t n N I L F) (la : a < 2 ^ 31) (hd : d < 3) (q : Nxs X N Q) : ((I 498 1) = 0 → Q (.inl (some (.int 1))) (G X I L F)) ∧ (¬ (I 498 1) = 0 → ((I 498 2) = 12 → Q (.inl (some (.int 1))) (G X I L F)) ∧ (¬ (I 498 2) = 12 → (¬ (I 498 1) = 0) ∧ (WP mL_sounds 0 (am_ent 11 [.ref 0, .ref 498, .ref 499, .ref 500, .ref 501, .int (nI d), .int (nI a - nI a / (I 498 1) * (I 498 1))]) [] (G X I L F) 0 0 (am_kq mL_step 613 [some (.ref 0), some (.ref 498), some (.ref 499), some (.ref 500), some (.ref 501), some (.int wh), some (.int (nI a)), some (.int (nI b)), some (.int x8), some (.int x9), none, none, none] [] 10 60 Q)))) := by
  obtain ⟨b0, b1, b2, b3, b4, b5⟩ := iv.2.1
  refine ⟨fun _ => q.same iv, fun h0 => ⟨fun _ => q.same iv, fun h12 => ⟨h0, ?_⟩⟩⟩
  rw [b1] at h0 ⊢
  rw [b2] at h12
  have rp : 0 < rc := Nat.pos_of_ne_zero fun e => h0 (by rw [e]; rfl)
  have s11 : sc < 12 := by
    have : sc ≠ 12 := fun e => h12 (by rw [e]; rfl)
    omega
  rw [rem_n la rp (by omega)]
  refine sp_sounds hX iv hd (Nat.mod_lt a rp) s11 (fun sc2 J a2 => k_L_step_616 (fun y ey => ?_))
  rw [if_neg (show ¬ (1 : Int32) = 0 by decide)] at ey
  rw [ey]
  exact ⟨Or.inr rfl, q.same a2⟩
theorem sp_step {wh : Nat} (hX : X.1 ≤ 10000) (hE : X.1 % 2 = 0) (hN : N + 1 < 1000000) (iv : Al s T rc sc t n N I L F) (lw : wh < 2 ^ 31) (la : a < 2 ^ 31) (lb : b < 2 ^ 31) (q : Nxs X N Q) : WP mL_step 0 (am_ent 13 [.ref 0, .ref 498, .ref 499, .ref 500, .ref 501, .int (nI wh), .int (nI a), .int (nI b)]) [] (G X I L F) 0 0 Q := by
  have one : ¬ (1 : Int32) = 0 := by decide
  have lc := iv.2
  obtain ⟨b0, b1, b2, b3, b4, b5⟩ := lc.1
  have h60 := iv.1.1.1.1.1
  have ht := iv.1.2.2.1.1
  have l3 := Nat.mod_lt b (show 0 < 3 by decide)
  have l6 := Nat.mod_lt a (show 0 < 6 by decide)
  have l60 := Nat.mod_lt a (show 0 < 60 by decide)
  have l501 := Nat.mod_lt (a / 60) (show 0 < 501 by decide)
  have rw20 : nI wh - nI wh / 20 * 20 = nI (wh % 20) := rem_n (d := 20) lw (by decide) (by decide)
  have rb : nI b - nI b / 3 * 3 = nI (b % 3) := rem_n (d := 3) lb (by decide) (by decide)
  have ra : nI a - nI a / 6 * 6 = nI (a % 6) := rem_n (d := 6) la (by decide) (by decide)
  have ra60 : nI a - nI a / 60 * 60 = nI (a % 60) := rem_n (d := 60) la (by decide) (by decide)
  have da : nI a / 60 = nI (a / 60) := pk_div (d := 60) la (by decide) (by decide)
  have rd : nI (a / 60) - nI (a / 60) / 501 * 501 = nI (a / 60 % 501) := rem_n (d := 501) (by omega) (by decide) (by decide)
  have rb1000 : (1 : Int32) + (nI b - nI b / 1000 * 1000) = nI (1 + b % 1000) := by
    rw [show nI b - nI b / 1000 * 1000 = nI (b % 1000) from rem_n (d := 1000) lb (by decide) (by decide)]
    exact nI_add 1 _
  have rb500 : (1 : Int32) + (nI b - nI b / 500 * 500) = nI (1 + b % 500) := by
    rw [show nI b - nI b / 500 * 500 = nI (b % 500) from rem_n (d := 500) lb (by decide) (by decide)]
    exact nI_add 1 _
  have ra10001 : nI a - nI a / 10001 * 10001 = nI (a % 10001) := rem_n (d := 10001) la (by decide) (by decide)
  have ra13 : nI a - nI a / 13 * 13 = nI (a % 13) := rem_n (d := 13) la (by decide) (by decide)
  have ra4 : (1 : Int32) + (nI a - nI a / 4 * 4) = nI (1 + a % 4) := by
    rw [show nI a - nI a / 4 * 4 = nI (a % 4) from rem_n (d := 4) la (by decide) (by decide)]
    exact nI_add 1 _
  refine k_L_step_0 ?_
  rw [rw20, rb, ra, ra60, da, rd, rb1000, rb500, ra10001, ra13, ra4]
  generalize hdd : b % 3 = d at l3
  have e0 : (4 : Int32) + 6 * nI d = nI (4 + 6 * d) := by
    rw [show (6 : Int32) = nI 6 from rfl, nI_mul, show (4 : Int32) = nI 4 from rfl, nI_add]
  have ej : ∀ j : Nat, nI (4 + 6 * d) + nI j = nI (4 + 6 * d + j) := fun j => nI_add _ _
  have i22 : ∀ j, j < 22 → vp_in (nI j) 22 ∧ (nI j).toNatClampNeg = j := fun j hj => ⟨nI_in hj (by decide), nI_clamp (by omega)⟩
  have ej1 : nI (4 + 6 * d) + 1 = nI (5 + 6 * d) := by rw [show (1 : Int32) = nI 1 from rfl, ej 1, show 4 + 6 * d + 1 = 5 + 6 * d by omega]
  have ej2 : nI (4 + 6 * d) + 2 = nI (6 + 6 * d) := by rw [show (2 : Int32) = nI 2 from rfl, ej 2, show 4 + 6 * d + 2 = 6 + 6 * d by omega]
  have ej3 : nI (4 + 6 * d) + 3 = nI (7 + 6 * d) := by rw [show (3 : Int32) = nI 3 from rfl, ej 3, show 4 + 6 * d + 3 = 7 + 6 * d by omega]
  have ej4 : nI (4 + 6 * d) + 4 = nI (8 + 6 * d) := by rw [show (4 : Int32) = nI 4 from rfl, ej 4, show 4 + 6 * d + 4 = 8 + 6 * d by omega]
  have ej5 : nI (4 + 6 * d) + 5 = nI (9 + 6 * d) := by rw [show (5 : Int32) = nI 5 from rfl, ej 5, show 4 + 6 * d + 5 = 9 + 6 * d by omega]
  obtain ⟨i4, c4⟩ := i22 (4 + 6 * d) (by omega)
  obtain ⟨i5, c5⟩ := i22 (5 + 6 * d) (by omega)
  obtain ⟨i6, c6⟩ := i22 (6 + 6 * d) (by omega)
  obtain ⟨i7, c7⟩ := i22 (7 + 6 * d) (by omega)
  obtain ⟨i8, c8⟩ := i22 (8 + 6 * d) (by omega)
  obtain ⟨i9, c9⟩ := i22 (9 + 6 * d) (by omega)
  obtain ⟨⟨x1, x2, x3, x4, x5⟩, y1, y2, y3, y4, y5, y6, y7⟩ := lc.2.1 d l3
  have tx : ∀ {wh : Int32}, _ := fun {wh : Int32} => st_texts (a := a) (b := b) (wh := wh) (x8 := nI d) (x9 := 4 + 6 * nI d) hX hE iv lb q
  refine ⟨fun _ => tx, fun _ => ⟨fun _ => tx, fun _ => ⟨fun _ => tx, fun _ => ⟨fun _ => tx, fun _ => ⟨fun _ => ?_, fun _ => ⟨fun _ => ?_, fun _ => ⟨fun _ => ?_, fun _ => ⟨fun _ => ?_, fun _ => ⟨fun _ => ?_, fun _ => ⟨fun _ => ?_, fun _ => ⟨fun _ => ?_, fun _ => ⟨fun _ => ?_, fun _ => ⟨fun _ => ?_, fun _ => ⟨fun _ => ?_, fun _ => ⟨fun _ => ?_, fun _ => ⟨fun _ => ?_, fun _ => ⟨fun _ => ?_, fun _ => ?_⟩⟩⟩⟩⟩⟩⟩⟩⟩⟩⟩⟩⟩⟩⟩⟩⟩
  · exact sp_letters (by omega) la lb iv (fun n2 J a2 => k_L_step_142 ⟨Or.inr rfl, q.same a2⟩)
  · exact z_latest iv.1 l6 (sp_step156 (by omega) iv l6 (by decide) (by decide) (fun s2 J a2 => q.same a2))
  · have h := st_rain (wh := nI wh) (by omega) hN iv la lb q
    rw [hdd] at h
    exact h
  · have h := st_rain (wh := nI wh) (by omega) hN iv la lb q
    rw [hdd] at h
    exact h
  · have h := st_rain (wh := nI wh) (by omega) hN iv la lb q
    rw [hdd] at h
    exact h
  · -- a dam is built
    rw [e0, ej1, ej2, c4, c5, c6, x1]
    refine ⟨i4, fun _ => z_level iv.1 l3 (k_L_step_301 (fun y ey => ?_)), fun nb => ⟨i4, i5, i6, ?_⟩⟩
    · have lp := (iv.1.2.2.2.2.2.1 d l3).2.2.2.1
      rw [pz_bits lp, if_neg (nI_pos (show (F 1000520 d).toNat < 2 ^ 31 from lp))] at ey
      rw [ey]
      exact ⟨Or.inr rfl, q.same iv⟩
    · have z5 : I 1000517 d = 0 := y1.resolve_right nb
      obtain ⟨f1, f2, f3⟩ := y5 z5
      generalize hI : am_u (am_u (am_u I 498 (4 + 6 * d) 1) 498 (5 + 6 * d) (nI (a % 6))) 498 (6 + 6 * d) (nI (1 + b % 1000)) = I1
      have i1 : ∀ o k, ¬ (o = 498 ∧ 4 + 6 * d ≤ k ∧ k ≤ 6 + 6 * d) → I1 o k = I o k := fun o k a => by rw [← hI, am_u_ne (by omega), am_u_ne (by omega), am_u_ne (by omega)]
      have p4 : I1 498 (4 + 6 * d) = 1 := by rw [← hI, am_u_ne (by omega), am_u_ne (by omega), am_u_eq]
      have p5 : I1 498 (5 + 6 * d) = nI (a % 6) := by rw [← hI, am_u_ne (by omega), am_u_eq]
      have iv1 : InvS s T rc sc t n N I1 L F := iv.1.row (fun o k h => i1 o k (by omega))
      have l1000 := Nat.mod_lt b (show 0 < 1000 by decide)
      refine z_build (by omega) iv1 l3 l6 (show 1 ≤ 1 + b % 1000 by omega) (by omega) ((i1 _ _ (by omega)).trans z5) (fun K iv2 kf k517 k518 => k_L_step_359 ⟨by decide, ?_⟩)
      have kk : ∀ o k, ¬ (o = 498 ∧ 4 + 6 * d ≤ k ∧ k ≤ 6 + 6 * d) → ¬ (o = 423 + 5 * d ∧ 2 ≤ k ∧ k ≤ 4) → ¬ (1000517 ≤ o ∧ o ≤ 1000519 ∧ k = d) → K o k = I o k := fun o k a b c => (kf o k b c).trans (i1 o k a)
      have cj : jdg K = jdg I := funext fun x => by unfold jdg; rw [kk _ _ (by omega) (by omega) (by omega)]
      have al : Al s T rc sc t n N K L F := by
        refine ⟨iv2, lc.dam l3 (fun r hr => kk _ _ (by omega) (by omega) (by omega)) (fun o k a b c => kk o k (by omega) (by omega) (by omega)) (fun o k a b c => kk o k (by omega) (by omega) (by omega)) ⟨?_, ?_, ?_, ?_, ?_⟩ ?_ (fun h => absurd z5 h)⟩
        · rw [kf _ _ (by omega) (by omega), p4, k517]
        · rw [kf _ _ (by omega) (by omega), p5, k518]
        · rw [kk _ _ (by omega) (by omega) (by omega), kk _ _ (by omega) (by omega) (by omega)]; exact x3
        · rw [kk _ _ (by omega) (by omega) (by omega), kk _ _ (by omega) (by omega) (by omega)]; exact x4
        · rw [kk _ _ (by omega) (by omega) (by omega), kk _ _ (by omega) (by omega) (by omega)]; exact x5
        · unfold LG
          rw [cj, k517, kk 1000526 d (by omega) (by omega) (by omega), kk 1000527 d (by omega) (by omega) (by omega), kk 1000528 d (by omega) (by omega) (by omega), kk 1000531 d (by omega) (by omega) (by omega)]
          exact ⟨Or.inr rfl, y2, y3, y4, fun h => absurd h one, y6, y7⟩
      refine z_level al.1 l3 (k_L_step_365 ⟨fun _ => ⟨by decide, z_trust al.1 l3 (k_L_step_374 (fun y ey => ?_))⟩, fun h => absurd ?_ h⟩)
      · rw [f2, if_pos (show UInt32.toInt32 1065353216 = 1065353216 by decide)] at ey
        rw [ey]
        exact ⟨Or.inr rfl, q.same al⟩
      · rw [f1]; rfl
  · -- a rule
    rw [e0, c4, x1]
    refine ⟨i4, fun _ => q.same iv, fun nz => sp_rules (by omega) iv l3 nz la lb (fun n2 J a2 => k_L_step_402 (fun y ey => ?_))⟩
    rw [if_neg one] at ey
    rw [ey]
    exact ⟨Or.inr rfl, q.same a2⟩
  · -- a valley
    rw [e0, ej3, ej4, ej5, c4, c7, c8, c9, x1]
    refine ⟨i4, fun z5 => z_saved iv.1 l3 (k_L_step_424 (fun y ey => ?_)), fun nz => ⟨i7, i8, i9, i8, i9, ?_⟩⟩
    · rw [(y5 z5).2.2, if_pos rfl] at ey
      rw [ey]
      exact ⟨Or.inr rfl, q.same iv⟩
    · generalize hI : am_u (am_u (am_u I 498 (7 + 6 * d) 1) 498 (8 + 6 * d) (nI (a % 10001))) 498 (9 + 6 * d) (nI (1 + b % 500)) = I1
      have i1 : ∀ o k, ¬ (o = 498 ∧ 7 + 6 * d ≤ k ∧ k ≤ 9 + 6 * d) → I1 o k = I o k := fun o k a => by rw [← hI, am_u_ne (by omega), am_u_ne (by omega), am_u_ne (by omega)]
      have p7 : I1 498 (7 + 6 * d) = 1 := by rw [← hI, am_u_ne (by omega), am_u_ne (by omega), am_u_eq]
      have p8 : I1 498 (8 + 6 * d) = nI (a % 10001) := by rw [← hI, am_u_ne (by omega), am_u_eq]
      have p9 : I1 498 (9 + 6 * d) = nI (1 + b % 500) := by rw [← hI, am_u_eq]
      have iv1 : InvS s T rc sc t n N I1 L F := iv.1.row (fun o k h => i1 o k (by omega))
      have l10001 := Nat.mod_lt a (show 0 < 10001 by decide)
      have l500 := Nat.mod_lt b (show 0 < 500 by decide)
      have l13 := Nat.mod_lt a (show 0 < 13 by decide)
      rw [p8]
      refine z_valley (by omega) iv1 l3 (show a % 10001 ≤ 10000 by omega) (show 1 ≤ 1 + b % 500 by omega) (by omega) (show a % 13 ≤ 12 by omega) (by rw [i1 _ _ (by omega)]; exact nz) (fun K iv2 kf k526 k527 k528 => k_L_step_489 ?_)
      have kk : ∀ o k, ¬ (o = 498 ∧ 7 + 6 * d ≤ k ∧ k ≤ 9 + 6 * d) → ¬ (o = 423 + 5 * d ∧ 8 ≤ k ∧ k ≤ 11) → ¬ (1000526 ≤ o ∧ o ≤ 1000529 ∧ k = d) → K o k = I o k := fun o k a b c => (kf o k b c).trans (i1 o k a)
      have cj : jdg K = jdg I := funext fun x => by unfold jdg; rw [kk _ _ (by omega) (by omega) (by omega)]
      refine q.same ⟨iv2, lc.dam l3 (fun r hr => kk _ _ (by omega) (by omega) (by omega)) (fun o k a b c => kk o k (by omega) (by omega) (by omega)) (fun o k a b c => kk o k (by omega) (by omega) (by omega)) ⟨?_, ?_, ?_, ?_, ?_⟩ ?_ (fun h => by rw [kk _ _ (by omega) (by omega) (by omega)]; exact h)⟩
      · rw [kk _ _ (by omega) (by omega) (by omega), kk _ _ (by omega) (by omega) (by omega)]; exact x1
      · rw [kk _ _ (by omega) (by omega) (by omega), kk _ _ (by omega) (by omega) (by omega)]; exact x2
      · rw [kf _ _ (by omega) (by omega), p7, k526]
      · rw [kf _ _ (by omega) (by omega), p8, k527]
      · rw [kf _ _ (by omega) (by omega), p9, k528]
      · unfold LG
        rw [cj, k526, k527, k528, kk 1000517 d (by omega) (by omega) (by omega), kk 1000531 d (by omega) (by omega) (by omega)]
        exact ⟨y1, Or.inr rfl, ⟨_, by omega, rfl⟩, fun _ => ⟨1 + b % 500, by omega, by omega, rfl⟩, y5, y6, y7⟩
  · exact st_runs (by omega) (by omega) iv lb la q
  · exact st_runs (by omega) (by omega) iv lb la q
  · rw [e0, c4, x1]
    refine ⟨fun _ => q.same iv, fun h0 => ⟨i4, fun _ => q.same iv, fun nz => ⟨h0, ?_⟩⟩⟩
    rw [b1] at h0 ⊢
    have rp : 0 < rc := Nat.pos_of_ne_zero fun e => h0 (by rw [e]; rfl)
    rw [rem_n la rp (by omega)]
    refine sp_goes (by omega) iv l3 (Nat.mod_lt a rp) nz (fun J a2 => k_L_step_576 (fun y ey => ?_))
    rw [if_neg one] at ey
    rw [ey]
    exact ⟨Or.inr rfl, q.same a2⟩
  · exact st_sounds (by omega) iv la l3 q
  · exact st_sounds (by omega) iv la l3 q
  · rw [b0]
    refine ⟨fun _ => q.same iv, fun h => ?_⟩
    have t190 : t ≤ 190 := by
      have : ¬ 190 < t := fun z => h ((nI_ltI (a := 190) (by decide) (by omega)).mpr z)
      omega
    have l4 := Nat.mod_lt a (show 0 < 4 by decide)
    refine sp_passes (by omega) iv (show 1 ≤ 1 + a % 4 by omega) (by omega) t190 (fun J H a2 => k_L_step_647 (fun y ey => ?_))
    rw [if_neg one] at ey
    rw [ey]
    exact ⟨Or.inr rfl, q.same a2⟩
end LST
