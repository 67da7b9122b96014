/-! own: all that the law asks between its steps -/
set_option maxRecDepth 100000
theorem kv_most {x : UInt32} (h : kv x) : ¬ (1315859240 : Int32) < (UInt32.toInt32 x &&& 2147483647) ∧ ¬ UInt32.toInt32 x = 2147483648 := by
  obtain ⟨h1, h2, h3⟩ := h
  have lt : x.toNat < 2 ^ 32 := x.toNat_lt
  have e : UInt32.toInt32 x &&& 2147483647 = nI (x.toNat % 2 ^ 31) := pk_and (UInt32.toInt32 x) 31 (by decide)
  rw [fk_def] at h1 h2 h3
  constructor
  · rw [e]
    intro z
    have := (nI_ltI (a := 1315859240) (by decide) (by omega)).mp z
    split at h1 <;> split at h2 <;> omega
  · intro z
    have e2 : x.toNat = 2 ^ 31 := by
      have : (UInt32.toInt32 x).toBitVec.toNat = (2147483648 : Int32).toBitVec.toNat := by rw [z]
      exact this
    rw [if_pos (by omega)] at h3
    have := h3 (by omega)
    rw [this] at e2
    exact absurd e2 (by decide)
/-- bits of a float without a sign -/
theorem pz_bits {x : UInt32} (h : pz x) : UInt32.toInt32 x = nI x.toNat := by
  have e := UInt32.toInt32_ofNat' (n := x.toNat)
  rw [UInt32.ofNat_toNat] at e
  exact e
def alH (g : Nat → UInt32) (D : UInt32) (bit : Int32) (t i : Nat) : Int32 := if i = 0 then 0 else if fk (pk g t (i - 1)).1 < fk D then 0 else bit
theorem or_idem {x y : Int32} : (x ||| y) ||| y = x ||| y := by
  rw [Int32.or_assoc, Int32.or_self]
theorem alH_next {g : Nat → UInt32} {D : UInt32} {bit A : Int32} {t i : Nat} : (A ||| alH g D bit t i) ||| (if fk (g (t + i)) < fk D then 0 else bit) = A ||| alH g D bit t (i + 1) := by
  unfold alH
  rw [if_neg (Nat.succ_ne_zero i), Nat.add_sub_cancel]
  cases i with
  | zero =>
    rw [if_pos rfl, or_0]
    rfl
  | succ i =>
    rw [if_neg (Nat.succ_ne_zero i), Nat.add_sub_cancel]
    have e : pk g t (i + 1) = if fk (pk g t i).1 < fk (g (t + i + 1)) then (g (t + i + 1), t + i + 1) else pk g t i := rfl
    rw [e, show t + (i + 1) = t + i + 1 from rfl]
    by_cases a : fk (pk g t i).1 < fk D
    · rw [if_pos a, or_0]
      by_cases b : fk (g (t + i + 1)) < fk D
      · rw [if_pos b]
        split
        · rfl
        · rfl
      · rw [if_neg b, if_pos (show fk (pk g t i).1 < fk (g (t + i + 1)) by omega), if_neg (show ¬ fk (g (t + i + 1), t + i + 1).1 < fk D from b)]
    · rw [if_neg a]
      by_cases b : fk (g (t + i + 1)) < fk D
      · rw [if_pos b, or_0, if_neg (show ¬ fk (pk g t i).1 < fk (g (t + i + 1)) by omega), if_neg a]
      · rw [if_neg b, or_idem]
        split
        · rfl
        · rfl
section LAL
variable {X : Nat × (Nat × (Nat → Int32))} {I I0 J K : Nat → Nat → Int32} {L M : Nat → Nat → Int64} {F F0 H : Nat → Nat → UInt32} {Q : AQ} {N T rc sc t n d r v k h x m p w g a b : Nat} {s z : AS}
theorem alS_congr (lq : LQ I J) : ∀ j, j ≤ 3 → alS s J t b j = alS s I t b j
  | 0, _ => rfl
  | j + 1, h => by
    show alS s J t b j ||| alB s J t b j = alS s I t b j ||| alB s I t b j
    rw [alS_congr lq j (by omega)]
    unfold alB
    rw [lq.oi, lq.2 1000526 j (by omega), lq.2 1000518 j (by omega), lq.2 1000528 j (by omega)]
theorem ed22 (j : Nat) : (4 : Int32) + 6 * nI d + nI j = nI (4 + 6 * d + j) := by
  rw [show (6 : Int32) = nI 6 from rfl, nI_mul, show (4 : Int32) = nI 4 from rfl, nI_add, nI_add]
/-- the law's alarm of a dam, hour by hour -/
theorem sp_ia333 {A x4 x9 x10 : Int32} (hd : d < 3) (hv : v < aC s) (h60 : aC s ≤ 60) (g1 : 1 ≤ g) (g2 : g ≤ 500) (e528 : I0 1000528 d = nI g) (ht : t ≤ 200) {C : Nat} (hC : C ≤ 115)
    (q : ∀ J H (d8 d9 d10 d11 d12 : Option Value) (c0 s0 : Nat), Al s T rc sc t n N J L H → LQ I0 J → LQF F0 H → c0 ≤ C + 25 → s0 ≤ 6 * (C + 25) → WP mL_isAll 199 [some (.ref 0), some (.ref 498), some (.ref 499), some (.ref 500), some (.int x4), some (.int 1), some (.int (A ||| alH (OI I0 v) (FP.i2f (nI g)) ((1 : Int32) <<< (nI d &&& 31 : Int32)) t (alE t + 1 - t))), some (.int (nI (d + 1))), d8, d9, d10, d11, d12] [] (G X J L H) c0 s0 Q) :
    ∀ (f i : Nat) (J : Nat → Nat → Int32) (H : Nat → Nat → UInt32) (c0 s0 : Nat), t + i + f = alE t + 1 → Al s T rc sc t n N J L H → LQ I0 J → LQF F0 H → c0 ≤ C + i → s0 ≤ 6 * (C + i) →
      WP mL_isAll 333 [some (.ref 0), some (.ref 498), some (.ref 499), some (.ref 500), some (.int x4), some (.int 1), some (.int (A ||| alH (OI I0 v) (FP.i2f (nI g)) ((1 : Int32) <<< (nI d &&& 31 : Int32)) t i)), some (.int (nI d)), some (.int (4 + 6 * nI d)), some (.int x9), some (.int x10), some (.int (nI v)), some (.int (nI (t + i)))] [] (G X J L H) c0 s0 Q
  | f, i, J, H, c0, s0, hf, iv, lq, lf, hc, hs => by
    have j0 : J 498 0 = nI t := iv.2.1.1
    have b1 : alE t ≤ 200 ∧ alE t ≤ t + 24 ∧ (alE t = 200 ∨ alE t = t + 24) := by unfold alE; split <;> omega
    have l25 : i ≤ 25 := by omega
    refine k_L_isAll_333 ⟨fun h => absurd h (nI_m1 (by omega)), fun _ => ?_⟩
    rw [j0, nI_1, show nI t + 24 = nI (t + 24) from nI_add t 24]
    cases f with
    | zero =>
      have ei : i = alE t + 1 - t := by omega
      subst ei
      have go : ∀ (d8 d9 d10 d11 d12 : Option Value), WP mL_isAll 199 [some (.ref 0), some (.ref 498), some (.ref 499), some (.ref 500), some (.int x4), some (.int 1), some (.int (A ||| alH (OI I0 v) (FP.i2f (nI g)) ((1 : Int32) <<< (nI d &&& 31 : Int32)) t (alE t + 1 - t))), some (.int (nI (d + 1))), d8, d9, d10, d11, d12] [] (G X J L H) c0 s0 Q := fun d8 d9 d10 d11 d12 => q J H d8 d9 d10 d11 d12 c0 s0 iv lq lf (by omega) (by omega)
      refine ⟨fun _ => go _ _ _ _ _, fun h1 => ⟨fun _ => go _ _ _ _ _, fun h2 => ?_⟩⟩
      exfalso
      rcases b1.2.2 with e | e
      · exact h1 ((nI_ltI (a := 200) (by decide) (by omega)).mpr (by omega))
      · exact h2 ((nI_ltI (by omega) (by omega)).mpr (by omega))
    | succ f =>
      refine ⟨fun h => absurd ((nI_ltI (a := 200) (by decide) (by omega)).mp h) (by omega), fun _ => ⟨fun h => absurd ((nI_ltI (by omega) (by omega)).mp h) (by omega), fun _ => ⟨by omega, ?_⟩⟩⟩
      refine z_out iv hv (show t + i < 201 by omega) (fun J2 H2 a2 i2 lq2 lf2 => k_L_isAll_368 ?_)
      have lq3 := lq.trans lq2
      have j9 : J2 498 (9 + 6 * d) = nI g := by rw [(a2.2.2.1 d hd).1.2.2.2.2, lq3.2 1000528 d (by omega)]; exact e528
      have e5 : (4 : Int32) + 6 * nI d + 5 = nI (9 + 6 * d) := by rw [show (5 : Int32) = nI 5 from rfl, ed22 5, show 4 + 6 * d + 5 = 9 + 6 * d by omega]
      rw [e5, nI_clamp (show 9 + 6 * d < 2 ^ 31 by omega), j9]
      refine ⟨by omega, nI_in (by omega) (by decide), by omega, sp_bits g1 g2 (k_L_isAll_380 (fun y ey => ?_))⟩
      have kb := key_bits (x := OI J v (t + i)) OO_kv g1 g2
      have ey2 : y = if fk (OI I0 v (t + i)) < fk (FP.i2f (nI g)) then 0 else ((1 : Int32) <<< (nI d &&& 31 : Int32)) := by
        rw [ey]
        rw [lq.oi] at kb ⊢
        by_cases c : fk (OI I0 v (t + i)) < fk (FP.i2f (nI g))
        · rw [if_pos c, if_pos (Int32.not_le.mp (fun z => (kb.mp z) c))]
        · rw [if_neg c, if_neg (Int32.not_lt.mpr (kb.mpr c))]
      rw [ey2, alH_next, nI_1]
      exact sp_ia333 hd hv h60 g1 g2 e528 ht hC q f (i + 1) J2 H2 _ _ (by omega) a2 lq3 (lf.trans lf2) (by omega) (by omega)
/-- the law looks at each dam -/
theorem sp_ia199 (ha : a < 2 ^ 31) (q : ∀ J H, Al s T rc sc t n N J L H → Q (.inl (some (.int 1))) (G X J L H)) :
    ∀ (f d : Nat) (J : Nat → Nat → Int32) (H : Nat → Nat → UInt32) (d8 d9 d10 d11 d12 : Option Value) (c0 s0 : Nat), d + f = 3 → Al s T rc sc t n N J L H → LQ I0 J → LQF F0 H → c0 ≤ 50 + 30 * d → s0 ≤ 6 * (50 + 30 * d) →
      WP mL_isAll 199 [some (.ref 0), some (.ref 498), some (.ref 499), some (.ref 500), some (.int (nI a)), some (.int 1), some (.int (alS s I0 t (alE t) d)), some (.int (nI d)), d8, d9, d10, d11, d12] [] (G X J L H) c0 s0 Q
  | 0, d, J, H, d8, d9, d10, d11, d12, c0, s0, hd, iv, lq, lf, hc, hs => by
    have e : d = 3 := by omega
    subst e
    refine k_L_isAll_199 ⟨fun _ => ⟨fun h => absurd h (by decide), fun _ => ⟨by omega, z_alarm iv (fun J2 H2 a2 lq2 _ => k_L_isAll_415 (fun y ey => ?_))⟩⟩, fun h => absurd (show (3 : Int32) ≤ nI 3 by decide) h⟩
    have ey2 : y = 1 := by rw [ey, alS_congr lq 3 (Nat.le_refl 3), if_pos rfl]
    rw [ey2]
    exact ⟨Or.inr rfl, q J2 H2 a2⟩
  | f + 1, d, J, H, d8, d9, d10, d11, d12, c0, s0, hd, iv, lq, lf, hc, hs => by
    have hd3 : d < 3 := by omega
    have one : ¬ (1 : Int32) = 0 := by decide
    have lc := iv.2
    have h60 := iv.1.1.1.1.1
    have nw := iv.1.2.2.1
    have ht := nw.1
    obtain ⟨da1, ⟨_, _, _, _⟩, lu, lp, tr, bl⟩ := iv.1.2.2.2.2.2.1 d hd3
    obtain ⟨⟨x1, x2, x3, x4, x5⟩, y1, y2, y3, y4, y5, y6, y7⟩ := lc.2.1 d hd3
    have e0 : (4 : Int32) + 6 * nI d = nI (4 + 6 * d) := by
      rw [show (6 : Int32) = nI 6 from rfl, nI_mul, show (4 : Int32) = nI 4 from rfl, nI_add]
    have e3 : (4 : Int32) + 6 * nI d + 3 = nI (7 + 6 * d) := by rw [show (3 : Int32) = nI 3 from rfl, ed22 3, show 4 + 6 * d + 3 = 7 + 6 * d by omega]
    have e1 : (4 : Int32) + 6 * nI d + 1 = nI (5 + 6 * d) := by rw [show (1 : Int32) = nI 1 from rfl, ed22 1, show 4 + 6 * d + 1 = 5 + 6 * d by omega]
    have i22 : ∀ j, j < 22 → vp_in (nI j) 22 ∧ (nI j).toNatClampNeg = j := fun j hj => ⟨nI_in hj (by decide), nI_clamp (by omega)⟩
    obtain ⟨i4, c4⟩ := i22 (4 + 6 * d) (by omega)
    obtain ⟨i7, c7⟩ := i22 (7 + 6 * d) (by omega)
    obtain ⟨i5, c5⟩ := i22 (5 + 6 * d) (by omega)
    have z9 : ∀ x : UInt32, pz x → ¬ UInt32.toInt32 x < 0 := fun x hx => by rw [pz_bits hx]; exact nI_pos (show x.toNat < 2 ^ 31 from hx)
    have t0 : ¬ UInt32.toInt32 (H 1000530 d) ≤ 0 := fun h => by
      rw [pz_bits tr.2.1] at h
      have := (nI_leI (b := 0) (show (H 1000530 d).toNat < 2 ^ 31 from tr.2.1) (by decide)).mp h
      have hp : (H 1000530 d).toNat < 2 ^ 31 := tr.2.1
      rw [fk_def, if_neg (by omega)] at y6
      omega
    have t1 : ¬ (1065353216 : Int32) < UInt32.toInt32 (H 1000530 d) := fun h => by
      have hp : (H 1000530 d).toNat < 2 ^ 31 := tr.2.1
      rw [pz_bits tr.2.1] at h
      have := (nI_ltI (a := 1065353216) (by decide) hp).mp h
      have le := (zv_le tr.1.nn nn_one).mpr (by rw [zv_one]; exact tr.2.2)
      rw [fk_def, if_neg (by omega), show fk 1065353216 = 1065353216 by decide] at le
      omega
    obtain ⟨ks, ks1, ks2⟩ := y7
    have cnl : cntB (jdg J) sc ≤ sc := cntB_le _ _
    have s12 := lc.1.2.2.2.2.2
    -- what comes behind the questions
    have nxt : ∀ (x9 x10 : Int32) (d11 d12 : Option Value) (c1 s1 : Nat), c1 ≤ 54 + 30 * d → s1 ≤ 6 * (54 + 30 * d) → vp_in (nI (7 + 6 * d)) 22 ∧ ((J 498 (7 + 6 * d) = 1 → vp_in (nI (5 + 6 * d)) 22 ∧ ((c1 + 1 ≤ 200 ∧ s1 + 6 ≤ 1200) ∧ (WP mX9_latest 0 (am_ent 2 [.ref 0, .int (J 498 (5 + 6 * d))]) [] (G X J L H) 0 0 (am_kq mL_isAll 319 [some (.ref 0), some (.ref 498), some (.ref 499), some (.ref 500), some (.int (nI a)), some (.int 1), some (.int (alS s I0 t (alE t) d)), some (.int (nI d)), some (.int (4 + 6 * nI d)), some (.int x9), some (.int x10), d11, d12] [] (c1 + 1) (s1 + 6) Q)))) ∧ (¬ J 498 (7 + 6 * d) = 1 → WP mL_isAll 333 [some (.ref 0), some (.ref 498), some (.ref 499), some (.ref 500), some (.int (nI a)), some (.int 1), some (.int (alS s I0 t (alE t) d)), some (.int (nI d)), some (.int (4 + 6 * nI d)), some (.int x9), some (.int x10), some (.int (-1)), some (.int (J 498 0))] [] (G X J L H) c1 s1 Q)) := fun x9 x10 d11 d12 c1 s1 hc1 hs1 => by
      have es : alS s I0 t (alE t) (d + 1) = alS s I0 t (alE t) d ||| alB s I0 t (alE t) d := rfl
      have h526 := lq.2 1000526 d (by omega)
      have h518 := lq.2 1000518 d (by omega)
      have h528 := lq.2 1000528 d (by omega)
      have skip : alB s I0 t (alE t) d = 0 → ∀ (d8 d9 d10 d11 d12 : Option Value) (c2 s2 : Nat), c2 ≤ 80 + 30 * d → s2 ≤ 6 * (80 + 30 * d) → WP mL_isAll 199 [some (.ref 0), some (.ref 498), some (.ref 499), some (.ref 500), some (.int (nI a)), some (.int 1), some (.int (alS s I0 t (alE t) d)), some (.int (nI d + 1)), d8, d9, d10, d11, d12] [] (G X J L H) c2 s2 Q := fun z d8 d9 d10 d11 d12 c2 s2 h1 h2 => by
        have := sp_ia199 ha q f (d + 1) J H d8 d9 d10 d11 d12 c2 s2 (by omega) iv lq lf (by omega) (by omega)
        rw [es, z, or_0] at this
        rw [nI_1]; exact this
      refine ⟨i7, fun v1 => ⟨i5, by omega, ?_⟩, fun v0 => k_L_isAll_333 ⟨fun _ => skip ?_ _ _ _ _ _ _ _ (by omega) (by omega), fun h => absurd rfl h⟩⟩
      · rw [x3] at v1
        have nz : J 1000526 d ≠ 0 := by rw [v1]; exact one
        obtain ⟨mo, cap, hmo, _, m1, m2, _⟩ := da1.2.1 (da1.2.2.2.2.2.2.2.1 nz)
        obtain ⟨g, g1, g2, eg⟩ := y4 nz
        have e518 : (I0 1000518 d).toNatClampNeg = mo := by rw [← h518, m2, nI_clamp (by omega)]
        rw [x2, m2]
        refine z_latest iv.1 hmo (k_L_isAll_322 ?_)
        by_cases la : aL s mo = -1
        · rw [la]
          refine k_L_isAll_333 ⟨fun _ => skip ?_ _ _ _ _ _ _ _ (by omega) (by omega), fun h => absurd rfl h⟩
          unfold alB
          rw [if_neg (by rw [← h526]; exact nz), e518, if_pos la]
        · obtain ⟨v, hv, ev, e2⟩ := lat_lt iv.1.1.1.1 hmo la
          have eb : alB s I0 t (alE t) d = alH (OI I0 v) (FP.i2f (nI g)) ((1 : Int32) <<< (nI d &&& 31 : Int32)) t (alE t + 1 - t) := by
            have bt : t ≤ alE t := by unfold alE; split <;> omega
            unfold alB alH
            rw [if_neg (by rw [← h526]; exact nz), e518, if_neg la, e2, if_neg (show ¬ alE t + 1 - t = 0 by omega), show alE t + 1 - t - 1 = alE t - t by omega, ← h528, eg]
            have kvp := pkk (g := OI I0 v) (a := t) (m := alE t - t) (fun _ => OO_kv)
            by_cases c : fk (pk (OI I0 v) t (alE t - t)).1 < fk (FP.i2f (nI g))
            · rw [if_pos c, if_pos ((fc_lt kvp.nn (fin_i2f _).nn).mpr c)]
            · rw [if_neg c, if_neg (fun z => c ((fc_lt kvp.nn (fin_i2f _).nn).mp z))]
          rw [ev, lc.1.1]
          have h0 := sp_ia333 (I0 := I0) (F0 := F0) (A := alS s I0 t (alE t) d) (x4 := nI a) (x9 := x9) (x10 := x10) hd3 hv h60 g1 g2 (by rw [← h528]; exact eg) ht (C := 55 + 30 * d) (by omega) (fun J2 H2 e8 e9 e10 e11 e12 c2 s2 a2 lq2 lf2 h1 h2 => by
            have := sp_ia199 ha q f (d + 1) J2 H2 e8 e9 e10 e11 e12 c2 s2 (by omega) a2 lq2 lf2 (by omega) (by omega)
            rw [es, eb] at this
            exact this) (alE t + 1 - t) 0 J H (c1 + 1) (s1 + 6) (by unfold alE; split <;> omega) iv lq lf (by omega) (by omega)
          have z0 : alH (OI I0 v) (FP.i2f (nI g)) ((1 : Int32) <<< (nI d &&& 31 : Int32)) t 0 = 0 := if_pos rfl
          rw [z0, or_0, Nat.add_zero] at h0
          exact h0
      · unfold alB
        rw [if_pos]
        rw [x3] at v0
        rw [← h526]
        rcases y2 with e | e
        · exact e
        · exact absurd e v0
    refine k_L_isAll_199 ⟨fun h => absurd ((nI_leI (a := 3) (by decide) (by omega)).mp h) (by omega), fun _ => ⟨fun h => absurd h one, fun _ => ⟨by omega, ?_⟩⟩⟩
    refine z_level iv.1 hd3 (k_L_isAll_225 ⟨by omega, z_trust iv.1 hd3 (k_L_isAll_233 ?_)⟩)
    rw [e3, e1, c7, c5]
    rw [e0, c4, x1]
    have bel : ∀ (c1 s1 : Nat), c1 ≤ 53 + 30 * d → s1 ≤ 6 * (53 + 30 * d) → WP mX9_saved 0 (am_ent 2 [.ref 0, .int (nI d)]) [] (G X J L H) 0 0 (am_kq mL_isAll 268 [some (.ref 0), some (.ref 498), some (.ref 499), some (.ref 500), some (.int (nI a)), some (.int 1), some (.int (alS s I0 t (alE t) d)), some (.int (nI d)), some (.int (nI (4 + 6 * d))), some (.int (UInt32.toInt32 (H 1000520 d))), some (.int (UInt32.toInt32 (H 1000530 d))), d11, d12] [] c1 s1 Q) := fun c1 s1 h1 h2 => by
      rw [← e0]
      refine z_saved iv.1 hd3 (k_L_isAll_271 ⟨fun h => absurd h (by rw [ks2]; exact nI_pos (by omega)), fun _ => ?_⟩)
      rw [e3, e1, c7, c5, lc.1.1]
      have nx := fun (c1 s1 : Nat) h1 h2 => nxt (UInt32.toInt32 (H 1000520 d)) (UInt32.toInt32 (H 1000530 d)) d11 d12 c1 s1 h1 h2
      rw [lc.1.1] at nx
      refine ⟨fun _ => nx c1 s1 (by omega) (by omega), fun t1 => ⟨t1, by omega, ?_⟩⟩
      have tp : 0 < t := Nat.pos_of_ne_zero fun e => t1 (by rw [e]; rfl)
      rw [rem_n ha tp (by omega)]
      have lt := Nat.mod_lt a tp
      refine z_below iv.1 hd3 lt (k_L_isAll_292 (fun y ey => ?_))
      rw [if_neg (z9 _ (bl _ (by omega)).2)] at ey
      rw [ey, e3, e1, c7, c5, lc.1.1]
      exact nx (c1 + 1) (s1 + 6) (by omega) (by omega)
    refine ⟨fun h => absurd h (z9 _ lp), fun _ => ⟨i4, fun _ => ⟨fun h => absurd h t0, fun _ => ⟨fun h => absurd h t1, fun _ => ⟨by omega, bel _ _ (by omega) (by omega)⟩⟩⟩, fun b0 => ⟨fun _ => ⟨fun h => absurd h t0, fun _ => ⟨fun h => absurd h t1, fun _ => ⟨by omega, bel _ _ (by omega) (by omega)⟩⟩⟩, fun h => absurd ?_ h⟩⟩⟩
    have z5 : J 1000517 d = 0 := y1.resolve_right b0
    rw [(y5 z5).1]
    rfl
/-- the law looks at each run -/
theorem sp_ia79 (ha : a < 2 ^ 31) (q : ∀ J H, Al s T rc sc t n N J L H → Q (.inl (some (.int 1))) (G X J L H)) :
    ∀ (f k : Nat) (J : Nat → Nat → Int32) (H : Nat → Nat → UInt32) (d7 : Option Value) (c0 s0 : Nat), k + f = rc → Al s T rc sc t n N J L H → c0 ≤ 2 + 4 * k → s0 ≤ 6 * (2 + 4 * k) →
      WP mL_isAll 79 [some (.ref 0), some (.ref 498), some (.ref 499), some (.ref 500), some (.int (nI a)), some (.int 1), some (.int (nI k)), d7, none, none, none, none, none] [] (G X J L H) c0 s0 Q
  | 0, k, J, H, d7, c0, s0, hk, iv, hc, hs => by
    have r12 := iv.2.1.2.2.2.2.1
    have j1 : J 498 1 = nI rc := iv.2.1.2.1
    have e : k = rc := by omega
    subst e
    refine k_L_isAll_79 ⟨fun _ => ?_, fun h => absurd (by rw [j1]; exact Int32.le_refl _) h⟩
    exact sp_ia199 (I0 := J) (F0 := H) ha q 3 0 J H none none none none none c0 s0 rfl iv LQ.refl LQF.refl (by omega) (by omega)
  | f + 1, k, J, H, d7, c0, s0, hk, iv, hc, hs => by
    have lc := iv.2
    have r12 := lc.1.2.2.2.2.1
    have j1 : J 498 1 = nI rc := lc.1.2.1
    have w := iv.1.1.1.1
    have h60 := w.1
    have rr := iv.1.2.2.2.1
    obtain ⟨v, a2, b2, z1, z2, z3, z4, z5, z6, z7, z8, z9, _⟩ := rr.2.2.2 k (by omega)
    obtain ⟨⟨l1, l2, l3, l4⟩, lp⟩ := lc.2.2.1 k (by omega)
    obtain ⟨mo, hmo, emo⟩ := (w.2.1 v z1).2.2
    have l499 : J 499 v = nI mo := (lc.2.2.2.2.1 v z1 (Or.inr ⟨k, by omega, z5⟩)).trans emo
    have l500 : J 500 k = nI v := l1.trans z5
    have rv := reason_v w iv.1.1.1.2.2.1 rr.1 rr.2.1 (show k < rc by omega) z1 z4 hmo emo
    have e36 : (36 : Int32) + nI k = nI (36 + k) := nI_add 36 k
    have c36 : (nI (36 + k)).toNatClampNeg = 36 + k := nI_clamp (by omega)
    have i36 : vp_in (nI (36 + k)) 48 := nI_in (by omega) (by decide)
    have ck : (nI k).toNatClampNeg = k := nI_clamp (by omega)
    have cv : (nI v).toNatClampNeg = v := nI_clamp (by omega)
    have ik : vp_in (nI k) 48 := nI_in (by omega) (by decide)
    refine k_L_isAll_79 ⟨fun h => absurd ((nI_leI (a := rc) (b := k) (by omega) (by omega)).mp (by rw [← j1]; exact h)) (by omega), fun _ => ⟨fun h => absurd h (by decide), fun _ => ⟨by omega, z_why iv.1 (by omega) (k_L_isAll_98 (fun y ey => ?_))⟩⟩⟩
    rw [ck, l500, cv, l499]
    refine ⟨ik, nI_in (by omega) (by decide), by omega, z_latest iv.1 hmo (k_L_isAll_121 ?_)⟩
    rw [ck, l500]
    refine ⟨ik, fun u eu => ⟨fun _ => ⟨by omega, ?_⟩, fun h => absurd ?_ h⟩⟩
    · refine z_peak iv.1 (by omega) (k_L_isAll_142 ?_)
      rw [e36, c36, l4]
      refine ⟨i36, fun _ => ⟨fun _ => ?_, fun r2 => ⟨by omega, ?_⟩⟩, fun h => absurd rfl h⟩
      · rw [nI_1]
        exact sp_ia79 ha q f (k + 1) J H _ _ _ (by omega) iv (by omega) (by omega)
      · refine z_peakAnew iv (show k < rc by omega) z5 (by omega) z7 z9 (by omega) (by omega) (fun J2 H2 al2 _ lq2 lf2 => k_L_isAll_164 ?_)
        rw [e36, c36, lq2.2 500 _ (by omega), l4]
        refine ⟨i36, fun x ex => ?_⟩
        have ex2 : x = 1 := by
          rw [ex]
          by_cases c : aL s mo = nI v
          · rw [if_pos c] at rv
            by_cases c2 : J (383 + k) 5 = 0
            · have := lp c2 v a2 b2 z2 z3 z5 (by omega) z7 z9
              rw [this, if_pos rfl]
            · rw [if_neg c2] at rv
              exact absurd rv r2
          · rw [if_neg c] at rv
            rw [if_pos rv]
            split <;> rfl
        rw [ex2, nI_1]
        exact sp_ia79 ha q f (k + 1) J2 H2 _ _ _ (by omega) al2 (by omega) (by omega)
    · rw [ey, eu, rv]
      by_cases c : aL s mo = nI v
      · rw [if_pos c, if_pos c]
        split <;> rfl
      · rw [if_neg c, if_neg c]; rfl
theorem sp_isAll (ha : a < 2 ^ 31) (iv : Al s T rc sc t n N I L F) (q : ∀ J H, Al s T rc sc t n N J L H → Q (.inl (some (.int 1))) (G X J L H)) : WP mL_isAll 0 (am_ent 13 [.ref 0, .ref 498, .ref 499, .ref 500, .int (nI a)]) [] (G X I L F) 0 0 Q := by
  have h60 := iv.1.1.1.1.1
  have i3 : I 498 3 = nI (aC s) := iv.2.1.2.2.2.1
  refine k_L_isAll_0 ?_
  rw [i3]
  refine ⟨fun h => ?_, fun h => ?_⟩
  · exact sp_ia79 ha q rc 0 I F none 0 0 (Nat.zero_add _) iv (by decide) (by decide)
  · have cp : 0 < aC s := Nat.pos_of_ne_zero fun e => h (by rw [e]; decide)
    have hv := Nat.mod_lt a cp
    have e1 : nI a - nI a / nI (aC s) * nI (aC s) = nI (a % aC s) := rem_n ha cp (by omega)
    have e2 : nI a / 60 = nI (a / 60) := pk_div (d := 60) ha (by decide) (by decide)
    have e3 : nI (a / 60) - nI (a / 60) / 80 * 80 = nI (a / 60 % 80) := rem_n (d := 80) (by omega) (by decide) (by decide)
    have nz : ¬ nI (aC s) = 0 := fun z => by have := (nI_eq (b := 0) (by omega) (by decide)).mp z; omega
    have l80 := Nat.mod_lt (a / 60) (show 0 < 80 by decide)
    rw [e1, e2, e3]
    refine ⟨nz, z_out iv hv (by omega) (fun J H a2 i2 lq lf => k_L_isAll_27 ?_)⟩
    rw [a2.2.1.2.2.2.1, e1, e2, e3]
    refine ⟨nz, by decide, z_outAnew a2 hv (by omega) (fun J2 H2 a3 i3 lq2 lf2 => k_L_isAll_47 (fun y ey => ?_))⟩
    obtain ⟨k1, k2⟩ := kv_most (x := OI I (a % aC s) (a / 60 % 80)) OO_kv
    have ey2 : y = 1 := by
      rw [ey, lq.oi, if_pos rfl, if_neg k1, if_neg k2]
    rw [ey2]
    exact sp_ia79 ha q rc 0 J2 H2 none _ _ (Nat.zero_add _) a3 (by decide) (by decide)
end LAL
