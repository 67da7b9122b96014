/-! own: the law's loop -/
set_option maxRecDepth 100000
section LLW
variable {X : Nat × (Nat × (Nat → Int32))} {I J K : Nat → Nat → Int32} {L M : Nat → Nat → Int64} {F H : Nat → Nat → UInt32} {Q : AQ} {N T rc sc t n k st : Nat} {s : AS}
theorem sp_draw (hk : k ≤ 1000) (hL : X.2.1 ≤ 260) (q : ∀ j, j < 2 ^ 31 → Q (.inl (some (.int (nI j)))) (G X I L F)) : WP mL_draw 0 (am_ent 2 [.ref 1000000, .int (nI k)]) [] (G X I L F) 0 0 Q := by
  refine k_L_draw_0 ⟨fun h => ⟨?_, trivial⟩, fun y ey => ?_⟩
  · have : ¬ X.2.1 ≤ k := fun z => h ((nI_leI (by omega) (by omega)).mpr z)
    exact nI_in (by omega) (by omega)
  · by_cases c : nI X.2.1 ≤ nI k
    · rw [if_pos c] at ey
      have e : (104729 : Int32) * (nI k + 2) = nI (104729 * (k + 2)) := by
        rw [show nI k + 2 = nI (k + 2) from nI_add k 2, show (104729 : Int32) = nI 104729 from rfl, nI_mul]
      rw [e, show nI (104729 * (k + 2)) - nI (104729 * (k + 2)) / 65521 * 65521 = nI (104729 * (k + 2) % 65521) from rem_n (d := 65521) (by omega) (by decide) (by decide)] at ey
      rw [ey]
      exact q _ (by omega)
    · rw [if_neg c] at ey
      obtain ⟨j, hj, e⟩ := pk_andE (X.2.2 (nI k).toNatClampNeg) (m := 2147483647) 31 (by decide)
      rw [ey, e]
      exact q j hj
theorem sp_law101 (hst : st ≤ 90) (q : ∀ h, Q (.inl (some (.int 1))) h) :
    ∀ (f k : Nat) (X : Nat × (Nat × (Nat → Int32))) (s : AS) (T rc sc t n : Nat) (I : Nat → Nat → Int32) (L : Nat → Nat → Int64) (F : Nat → Nat → UInt32) (d9 : Option Value) (c0 s0 : Nat), k + f = st → X.1 ≤ 2 * k → X.1 % 2 = 0 → X.2.1 ≤ 260 → Al s T rc sc t n (2 * k) I L F → c0 ≤ 1000 + 700 * k → s0 ≤ 25000 + 4400 * k →
      WP mL_law 101 [some (.ref 1000000), some (.ref 0), some (.ref 498), some (.ref 499), some (.ref 500), some (.ref 501), some (.int 1), some (.int (nI st)), some (.int (nI k)), d9] [] (G X I L F) c0 s0 Q
  | 0, k, X, s, T, rc, sc, t, n, I, L, F, d9, c0, s0, hk, hX, hE, hL, iv, hc, hs => by
    have e : k = st := by omega
    subst e
    refine k_L_law_101 ⟨fun _ => ⟨fun h => absurd h (by decide), fun _ => ⟨by omega, ?_⟩⟩, fun h => absurd (Int32.le_refl _) h⟩
    refine sp_isAll (a := 7) (by decide) iv (fun J H _ => k_L_law_208 (fun y ey => ?_))
    rw [if_neg (show ¬ (1 : Int32) = 0 by decide)] at ey
    rw [ey]
    exact ⟨Or.inr rfl, q _⟩
  | f + 1, k, X, s, T, rc, sc, t, n, I, L, F, d9, c0, s0, hk, hX, hE, hL, iv, hc, hs => by
    have one : ¬ (1 : Int32) = 0 := by decide
    have e3 : (3 : Int32) * nI k = nI (3 * k) := by rw [show (3 : Int32) = nI 3 from rfl, nI_mul]
    have e31 : nI (3 * k) + 1 = nI (3 * k + 1) := nI_add _ 1
    have e32 : nI (3 * k) + 2 = nI (3 * k + 2) := nI_add _ 2
    refine k_L_law_101 ⟨fun h => absurd ((nI_leI (by omega) (by omega)).mp h) (by omega), fun _ => ⟨fun h => absurd h one, fun _ => ⟨by omega, ?_⟩⟩⟩
    rw [e3, e31]
    refine sp_draw (by omega) hL (fun a la => k_L_law_123 ⟨by omega, ?_⟩)
    rw [e3]
    refine sp_draw (by omega) hL (fun wh lw => k_L_law_140 ⟨by omega, ?_⟩)
    rw [e3, e32]
    refine sp_draw (by omega) hL (fun b lb => k_L_law_152 ⟨by omega, ?_⟩)
    refine sp_step (by omega) hE (by omega) iv lw la lb (fun X2 s2 T2 rc2 sc2 t2 n2 K M H hx a2 => k_L_law_155 ⟨fun h => absurd h one, fun _ => ?_⟩)
    have hX2 : X2.1 ≤ 2 * (k + 1) ∧ X2.1 % 2 = 0 ∧ X2.2.1 ≤ 260 := by
      rcases hx with e | e
      · rw [e]; exact ⟨by omega, hE, hL⟩
      · rw [e]; exact ⟨show X.1 + 1 + 1 ≤ 2 * (k + 1) by omega, show (X.1 + 1 + 1) % 2 = 0 by omega, hL⟩
    have a3 : Al s2 T2 rc2 sc2 t2 n2 (2 * (k + 1)) K M H := a2
    refine ⟨fun _ => ?_, fun _ => ⟨by omega, ?_⟩⟩
    · rw [nI_1]
      exact sp_law101 hst q f (k + 1) X2 s2 T2 rc2 sc2 t2 n2 K M H _ _ _ (by omega) hX2.1 hX2.2.1 hX2.2.2 a3 (by omega) (by omega)
    · rw [show nI a / 3 = nI (a / 3) from pk_div (d := 3) la (by decide) (by decide)]
      refine sp_isAll (a := a / 3) (by omega) a3 (fun J2 H2 a4 => k_L_law_177 (fun y ey => ?_))
      rw [if_neg one] at ey
      rw [ey, nI_1]
      exact sp_law101 hst q f (k + 1) X2 s2 T2 rc2 sc2 t2 n2 J2 M H2 _ _ _ (by omega) hX2.1 hX2.2.1 hX2.2.2 a4 (by omega) (by omega)
theorem am_loop {L : Nat} {xs : Nat → Int32} {Q : AQ} (hL : L ≤ 260) (q : ∀ h, Q (.inl (some (.int 1))) h) : WP mL_law 30 [some (.ref 1000000), some (.ref 0), some (.ref 498), some (.ref 499), some (.ref 500), some (.ref 501), none, none, none, none] [] (G (0, (L, xs)) gI0 (fun _ _ => 0) gF0) 502 20626 Q := by
  have hX : ((0, (L, xs)) : Nat × (Nat × (Nat → Int32))).1 ≤ 400000 := show 0 ≤ 400000 by decide
  rw [G_eq (X := (0, (L, xs))) (J := gJ0) (H := gH0) (fun o k h => gJ_lo (show o < 1000498 by have : o < 502 + 0 := h; omega)) (fun o k h => gH_lo (by omega))]
  refine k_L_law_30 ⟨by decide, z_fault al0 (Or.inl rfl) (fun J1 a1 f1 e1 => k_L_law_35 ⟨fun _ => ⟨by decide, ?_⟩, fun h => absurd (show rFault 0 [] = 0 by decide) h⟩)⟩
  refine z_wipe hX a1 (fun J2 a2 f2 => k_L_law_42 ⟨fun _ => ⟨by decide, ?_⟩, fun h => absurd (show nI 0 = 0 by decide) h⟩)
  refine z_latest (k := 5) a2.1 (by decide) (k_L_law_50 ⟨fun _ => ⟨by decide, ?_⟩, fun h => absurd (show aL as0 5 = -1 from rfl) h⟩)
  have z526 : ∀ d, d < 3 → J2 1000526 d = 0 := fun d hd => by
    have lv := (a2.2.2.1 d hd).1
    rw [← lv.2.2.1, f2 _ _ (by omega) (by omega), f1 _ _ (by omega) (by omega), gJ_lo (by omega)]
    exact gI0_e (gi_rows 498 (by decide) (by decide)) _
  have al : ∀ j, j ≤ 3 → alS as0 J2 0 (alE 0) j = 0 := fun j => by
    induction j with
    | zero => exact fun _ => rfl
    | succ j ih =>
      intro h
      show alS as0 J2 0 (alE 0) j ||| alB as0 J2 0 (alE 0) j = 0
      rw [ih (by omega)]
      unfold alB
      rw [if_pos (z526 j (by omega))]
      rfl
  refine z_alarm a2 (fun J3 H3 a3 lq lf => k_L_law_58 ⟨fun _ => ⟨by decide, ?_⟩, fun h => absurd (al 3 (Nat.le_refl 3)) h⟩)
  refine z_trust (d := 2) a3.1 (by decide) (k_L_law_66 (fun y ey z ez => ?_))
  have t1 : H3 1000530 2 = 1065353216 := (lf _ _ (by omega)).trans gH_1
  rw [t1, if_pos (show UInt32.toInt32 1065353216 = 1065353216 by decide)] at ey
  subst ey
  have d3 : nI L / 3 = nI (L / 3) := pk_div (d := 3) (by omega) (by decide) (by decide)
  have ez2 : z = nI (if L / 3 ≤ 90 then L / 3 else 90) := by
    have ez3 : z = if nI L / 3 ≤ 90 then nI L / 3 else 90 := ez
    rw [ez3, d3]
    by_cases c : L / 3 ≤ 90
    · rw [if_pos (show nI (L / 3) ≤ (90 : Int32) from (nI_leI (b := 90) (by omega) (by decide)).mpr c), if_pos c]
    · rw [if_neg (show ¬ nI (L / 3) ≤ (90 : Int32) from fun z => c ((nI_leI (b := 90) (by omega) (by decide)).mp z)), if_neg c]; rfl
  rw [ez2]
  exact sp_law101 (by split <;> omega) q _ 0 (0, (L, xs)) as0 0 0 0 0 0 J3 _ H3 none _ _ (Nat.zero_add _) (Nat.le_refl _) rfl hL a3 (by decide) (by decide)
theorem am_law {L : Nat} {xs : Nat → Int32} (hL : L ≤ 260) : WP mL_law 0 (am_ent 10 [.ref 1000000]) [] (am_h0 L xs) 0 0 am_Q1 := am_head (am_loop hL (fun _ => rfl))
end LLW
