/-! own: the law publishes -/
set_option maxRecDepth 100000
section LPB
variable {X : Nat × (Nat × (Nat → Int32))} {I J K : Nat → Nat → Int32} {L M : Nat → Nat → Int64} {F H : Nat → Nat → UInt32} {Q : AQ} {N T rc sc t n d r v k h x m j c0 : Nat} {s z : AS}
theorem sp_pb74 {x3 x4 x5 : Int32} {e : Nat} (he : e ≤ 99) (iv : InvS z T rc sc t n N K M F) (hj : j < 6) (q : ∀ (d9 d10 : Option Value) (c s : Nat), c ≤ e → s ≤ 6 * c → WP mL_publishes 28 [some (.ref 0), some (.ref 498), some (.ref 499), some (.int x3), some (.int x4), some (.int x5), some (.int 1), some (.int (nI (j + 1))), some (.int (aL z j)), d9, d10] [] (G X K M F) c s Q) :
    ∀ (m i : Nat) (d10 : Option Value) (c s : Nat), i + m = 6 → c + 2 * m ≤ e → s ≤ 6 * c → WP mL_publishes 74 [some (.ref 0), some (.ref 498), some (.ref 499), some (.int x3), some (.int x4), some (.int x5), some (.int 1), some (.int (nI j)), some (.int (aL z j)), some (.int (nI i)), d10] [] (G X K M F) c s Q
  | 0, i, d10, c, s, hi, hc, hs => by
    have e6 : i = 6 := by omega
    subst e6
    refine k_L_publishes_74 ⟨fun _ => ?_, fun a => absurd (show (6 : Int32) ≤ nI 6 by decide) a⟩
    rw [nI_1]
    exact q _ _ c s hc hs
  | m + 1, i, d10, c, s, hi, hc, hs => by
    refine k_L_publishes_74 ⟨fun a => absurd ((nI_leI (a := 6) (by decide) (by omega)).mp a) (by omega), fun _ => ⟨fun _ => ?_, fun la => ⟨by omega, ?_⟩⟩⟩
    · rw [nI_1]
      exact q _ _ c s (by omega) hs
    have w := iv.1.1.1
    have hcz := w.1
    obtain ⟨v, hv, ev, _⟩ := st_lat w hj la
    have go : ∀ (d10 : Option Value) (c2 s2 : Nat), c2 ≤ c + 2 → s2 ≤ 6 * c2 → WP mL_publishes 74 [some (.ref 0), some (.ref 498), some (.ref 499), some (.int x3), some (.int x4), some (.int x5), some (.int 1), some (.int (nI j)), some (.int (aL z j)), some (.int (nI i + 1)), d10] [] (G X K M F) c2 s2 Q := fun d10 c2 s2 h1 h2 => by
      rw [nI_1]
      exact sp_pb74 he iv hj q m (i + 1) d10 c2 s2 (by omega) (by omega) h2
    rw [ev]
    refine z_pin iv hv (by omega) (k_L_publishes_95 ⟨fun a => absurd a (by decide), fun _ => ⟨fun _ => ?_, fun pn => ⟨by omega, ?_⟩⟩⟩)
    · rw [← ev]
      exact go _ _ _ (by omega) (by omega)
    · refine z_latest iv (by omega) (k_L_publishes_116 (fun y ey => ?_))
      have pe : aP z v i = aL z i := Classical.byContradiction fun ne => iv.1.1.2.1 j hj ⟨v, hv, ev, i, by omega, pn, ne⟩
      rcases ((w.2.1 v hv).2.1 i (by omega)).1 with a | ⟨u, hu, a⟩
      · exact absurd a pn
      · have ey2 : y = 1 := by
          rw [ey, if_pos pe, a, if_neg (fun z => by have := (nI_leI (by omega) (by omega)).mp z; omega)]
        rw [ey2, ← ev]
        exact go _ _ _ (by omega) (by omega)
theorem sp_pb28 {x4 : Int32} (iv : InvS z T rc sc t n N J M F) (hm : m < 6) (e4 : x4 = nI c0) (lm : aL z m = nI c0) (l1 : c0 < aC z) (l2 : aC z ≤ c0 + 6) (top : ∃ k, k < 6 ∧ aL z k = nI (aC z - 1)) (rl : ∀ r, r < rc → ∃ v, J 1000511 r = nI v)
    (q : ∀ K, (∀ o k, o ≠ 499 → ¬ (o = 498 ∧ k = 3) → K o k = J o k) → K 498 3 = nI (aC z) → LV z rc K → Q (.inl (some (.int 1))) (G X K M F)) :
    ∀ (f j : Nat) (K : Nat → Nat → Int32) (y : Int32) (d8 d9 d10 : Option Value) (c s : Nat), j + f = 6 → (∀ o k, o ≠ 499 → K o k = J o k) → (∀ v, v < aC z → ((∃ k, k < j ∧ aL z k = nI v) ∨ (∃ r, r < rc ∧ J 1000511 r = nI v)) → K 499 v = aM z v) → (y = -1 ∨ ∃ u, u < aC z ∧ y = nI u) → (∀ k, k < j → aL z k ≤ y) → c + 13 * f ≤ 98 → s ≤ 6 * c →
      WP mL_publishes 28 [some (.ref 0), some (.ref 498), some (.ref 499), some (.int (nI m)), some (.int x4), some (.int y), some (.int 1), some (.int (nI j)), d8, d9, d10] [] (G X K M F) c s Q
  | 0, j, K, y, d8, d9, d10, c, s, hj, fr, lv, hy, ly, hc, hs => by
    have e6 : j = 6 := by omega
    subst e6
    have hcz := iv.1.1.1.1
    obtain ⟨k, hk, ek⟩ := top
    have lk := ly k hk
    rw [ek] at lk
    have ey : y = nI (aC z - 1) := by
      rcases hy with e | ⟨u, hu, e⟩
      · rw [e] at lk
        exact absurd (Int32.le_trans (show (0 : Int32) ≤ nI (aC z - 1) from (nI_leI (a := 0) (by decide) (by omega)).mpr (by omega)) lk) (by decide)
      · rw [e] at lk
        have := (nI_leI (by omega) (by omega)).mp lk
        rw [e, show u = aC z - 1 by omega]
    refine k_L_publishes_28 ⟨fun _ => ⟨fun a => absurd a (by decide), fun _ => ⟨by omega, ?_⟩⟩, fun a => absurd (show (6 : Int32) ≤ nI 6 by decide) a⟩
    have iv2 : InvS z T rc sc t n N (am_u K 498 3 (y + 1)) M F := iv.row (fun o k h => (am_u_ne (by omega)).trans (fr o k (by omega)))
    refine z_latest iv2 hm (k_L_publishes_162 (fun w ew => ?_))
    have ew2 : w = 1 := by
      rw [ew, lm, e4, if_pos rfl, ey, if_neg (fun z => by have := (nI_ltI (by omega) (by omega)).mp z; omega), show nI c0 + 6 = nI (c0 + 6) from nI_add c0 6, if_neg (fun z => by have := (nI_leI (by omega) (by omega)).mp z; omega)]
    rw [ew2]
    refine ⟨Or.inr rfl, q _ (fun o k a b => (am_u_ne (by omega)).trans (fr o k a)) ?_ (fun v hv h => ?_)⟩
    · rw [am_u_eq, ey, nI_1, show aC z - 1 + 1 = aC z by omega]
    · rw [am_u_ne (by omega)]
      refine lv v hv (h.imp id (fun ⟨r, hr, e⟩ => ⟨r, hr, ?_⟩))
      rw [am_u_ne (by omega), fr _ _ (by omega)] at e
      exact e
  | f + 1, j, K, y, d8, d9, d10, c, s, hj, fr, lv, hy, ly, hc, hs => by
    have w := iv.1.1.1
    have hcz := w.1
    have ivK : InvS z T rc sc t n N K M F := iv.row (fun o k h => fr o k (by omega))
    refine k_L_publishes_28 ⟨fun a => absurd ((nI_leI (a := 6) (by decide) (by omega)).mp a) (by omega), fun _ => ⟨by omega, ?_⟩⟩
    refine z_latest ivK (by omega) (k_L_publishes_41 (fun y2 ey2 => ⟨fun la => ?_, fun K2 eK2 => ?_⟩))
    · obtain ⟨v, hv, ev, _⟩ := st_lat w (show j < 6 by omega) la
      rw [ev]
      exact ⟨nI_in (by omega) (by decide), trivial⟩
    have fr2 : ∀ o k, o ≠ 499 → K2 o k = J o k := fun o k a => by
      rw [eK2]
      by_cases la : aL z j = -1
      · rw [if_pos la]; exact fr o k a
      · rw [if_neg la, am_u_ne (by omega)]; exact fr o k a
    have iv2 : InvS z T rc sc t n N K2 M F := iv.row (fun o k h => fr2 o k (by omega))
    have lv2 : ∀ v, v < aC z → ((∃ k, k < j + 1 ∧ aL z k = nI v) ∨ (∃ r, r < rc ∧ J 1000511 r = nI v)) → K2 499 v = aM z v := fun v hv h => by
      rw [eK2]
      by_cases la : aL z j = -1
      · rw [if_pos la]
        refine lv v hv (h.imp (fun ⟨k, hk, e⟩ => ⟨k, ?_, e⟩) id)
        by_cases kj : k = j
        · rw [kj, la] at e
          exact absurd e.symm (nI_m1 (by omega))
        · omega
      · rw [if_neg la]
        obtain ⟨v0, hv0, ev0, em0, _⟩ := st_lat w (show j < 6 by omega) la
        rw [ev0, nI_clamp (show v0 < 2 ^ 31 by omega)]
        by_cases vv : v = v0
        · rw [vv, am_u_eq]; exact em0.symm
        · rw [am_u_ne (by omega)]
          refine lv v hv (h.imp (fun ⟨k, hk, e⟩ => ⟨k, ?_, e⟩) id)
          by_cases kj : k = j
          · rw [kj, ev0] at e
            exact absurd ((nI_eq (by omega) (by omega)).mp e).symm vv
          · omega
    have hy2 : y2 = -1 ∨ ∃ u, u < aC z ∧ y2 = nI u := by
      rw [ey2]
      by_cases c1 : aL z j ≤ y
      · rw [if_pos c1]; exact hy
      · rw [if_neg c1]
        by_cases la : aL z j = -1
        · exact Or.inl la
        · obtain ⟨v0, hv0, ev0, _⟩ := st_lat w (show j < 6 by omega) la
          exact Or.inr ⟨v0, hv0, ev0⟩
    have ly2 : ∀ k, k < j + 1 → aL z k ≤ y2 := fun k hk => by
      rw [ey2]
      by_cases c1 : aL z j ≤ y
      · rw [if_pos c1]
        by_cases kj : k = j
        · rw [kj]; exact c1
        · exact ly k (by omega)
      · rw [if_neg c1]
        by_cases kj : k = j
        · rw [kj]; exact Int32.le_refl _
        · exact Int32.le_trans (ly k (by omega)) (Int32.le_of_lt (Int32.not_le.mp c1))
    exact sp_pb74 (e := c + 13) (by omega) iv2 (by omega) (fun d9 d10 c2 s2 h1 h2 => sp_pb28 iv hm e4 lm l1 l2 top rl q f (j + 1) K2 y2 _ d9 d10 c2 s2 (by omega) fr2 lv2 hy2 ly2 (by omega) h2) 6 0 _ _ _ (by omega) (by omega) (by omega)
theorem sp_pubs (hX : X.1 ≤ 400000) (iv : Al s T rc sc t n N I L F) (hm : m < 6) (h50 : aC s ≤ 50) (tx : Txt 0 (seg (I 2) 0 n)) (tn : ∀ k, k < 6 → ib (msk 0 (seg (I 2) 0 n)) k = true → k < m ∧ aL s k ≠ -1)
    (q : ∀ (s2 : AS) K M, Al s2 T rc sc t n N K M F → Q (.inl (some (.int 1))) (G X K M F)) : WP mL_publishes 0 (am_ent 11 [.ref 0, .ref 498, .ref 499, .int (nI m)]) [] (G X I L F) 0 0 Q := by
  refine k_L_publishes_0 (z_publish hX iv hm h50 tx tn (fun s2 J M iv2 tf l1 l2 lm top ma e499 e3 al rl => k_L_publishes_5 (fun y ey => ?_)))
  have c3 : I 498 3 = nI (aC s) := iv.2.1.2.2.2.1
  have ey2 : y = 1 := by rw [ey, e3, c3, if_pos rfl]
  rw [ey2]
  have lv0 := iv.2.2.2.2.2.1
  refine sp_pb28 iv2 hm rfl lm l1 l2 top (fun r hr => by obtain ⟨v, _, a, _⟩ := rl r hr; exact ⟨v, a⟩) (fun K fr e lv => q s2 K M (al K fr e lv)) 6 0 J (-1) none none none _ _ (by omega) (fun _ _ _ => rfl) (fun v hv h => ?_) (Or.inl rfl) (fun k hk => absurd hk (by omega)) (by decide) (by decide)
  rcases h with ⟨k, hk, _⟩ | ⟨r, hr, e⟩
  · exact absurd hk (by omega)
  · obtain ⟨v2, hv2, a, b⟩ := rl r hr
    have h60 := iv2.1.1.1.1
    have vv : v = v2 := (nI_eq (by omega) (by omega)).mp (e.symm.trans a)
    subst vv
    rw [e499 v, ma v hv2]
    exact lv0 v hv2 (Or.inr ⟨r, hr, b⟩)
end LPB
