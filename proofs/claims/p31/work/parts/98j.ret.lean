/-! own: models are retired -/
set_option maxRecDepth 100000
section PR
variable {s : AS} {m k : Nat} {N : Nat → Int32}
theorem retA_ok (w : WA s) (fr : Frsh s) (hm : m < 6) (no : ∀ k, k < 6 → ¬ RT (aN s) k m) : WA (retA m s) ∧ Frsh (retA m s) := by
  have eL : ∀ k, k ≠ m → aL (retA m s) k = aL s k := fun k h => if_neg h
  refine ⟨⟨w.1, w.2.1, fun k hk => ?_⟩, fun k hk h => ?_⟩
  · by_cases e : k = m
    · exact Or.inl (if_pos e)
    · rw [eL k e]; exact w.2.2 k hk
  · obtain ⟨v, hv, ev, j, hj, h1, h2⟩ := h
    have hc := w.1
    have hv2 : v < aC s := hv
    by_cases e : k = m
    · have : aL (retA m s) k = -1 := if_pos e
      exact nI_m1 (by omega) (ev.symm.trans this)
    · rw [eL k e] at ev
      have h1 : aP s v j ≠ -1 := h1
      by_cases jm : j = m
      · subst jm
        have z : aL s k ≠ -1 := fun n => nI_m1 (by omega) (ev.symm.trans n)
        refine no k hk (RT.one ?_)
        have e3 : aN s k = msk 0 (aT s v) := by unfold aN; rw [if_neg z, ev, nI_clamp (by omega)]
        rw [e3]
        exact (((w.2.1 v hv).2.1 j hj).2).mp h1
      · have h2 : aP s v j ≠ aL (retA m s) j := h2
        rw [eL j jm] at h2
        exact fr k hk ⟨v, hv, ev, j, hj, h1, h2⟩
theorem rt_last : ∀ n a b, a < 6 → pth N n a b → ∃ x, x < 6 ∧ ib (N x) b = true
  | 0, a, b, ha, p => ⟨a, ha, p⟩
  | n + 1, a, b, ha, p => by
    rcases p with p | ⟨x, hx, _, p⟩
    · exact ⟨a, ha, p⟩
    · exact rt_last n x b hx p
end PR
section ZR
variable {X : Nat × (Nat × (Nat → Int32))} {I J K : Nat → Nat → Int32} {L M : Nat → Nat → Int64} {F H : Nat → Nat → UInt32} {Q : AQ} {N T rc sc t n d r v k h x m j c0 : Nat} {s z : AS}
theorem z_retire (hX : X.1 ≤ 400000) (iv : Al s T rc sc t n N I L F) (hm : m < 6) (q1 : (aL s m = -1 ∨ ∃ k, k < 6 ∧ RT (aN s) k m) → Q (.inr 2) (G X I L F))
    (q2 : aL s m ≠ -1 → (∀ k, k < 6 → ¬ RT (aN s) k m) → ∀ J, Al (retA m s) T rc sc t n N J L F → Q (.inl (some (.int (aL s m)))) (G X J L F)) : WP mX9_retire 0 (am_ent 2 [.ref 0, .int (nI m)]) [] (G X I L F) 0 0 Q := by
  obtain ⟨iv, lc⟩ := iv
  obtain ⟨⟨⟨w, fr, ca, ma⟩, rcI, oc, nf, omI, z0⟩, _⟩ := id iv
  obtain ⟨f, hf0⟩ := exF (fun k => RT (aN s) k m)
  have hf : ∀ k, k < 6 → (f k = true ↔ RT (aN s) k m) := fun k _ => hf0 k
  refine sp_cretire w ca hm hf (fun c => q1 (c.imp id (fun ⟨k, hk, e⟩ => ⟨k, hk, (hf k hk).mp e⟩))) (fun c1 c2 ca2 => ?_)
  have no : ∀ k, k < 6 → ¬ RT (aN s) k m := fun k hk h => by
    have := (hf k hk).mpr h
    rw [c2 k hk] at this; cases this
  obtain ⟨w2, fr2⟩ := retA_ok w fr hm no
  rw [G_eq (J := am_u (am_u I 14 m (-1)) 1000505 m (-1)) (H := F) (fun o k h => am_u_ne (by omega)) (fun _ _ _ => rfl)]
  have ki : ∀ o k, ¬ (o = 14 ∧ k = m) → ¬ (o = 1000505 ∧ k = m) → am_u (am_u I 14 m (-1)) 1000505 m (-1) o k = I o k := fun o k a b => by
    rw [am_u_ne (by omega), am_u_ne (by omega)]
  have hc := w.1
  have row : ∀ o, 1000500 ≤ o → o ≠ 1000505 → am_u (am_u I 14 m (-1)) 1000505 m (-1) o = I o := fun o a b => funext fun k => ki o k (by omega) (by omega)
  have eo : OI (am_u (am_u I 14 m (-1)) 1000505 m (-1)) = OI I := OI_cong (row _ (by decide) (by decide)) (row _ (by decide) (by decide)) (row _ (by decide) (by decide)) (row _ (by decide) (by decide))
  have ca3 : CA (am_u (am_u I 14 m (-1)) 1000505 m (-1)) L (retA m s) := ca2.fr (fun o k a b c d => am_u_ne (by omega)) (fun o k a b c => am_u_ne (by omega)) hc
  have mas : MA (am_u (am_u I 14 m (-1)) 1000505 m (-1)) (retA m s) := by
    refine ⟨(ki _ _ (by omega) (by omega)).trans ma.1, ?_, fun k hk => ?_⟩
    · have mv : MAv (am_u (am_u I 14 m (-1)) 1000505 m (-1)) s := by
        unfold MAv
        rw [row 1000502 (by decide) (by decide), row 1000503 (by decide) (by decide), row 1000504 (by decide) (by decide), row 1000501 (by decide) (by decide)]
        exact ma.2.1
      exact mv
    · show _ = if k = m then -1 else aL s k
      by_cases e : k = m
      · rw [if_pos e, e, am_u_eq]
      · rw [if_neg e, am_u_ne (by omega), am_u_ne (by omega)]; exact ma.2.2 k hk
  have vi2 : VI (am_u (am_u I 14 m (-1)) 1000505 m (-1)) L F (retA m s) := ⟨⟨w2, fr2, ca3, mas⟩, rcI.fr (fun g hg k => ki _ k (by omega) (by omega)) (row _ (by decide) (by decide)), oc.fr eo (fun v hv => by have hv2 : v < aC s := hv; exact ki _ _ (by omega) (by omega)) (fun _ _ _ => rfl), nf, omI.fr eo (row _ (by decide) (by decide)) rfl, fun v a b => (ki _ _ (by omega) (by omega)).trans (z0 v a b)⟩
  have rr := iv.2.2.2.1
  have rr2 : RunR (am_u (am_u I 14 m (-1)) 1000505 m (-1)) F (aC (retA m s)) T rc := rr.fr (ki _ _ (by omega) (by omega)) (ki _ _ (by omega) (by omega)) (fun o k a b => ki o k (by omega) (by omega)) (fun o h => row o (by omega) (by omega)) (fun _ _ _ _ => rfl) rfl
  have iv2 : InvS (retA m s) T rc sc t n N (am_u (am_u I 14 m (-1)) 1000505 m (-1)) L F := InvS.quiet3 iv vi2 rr2 (fun o k h => ki o k (by omega) (by omega)) (fun _ _ _ => rfl)
  refine q2 c1 no _ ⟨iv2, lc.pub (z := retA m s) (fun r hr => ki _ _ (by omega) (by omega)) (fun o k h => ki o k (by omega) (by omega)) ((ki _ _ (by omega) (by omega)).trans lc.1.2.2.2.1) (fun v hv h => ?_) lc.2.2.2.2.2.2.2 (fun v t _ => by rw [eo]) (fun r hr => ?_) hc⟩
  · rw [ki _ _ (by omega) (by omega)]
    refine lc.2.2.2.2.1 v hv (h.imp (fun ⟨k, hk, e⟩ => ⟨k, hk, ?_⟩) (fun ⟨r, hr, e⟩ => ⟨r, hr, by rw [ki _ _ (by omega) (by omega)] at e; exact e⟩))
    have e2 : (if k = m then -1 else aL s k) = nI v := e
    have hv2 : v < aC s := hv
    by_cases km : k = m
    · rw [if_pos km] at e2
      exact absurd e2.symm (nI_m1 (by omega))
    · rw [if_neg km] at e2; exact e2
  · obtain ⟨v, a, b, z1, z2, z3, z4, z5, _⟩ := rr.2.2.2 r hr
    exact ⟨v, z1, z5⟩
theorem sp_nam4 (iv : InvS s T rc sc t n N I L F) (hm : m < 6) (q1 : (∃ k, k < 6 ∧ ib (aN s k) m = true) → Q (.inl (some (.int 1))) (G X I L F)) (q0 : (∀ k, k < 6 → ib (aN s k) m = false) → Q (.inl (some (.int 0))) (G X I L F)) :
    ∀ (f k : Nat) (y : Int32) (c0 s0 : Nat), k + f = 6 → ((y = 0 ∧ ∀ j, j < k → ib (aN s j) m = false) ∨ (y = 1 ∧ ∃ k, k < 6 ∧ ib (aN s k) m = true)) → c0 ≤ 3 * k → s0 ≤ 18 * k →
      WP mL_isNamed 4 [some (.ref 0), some (.int (nI m)), some (.int y), some (.int (nI k))] [] (G X I L F) c0 s0 Q
  | 0, k, y, c0, s0, hk, hy, hc, hs => by
    have e6 : k = 6 := by omega
    subst e6
    refine k_L_isNamed_4 ⟨fun _ => ?_, fun h => absurd (show (6 : Int32) ≤ nI 6 by decide) h⟩
    rcases hy with ⟨e, h⟩ | ⟨e, h⟩
    · rw [e]; exact ⟨Or.inl rfl, q0 h⟩
    · rw [e]; exact ⟨Or.inr rfl, q1 h⟩
  | f + 1, k, y, c0, s0, hk, hy, hc, hs => by
    have w := iv.1.1.1
    refine k_L_isNamed_4 ⟨fun h => absurd ((nI_leI (a := 6) (by decide) (by omega)).mp h) (by omega), fun _ => ⟨fun y0 => ?_, fun y0 => ?_⟩⟩
    · have hj := (hy.resolve_right (fun z => by rw [z.1] at y0; exact absurd y0 (by decide))).2
      subst y0
      have nx : ∀ (y2 : Int32) (c2 s2 : Nat), ((y2 = 0 ∧ ib (aN s k) m = false) ∨ (y2 = 1 ∧ ib (aN s k) m = true)) → c2 ≤ c0 + 3 → s2 ≤ s0 + 18 → WP mL_isNamed 4 [some (.ref 0), some (.int (nI m)), some (.int y2), some (.int (nI k + 1))] [] (G X I L F) c2 s2 Q := fun y2 c2 s2 h hc2 hs2 => by
        rw [nI_1]
        refine sp_nam4 iv hm q1 q0 f (k + 1) y2 c2 s2 (by omega) ?_ (by omega) (by omega)
        rcases h with ⟨e, h⟩ | ⟨e, h⟩
        · refine Or.inl ⟨e, fun j hj2 => ?_⟩
          by_cases jk : j = k
          · rw [jk]; exact h
          · exact hj j (by omega)
        · exact Or.inr ⟨e, k, by omega, h⟩
      refine ⟨by omega, z_latest iv (by omega) (k_L_isNamed_19 ⟨fun la => ?_, fun la => ⟨by omega, ?_⟩⟩)⟩
      · refine nx 0 _ _ (Or.inl ⟨rfl, ?_⟩) (by omega) (by omega)
        unfold aN
        rw [if_pos la, ib_0]
      · obtain ⟨v, hv, ev, em, _, en⟩ := st_lat w (show k < 6 by omega) la
        refine z_latest iv (by omega) (k_L_isNamed_29 ⟨by omega, ?_⟩)
        rw [ev]
        refine z_pin iv hv hm (k_L_isNamed_33 (fun y2 ey2 => nx y2 _ _ ?_ (by omega) (by omega)))
        have pi := ((w.2.1 v hv).2.1 m hm).2
        rw [en]
        by_cases a : aP s v m = -1
        · rw [if_pos a] at ey2
          exact Or.inl ⟨ey2, Bool.eq_false_iff.mpr fun u => (pi.mpr u) a⟩
        · rw [if_neg a] at ey2
          exact Or.inr ⟨ey2, pi.mp a⟩
    · have h1 := (hy.resolve_left (fun z => y0 z.1)).2
      rw [nI_1]
      exact sp_nam4 iv hm q1 q0 f (k + 1) 1 c0 s0 (by omega) (Or.inr ⟨rfl, h1⟩) (by omega) (by omega)
theorem sp_named (iv : InvS s T rc sc t n N I L F) (hm : m < 6) (q1 : (∃ k, k < 6 ∧ ib (aN s k) m = true) → Q (.inl (some (.int 1))) (G X I L F)) (q0 : (∀ k, k < 6 → ib (aN s k) m = false) → Q (.inl (some (.int 0))) (G X I L F)) : WP mL_isNamed 0 (am_ent 4 [.ref 0, .int (nI m)]) [] (G X I L F) 0 0 Q :=
  k_L_isNamed_0 (sp_nam4 iv hm q1 q0 6 0 0 0 0 rfl (Or.inl ⟨rfl, fun j hj => absurd hj (by omega)⟩) (by decide) (by decide))
/-- the law's retiring -/
theorem sp_step156 {c0 s0 : Nat} {x5 x6 x8 x9 : Int32} (hX : X.1 ≤ 400000) (iv : Al s T rc sc t n N I L F) (hm : m < 6) (hc : c0 ≤ 10) (hs : s0 ≤ 60) {x7 : Int32}
    (q : ∀ (s2 : AS) J, Al s2 T rc sc t n N J L F → Q (.inl (some (.int 1))) (G X J L F)) : WP mL_step 156 [some (.ref 0), some (.ref 498), some (.ref 499), some (.ref 500), some (.ref 501), some (.int x5), some (.int x6), some (.int x7), some (.int x8), some (.int x9), some (.int (nI m)), none, none] [.int (aL s m)] (G X I L F) c0 s0 Q := by
  have w := iv.1.1.1.1
  have hcc := w.1
  refine k_L_step_156 ⟨fun _ => ⟨by omega, k_L_ofRetire_0 (z_retire hX iv hm (fun h => ?_) (fun la no J a2 => ?_))⟩, fun _ y ey => ?_⟩
  · refine ⟨_, rfl, trivial, k_L_ofRetire_7 (k_L_step_187 ⟨fun _ y ey => ?_, fun la => ⟨by omega, ?_⟩⟩)⟩
    · rw [if_pos rfl] at ey
      rw [ey]
      exact ⟨Or.inr rfl, q s I iv⟩
    · obtain ⟨k, hk, nn, p⟩ := h.resolve_left la
      have nm := rt_last nn k m hk p
      refine sp_named iv.1 hm (fun _ => k_L_step_199 (fun v ev y ey => ?_)) (fun no => ?_)
      · rw [if_neg (show ¬ (1 : Int32) = 0 by decide)] at ev
        rw [ev, if_pos rfl] at ey
        rw [ey]
        exact ⟨Or.inr rfl, q s I iv⟩
      · obtain ⟨x, hx, u⟩ := nm
        rw [no x hx] at u; cases u
  · refine k_L_ofRetire_5 (k_L_step_187 ⟨fun h => absurd h la, fun _ => ⟨by omega, ?_⟩⟩)
    refine sp_named a2.1 hm (fun ⟨k, hk, u⟩ => ?_) (fun _ => k_L_step_199 (fun v ev y ey => ?_))
    · exfalso
      by_cases km : k = m
      · have e : aN (retA m s) k = 0 := by
          unfold aN
          rw [if_pos (show aL (retA m s) k = -1 from if_pos km)]
        rw [e, ib_0] at u; cases u
      · have e : aN (retA m s) k = aN s k := by
          unfold aN
          rw [show aL (retA m s) k = aL s k from if_neg km]
          rfl
        rw [e] at u
        exact no k hk (RT.one u)
    · rw [if_pos rfl] at ev
      rw [ev, if_pos rfl] at ey
      rw [ey]
      exact ⟨Or.inr rfl, q _ J a2⟩
  · have ey2 : y = 1 := by
      rw [ey, iv.2.1.2.2.2.1]
      by_cases la : aL s m = -1
      · rw [la, if_neg (fun z => absurd (Int32.le_trans (show (0 : Int32) ≤ nI (aC s) from (nI_leI (a := 0) (by decide) (by omega)).mpr (by omega)) z) (by decide))]
      · obtain ⟨v, hv, ev, _⟩ := st_lat w hm la
        rw [ev, if_neg (fun z => by have := (nI_leI (by omega) (by omega)).mp z; omega)]
    rw [ey2]
    exact ⟨Or.inr rfl, q s I iv⟩
end ZR
