/-! own: the gauges under a version; why a run does not stand, by the model -/
set_option maxRecDepth 100000
/-- the gauge g is named by the version v, or by one under it -/
def GU (I : Nat → Nat → Int32) (v g : Nat) : Prop := ∃ u, u ≤ v ∧ Rch (I 504) v u ∧ ib (msk 1 (vT (I 502) (I 503) u)) g = true
/-- another rain was told behind a run's making that it hangs on -/
def RP (I : Nat → Nat → Int32) (r : Nat) (z : Nat → Prop) : Prop := ∃ k, k < 603 ∧ z (k / 201) ∧ nI (k % 201) ≤ I 513 r ∧ I 516 r < I 508 k
section WY
variable {X : Nat × (Nat → Int32)} {I : Nat → Nat → Int32} {L : Nat → Nat → Int64} {F : Nat → Nat → UInt32} {Q : AQ} {c v r : Nat}
theorem sp_gau12 {S : Int64} (hc : c ≤ 60) (hv : v < c) (wm : VM I c) (hS : ∀ u, lb S u = true ↔ Rch (I 504) v u) (q : ∀ z : Int32, (∀ g, ib z g = true ↔ GU I v g) → Q (.inl (some (.int z))) (G X I L F)) : ∀ (m k : Nat) (x4 : Int32), k + m = v + 1 → (∀ g, ib x4 g = true ↔ ∃ u, u < k ∧ Rch (I 504) v u ∧ ib (msk 1 (vT (I 502) (I 503) u)) g = true) →
    WP mX10_gaugesOf 12 [some (.ref 498), some (.int (nI v)), some (.long S), none, some (.int x4), some (.int (nI k))] [] (G X I L F) 0 0 Q
  | 0, k, x4, hk, h => by
    refine k_X10_gaugesOf_12 ⟨fun _ => q x4 (fun g => (h g).trans ⟨fun ⟨u, a, b⟩ => ⟨u, by omega, b⟩, fun ⟨u, a, b⟩ => ⟨u, by omega, b⟩⟩), fun n => absurd ((nI_ltI (a := v) (b := k) (by omega) (by omega)).mpr (by omega)) n⟩
  | m + 1, k, x4, hk, h => by
    refine k_X10_gaugesOf_12 ⟨fun n => absurd ((nI_ltI (a := v) (b := k) (by omega) (by omega)).mp n) (by omega), fun _ => ?_⟩
    rw [lc_1 (show k < 64 by omega), nI_1]
    refine ⟨fun b => ?_, fun b => ?_⟩
    · have z := wm k (by omega)
      refine sp_names (areG := 1) (Or.inr rfl) (by omega) z.1 z.2.1 (k_X10_gaugesOf_38 ?_)
      rw [nI_1]
      refine sp_gau12 hc hv wm hS q m (k + 1) _ (by omega) (fun g => ?_)
      rw [ib_or, Bool.or_eq_true]
      constructor
      · rintro (e | e)
        · obtain ⟨u, a, b2⟩ := (h g).mp e; exact ⟨u, by omega, b2⟩
        · exact ⟨k, by omega, (hS k).mp b, e⟩
      · rintro ⟨u, a, b2, b3⟩
        by_cases uk : u = k
        · subst uk; exact Or.inr b3
        · exact Or.inl ((h g).mpr ⟨u, by omega, b2, b3⟩)
    · rw [Int32.or_zero]
      refine sp_gau12 hc hv wm hS q m (k + 1) _ (by omega) (fun g => (h g).trans ⟨fun ⟨u, a, b2⟩ => ⟨u, by omega, b2⟩, fun ⟨u, a, b2⟩ => ?_⟩)
      by_cases uk : u = k
      · subst uk; exact absurd ((hS u).mpr b2.1) b
      · exact ⟨u, by omega, b2⟩
theorem sp_gaugesOf (hc : c ≤ 60) (hv : v < c) (wm : VM I c) (q : ∀ z : Int32, (∀ g, ib z g = true ↔ GU I v g) → Q (.inl (some (.int z))) (G X I L F)) : WP mX10_gaugesOf 0 (am_ent 6 [.ref 498, .int (nI v)]) [] (G X I L F) 0 0 Q := by
  refine k_X10_gaugesOf_0 (sp_closure (by omega) (fun u hu => (wm u (by omega)).2.2.1) (fun S hS => k_X10_gaugesOf_5 ?_))
  exact sp_gau12 hc hv wm hS q (v + 1) 0 0 (by omega) (fun g => by rw [ib_0]; exact ⟨fun h => (by cases h), fun ⟨u, a, _⟩ => (by omega)⟩)
theorem d201 : ∀ k, k < 603 → nI k / 201 = nI (k / 201) ∧ nI k - nI k / 201 * 201 = nI (k % 201) := by decide +kernel
theorem sp_why19 {z : Int32} {b mo : Nat} (hr : r < 40) (hv : v < 60) (e511 : I 511 r = nI v) (e501 : I 501 v = nI mo) (hmo : mo < 6) (q : ∀ w : Int32, (I 505 mo ≠ nI v → w = 1) → (I 505 mo = nI v → RP I r (fun g => ib z g = true) → w = 2) → (I 505 mo = nI v → ¬ RP I r (fun g => ib z g = true) → w = 0) → Q (.inl (some (.int w))) (G X I L F)) : ∀ (m k : Nat) (x4 : Int32) (d6 : Option Value), k + m = 603 → (x4 = 0 ∨ x4 = 1) → (x4 = 1 ↔ ∃ j, j < k ∧ ib z (j / 201) = true ∧ nI (j % 201) ≤ I 513 r ∧ I 516 r < I 508 j) →
    WP mX10_whyOf 19 [some (.ref 498), some (.int (nI r)), some (.int (nI v)), some (.int z), some (.int x4), some (.int (nI k)), d6] [] (G X I L F) 0 0 Q
  | 0, k, x4, d6, hk, h01, h => by
    have cv : (nI v).toNatClampNeg = v := nI_clamp (by omega)
    have cm : (nI mo).toNatClampNeg = mo := nI_clamp (by omega)
    have e : k = 603 := by omega
    subst e
    refine k_X10_whyOf_19 ⟨fun _ => ⟨nI_in (by omega) (by decide), ?_⟩, fun n => absurd (by decide) n⟩
    rw [cv, e501, cm]
    refine ⟨nI_in (by omega) (by decide), fun s es => q s (fun n => ?_) (fun n p => ?_) (fun n p => ?_)⟩
    · rw [es, if_neg n]
    · rw [es, if_pos n, if_neg]
      intro z0
      have := h.mpr p
      rw [z0] at this
      exact absurd this (by decide)
    · rw [es, if_pos n, if_pos]
      rcases h01 with e | e
      · exact e
      · exact absurd (h.mp e) p
  | m + 1, k, x4, d6, hk, h01, h => by
    have ck : (nI k).toNatClampNeg = k := nI_clamp (by omega)
    have cr : (nI r).toNatClampNeg = r := nI_clamp (by omega)
    have dd := d201 k (by omega)
    have k3 : k / 201 < 3 := by omega
    have hir : vp_in (nI r) 40 := nI_in (by omega) (by decide)
    refine k_X10_whyOf_19 ⟨fun n => absurd ((nI_leI (a := 603) (b := k) (by decide) (by omega)).mp n) (by omega), fun _ => ?_⟩
    rw [dd.1, i_test (show k / 201 < 32 by omega), cr, ck]
    rw [dd.1] at dd
    rw [dd.2]
    refine ⟨fun _ => ⟨hir, trivial⟩, fun s38 e38 => ⟨fun _ _ => ⟨nI_in (by omega) (by decide), hir, trivial⟩, fun s65 e65 => ?_⟩⟩
    have t1 : (if ib z (k / 201) = true then (1 : Int32) else 0) = 1 ↔ ib z (k / 201) = true := by
      by_cases c : ib z (k / 201) = true
      · rw [if_pos c]; exact ⟨fun _ => c, fun _ => rfl⟩
      · rw [if_neg c]; exact ⟨fun n => absurd n (by decide), fun n => absurd n c⟩
    have v38 : s38 = 1 ∧ (ib z (k / 201) = true ∧ nI (k % 201) ≤ I 513 r) ∨ s38 = 0 ∧ ¬ (ib z (k / 201) = true ∧ nI (k % 201) ≤ I 513 r) := by
      rw [e38]
      by_cases c : ib z (k / 201) = true
      · rw [if_pos (t1.mpr c)]
        by_cases d : I 513 r < nI (k % 201)
        · rw [if_pos d]; exact Or.inr ⟨rfl, fun n => Int32.not_le.mpr d n.2⟩
        · rw [if_neg d]; exact Or.inl ⟨rfl, c, Int32.not_lt.mp d⟩
      · rw [if_neg (fun n => c (t1.mp n))]; exact Or.inr ⟨rfl, fun n => c n.1⟩
    have v65 : (s65 = 0 ∨ s65 = 1) ∧ (s65 = 1 ↔ (x4 = 1 ∨ ((ib z (k / 201) = true ∧ nI (k % 201) ≤ I 513 r) ∧ I 516 r < I 508 k))) := by
      rw [e65]
      rcases h01 with e | e
      · rw [if_pos e]
        have nx : ¬ x4 = 1 := by rw [e]; decide
        rcases v38 with ⟨a, b⟩ | ⟨a, b⟩
        · rw [if_neg (by rw [a]; decide)]
          by_cases d : I 508 k ≤ I 516 r
          · rw [if_pos d]
            exact ⟨Or.inl rfl, fun n => absurd n (by decide), fun n => by rcases n with n | n; exact absurd n nx; exact absurd n.2 (Int32.not_lt.mpr d)⟩
          · rw [if_neg d]
            exact ⟨Or.inr rfl, fun _ => Or.inr ⟨b, Int32.not_le.mp d⟩, fun _ => rfl⟩
        · rw [if_pos a]
          exact ⟨Or.inl rfl, fun n => absurd n (by decide), fun n => by rcases n with n | n; exact absurd n nx; exact absurd n.1 b⟩
      · rw [if_neg (by rw [e]; decide)]
        exact ⟨Or.inr rfl, fun _ => Or.inl e, fun _ => rfl⟩
    rw [nI_1]
    refine sp_why19 (b := b) hr hv e511 e501 hmo q m (k + 1) s65 _ (by omega) v65.1 ⟨fun n => ?_, fun ⟨j, a, b1, b2, b3⟩ => ?_⟩
    · rcases v65.2.mp n with x | x
      · obtain ⟨j, a, b⟩ := h.mp x; exact ⟨j, by omega, b⟩
      · exact ⟨k, by omega, x.1.1, x.1.2, x.2⟩
    · by_cases jk : j = k
      · subst jk; exact v65.2.mpr (Or.inr ⟨⟨b1, b2⟩, b3⟩)
      · exact v65.2.mpr (Or.inl (h.mpr ⟨j, by omega, b1, b2, b3⟩))
/-- why a run does not stand, by the model -/
theorem sp_whyOf {mo : Nat} (hc : c ≤ 60) (hr : r < 40) (hv : v < c) (wm : VM I c) (e511 : I 511 r = nI v) (e501 : I 501 v = nI mo) (hmo : mo < 6) (q : ∀ w : Int32, (I 505 mo ≠ nI v → w = 1) → (I 505 mo = nI v → RP I r (GU I v) → w = 2) → (I 505 mo = nI v → ¬ RP I r (GU I v) → w = 0) → Q (.inl (some (.int w))) (G X I L F)) : WP mX10_whyOf 0 (am_ent 7 [.ref 498, .int (nI r)]) [] (G X I L F) 0 0 Q := by
  have cr : (nI r).toNatClampNeg = r := nI_clamp (by omega)
  refine k_X10_whyOf_0 ⟨nI_in (by omega) (by decide), ?_⟩
  rw [cr, e511]
  refine sp_gaugesOf hc hv wm (fun z hz => k_X10_whyOf_12 ?_)
  have e : (fun g => ib z g = true) = GU I v := funext fun g => propext (hz g)
  refine sp_why19 (b := 0) hr (by omega) e511 e501 hmo (fun w a b d => q w a (fun x y => b x (by rw [e]; exact y)) (fun x y => d x (by rw [e]; exact y))) 603 0 0 _ rfl (Or.inl rfl) ⟨fun n => absurd n (by decide), fun ⟨j, a, _⟩ => by omega⟩
end WY
