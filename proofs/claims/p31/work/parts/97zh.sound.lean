/-! own: sirens sounded, the alarm, both sides -/
set_option maxRecDepth 100000
/-- whether a siren may be sounded -/
def May (I : Nat → Nat → Int32) (F : Nat → Nat → UInt32) (d r sc : Nat) : Prop := sc < 60 ∧ (∀ x, x < sc → ¬ (I (438 + x) 0 = nI d ∧ I (438 + x) 4 = 0)) ∧ I (423 + 5 * d) 8 ≠ 0 ∧ f_X9_isGoodFor (nI r) (423 + 5 * d) I ≠ 0 ∧ ¬ Op.cmpValue (FP.fcmp (F (383 + r) 3) (FP.i2f (I (423 + 5 * d) 10))) .l < 0
section OS
variable {X : Nat × (Nat × (Nat → Int32))} {I J : Nat → Nat → Int32} {L M : Nat → Nat → Int64} {F H : Nat → Nat → UInt32} {Q : AQ} {N T rc sc t n n2 d c r b : Nat} {s : AS} {p0 p1 p2 p3 : Int32}
theorem sp_ms32 (hd : d < 3) (hr : r < 40) (h60 : sc < 60) (e8 : I 0 8 = nI sc) (q1 : May I F d r sc → Q (.inl (some (.int 1))) (G X I L F)) (q0 : ¬ May I F d r sc → Q (.inl (some (.int 0))) (G X I L F)) : ∀ (m j : Nat), j + m = sc → (∀ x, x < j → ¬ (I (438 + x) 0 = nI d ∧ I (438 + x) 4 = 0)) →
    WP mX9_maySound 32 [some (.ref 0), some (.int (nI d)), some (.int (nI r)), some (.int (nI j))] [] (G X I L F) 0 0 Q
  | 0, j, hj, h => by
    have e : j = sc := by omega
    subst e
    refine k_X9_maySound_32 ⟨fun _ => ⟨nI_in hd (by decide), fun _ _ => ⟨nI_in hr (by decide), trivial⟩, fun y ey => ?_⟩, fun a => absurd (by rw [e8]; exact (nI_leI (by omega) (by omega)).mpr (Nat.le_refl _)) a⟩
    rw [nI_clamp (show d < 2 ^ 31 by omega), nI_clamp (show r < 2 ^ 31 by omega)] at ey
    by_cases c1 : I (423 + 5 * d) 8 = 0
    · rw [if_pos c1] at ey
      rw [ey]; exact ⟨Or.inl rfl, q0 (fun z => z.2.2.1 c1)⟩
    · rw [if_neg c1] at ey
      by_cases c2 : f_X9_isGoodFor (nI r) (423 + 5 * d) I = 0
      · rw [if_pos c2] at ey
        rw [ey]; exact ⟨Or.inl rfl, q0 (fun z => z.2.2.2.1 c2)⟩
      · rw [if_neg c2] at ey
        by_cases c3 : Op.cmpValue (FP.fcmp (F (383 + r) 3) (FP.i2f (I (423 + 5 * d) 10))) .l < 0
        · rw [if_pos c3] at ey
          rw [ey]; exact ⟨Or.inl rfl, q0 (fun z => z.2.2.2.2 c3)⟩
        · rw [if_neg c3] at ey
          rw [ey]; exact ⟨Or.inr rfl, q1 ⟨h60, h, c1, c2, c3⟩⟩
  | m + 1, j, hj, h => by
    refine k_X9_maySound_32 ⟨fun a => absurd ((nI_leI (a := sc) (b := j) (by omega) (by omega)).mp (by rw [← e8]; exact a)) (by omega), fun _ => ⟨nI_in (by omega) (by decide), ?_⟩⟩
    rw [nI_clamp (show j < 2 ^ 31 by omega), nI_1]
    have nx : ¬ (I (438 + j) 0 = nI d ∧ I (438 + j) 4 = 0) → WP mX9_maySound 32 [some (.ref 0), some (.int (nI d)), some (.int (nI r)), some (.int (nI (j + 1)))] [] (G X I L F) 0 0 Q := fun z => sp_ms32 hd hr h60 e8 q1 q0 m (j + 1) (by omega) (fun x hx => by
      by_cases xj : x = j
      · rw [xj]; exact z
      · exact h x (by omega))
    exact ⟨fun a => ⟨nI_in (by omega) (by decide), fun b => q0 (fun z => z.2.1 j (by omega) ⟨a, b⟩), fun b => nx (fun z => b z.2)⟩, fun a => nx (fun z => a z.1)⟩
theorem good_eq (h7 : J 0 7 = I 0 7) (h9 : J 9 4 = I 9 4) (h14 : ∀ k, J 14 k = I 14 k) (hv : ∀ v, v < 60 → J (19 + 6 * v) 3 = I (19 + 6 * v) 3) (h0 : J (383 + r) 0 = I (383 + r) 0) (h5 : J (383 + r) 5 = I (383 + r) 5) (h3 : J (423 + 5 * d) 3 = I (423 + 5 * d) 3) (hr : r < 2 ^ 31) : f_X9_isGoodFor (nI r) (423 + 5 * d) J = f_X9_isGoodFor (nI r) (423 + 5 * d) I := by
  have rs := rs_eq (r := r) (J := J) (I := I) h7 h9 h14 hv h0 h5 hr
  unfold f_X9_isGoodFor f_X6_modelOf
  have hs : ∀ y, f_X6_has y J = f_X6_has y I := fun y => by unfold f_X6_has; rw [h9]
  rw [rs.1, rs.2, hs, nI_clamp hr, h0, h3]
  by_cases hh : f_X6_has (I (383 + r) 0) I = 0
  · rw [if_pos hh, if_pos hh]
  · rw [hv _ (vp_lt (gd_X6_has hh))]
/-- one siren more -/
theorem InvS.sire (z : InvS s T rc sc t n N I L F) (h60 : sc < 60) (h : ∀ o k, ¬ (o = 0 ∧ k = 8) → o ≠ 438 + sc → ¬ (1000532 ≤ o ∧ o ≤ 1000536 ∧ k = sc) → ¬ (o = 1000498 ∧ (k = 0 ∨ k = 39)) → J o k = I o k) (e8 : J 0 8 = nI (sc + 1)) (e39 : J 1000498 39 = nI (sc + 1)) (s1 : Sir1 J rc sc) (s2 : J (438 + sc) 4 = J 1000535 sc) : InvS s T rc (sc + 1) t n N J L F := by
  obtain ⟨v, dr, nw, rr, ⟨tl, hT⟩, da, si⟩ := z
  refine ⟨v.same (fun o k a b c => h o k (by omega) (by omega) (by omega) (by omega)) (h _ _ (by omega) (by omega) (by omega) (by omega)) (fun o a b _ _ _ => funext fun k => h o k (by omega) (by omega) (by omega) (by omega)) (fun _ _ _ _ _ => rfl) rfl, dr.fr (fun k => h _ _ (by omega) (by omega) (by omega) (by omega)) (fun k => h _ _ (by omega) (by omega) (by omega) (by omega)) (h _ _ (by omega) (by omega) (by omega) (by omega)) (fun k => h _ _ (by omega) (by omega) (by omega) (by omega)), nw.fr (h _ _ (by omega) (by omega) (by omega) (by omega)) (h _ _ (by omega) (by omega) (by omega) (by omega)), rr.fr (h _ _ (by omega) (by omega) (by omega) (by omega)) (h _ _ (by omega) (by omega) (by omega) (by omega)) (fun o k a b => h o k (by omega) (by omega) (by omega) (by omega)) (fun o x => funext fun k => h o k (by omega) (by omega) (by omega) (by omega)) (fun _ _ _ _ => rfl) rfl, ⟨tl.fr (h _ _ (by omega) (by omega) (by omega) (by omega)) (funext fun k => h _ k (by omega) (by omega) (by omega) (by omega)), hT⟩, da.fr (fun o k a b => h o k (by omega) (by omega) (by omega) (by omega)) (fun o k a b => h o k (by omega) (by omega) (by omega) (by omega)) (fun _ _ _ _ => rfl) (fun _ _ _ => rfl) (Nat.le_refl _), by omega, e8, e39, fun x hx => ?_⟩
  by_cases xs : x = sc
  · rw [xs]; exact ⟨s1, s2⟩
  · obtain ⟨a, b⟩ := si.2.2.2 x (by omega)
    refine ⟨a.fr (fun k _ => h _ k (by omega) (by omega) (by omega) (by omega)) (fun o x1 x2 _ => h o x (by omega) (by omega) (by omega) (by omega)) (Nat.le_refl _), ?_⟩
    rw [h _ 4 (by omega) (by omega) (by omega) (by omega), h 1000535 x (by omega) (by omega) (by omega) (by omega)]
    exact b
end OS
