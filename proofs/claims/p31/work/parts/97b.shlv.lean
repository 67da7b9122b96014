/-! own: a version is shelved, in the class: the pins -/
set_option maxRecDepth 100000
def pinA (t : List Int32) (s : AS) (k : Nat) : Int32 := if ib (msk 0 t) k = true then aL s k else -1
/-- while the pins of a new version are laid -/
def SJ (m o : Nat) (t : List Int32) (s : AS) (I : Nat → Nat → Int32) (L : Nat → Nat → Int64) (j : Nat) (J : Nat → Nat → Int32) (M : Nat → Nat → Int64) : Prop :=
  ShF (aC s) I J ∧ LhF (aC s) L M ∧ J 9 4 = nI (aC s) ∧ (∀ k, J 14 k = I 14 k) ∧ J o 3 = msk 0 t ∧ FC J (19 + 6 * aC s + 1) (rForm 0 t) ∧ J (19 + 6 * aC s) 3 = nI m ∧ (∀ k, k < j → J (19 + 6 * aC s + 4) k = pinA t s k) ∧
  (∀ g, ib (J (19 + 6 * aC s) 4) g = true ↔ (ib (msk 1 t) g = true ∨ ∃ k u, k < j ∧ u < aC s ∧ pinA t s k = nI u ∧ ib (I (19 + 6 * u) 4) g = true)) ∧
  (∀ x, lb (M (19 + 6 * aC s) 5) x = true ↔ (x = aC s ∨ ∃ k u, k < j ∧ u < aC s ∧ pinA t s k = nI u ∧ lb (L (19 + 6 * u) 5) x = true))
section SW
variable {X : Nat × (Nat × (Nat → Int32))} {I J K : Nat → Nat → Int32} {L M : Nat → Nat → Int64} {F : Nat → Nat → UInt32} {Q : AQ} {c m k : Nat} {s zf : AS} {t : List Int32} {o p : Nat}
theorem ex_succ {j : Nat} {P : Nat → Nat → Prop} : (∃ k u, k < j + 1 ∧ P k u) ↔ ((∃ k u, k < j ∧ P k u) ∨ ∃ u, P j u) := by
  constructor
  · intro ⟨k, u, h, p⟩
    by_cases e : k = j
    · subst e; exact Or.inr ⟨u, p⟩
    · exact Or.inl ⟨k, u, by omega, p⟩
  · intro h
    rcases h with ⟨k, u, h, p⟩ | ⟨u, p⟩
    · exact ⟨k, u, by omega, p⟩
    · exact ⟨j, u, by omega, p⟩
theorem FC.fr (z : FC I k (rForm 0 t)) (h : ∀ a b, k ≤ a → a ≤ k + 2 → J a b = I a b) : FC J k (rForm 0 t) :=
  ⟨(h k 2 (by omega) (by omega)).trans z.1, stk_copy (fun b _ => ⟨h (k + 1) b (by omega) (by omega), h (k + 2) b (by omega) (by omega)⟩) z.2.1, (h k 3 (by omega) (by omega)).trans z.2.2.1, (h k 4 (by omega) (by omega)).trans z.2.2.2⟩
theorem ShF.wr {a b : Nat} {z : Int32} (h : ShF c I J) (w : (19 + 6 * c ≤ a ∧ a < 379 ∧ ¬ b = 6) ∨ a = 14 ∨ (a = 9 ∧ b = 4)) : ShF c I (am_u J a b z) := by
  refine ⟨fun o k n1 n2 n3 => ?_, fun v => ?_⟩
  · rw [am_u_ne (by
      by_cases e : o = a
      · subst e
        rcases w with w | w | w
        · exact absurd ⟨w.1, w.2.1⟩ n1
        · exact absurd w n2
        · exact Or.inr (fun e => n3 ⟨w.1, by omega⟩)
      · exact Or.inl e)]
    exact h.1 o k n1 n2 n3
  · rw [am_u_ne (by omega)]
    exact h.2 v
theorem has_m1' {x : Int32} (h : x = -1) : f_X6_has x I = 0 := by rw [h]; exact has_m1
theorem has_v' {x : Int32} {u : Nat} (hc : c ≤ 60) (hu : u < c) (h9 : I 9 4 = nI c) (e : x = nI u) : f_X6_has x I = 1 := by rw [e]; exact has_lt hc h9 hu
theorem sp_sh72 (ho : isFor o) (o4 : o = 4 ∨ (20 ≤ o ∧ o + 2 < 19 + 6 * aC s)) (w : WA s) (hc : aC s < 60) (hm : m < 6) (z : CA I L s) (hn : ∀ j, j < 6 → ib (msk 0 t) j = true → aL s j ≠ -1) (q : ∀ K M, CA K M (entA m t s) → ShF (aC s) I K → LhF (aC s) L M → Q (.inl (some (.int (nI (aC s))))) (G X K M F)) : ∀ (n j : Nat) (J : Nat → Nat → Int32) (M : Nat → Nat → Int64) (d5 : Option Value), j + n = 6 → SJ m o t s I L j J M →
    WP mX6_shelve 72 [some (.ref 9), some (.int (nI m)), some (.ref o), some (.ref (19 + 6 * aC s)), some (.int (nI j)), d5] [] (G X J M F) 0 0 Q
  | 0, j, J, M, d5, hj, e => by
    have e6 : j = 6 := by omega
    subst e6
    obtain ⟨sf, lf, e94, e14, eo3, fc, e3, ep, eg, er⟩ := e
    refine k_X6_shelve_72 ho (gi_verN hc) ⟨fun _ => ⟨nI_in (by omega) (by decide), ?_⟩, fun n => absurd (by decide) n⟩
    rw [nI_clamp (show m < 2 ^ 31 by omega), e94, nI_1, show nI (aC s + 1) - 1 = nI (aC s) by rw [← nI_1, Int32.add_sub_cancel]]
    have sK : ShF (aC s) I (am_u (am_u J 14 m (nI (aC s))) 9 4 (nI (aC s + 1))) := (sf.wr (by simp)).wr (by simp)
    have old := sK.cav lf w (Nat.le_refl _) hc z.2.1
    have fr : ∀ a b, a ≠ 14 → a ≠ 9 → am_u (am_u J 14 m (nI (aC s))) 9 4 (nI (aC s + 1)) a b = J a b := fun a b h1 h2 => by rw [am_u_ne (Or.inl h2), am_u_ne (Or.inl h1)]
    refine q _ _ ⟨by rw [am_u_eq, entA_C], fun v hv => ?_, fun k hk => ?_⟩ sK lf
    · rw [entA_C] at hv
      by_cases vc : v = aC s
      · subst vc
        rw [entA_Tc, entA_Mc, fr _ _ (by omega) (by omega), fr _ _ (by omega) (by omega)]
        refine ⟨fc.fr (fun a b h1 h2 => fr a b (by omega) (by omega)), fun k hk => ?_, e3, fun g => ?_, fun x => ?_⟩
        · rw [entA_Pc, fr _ _ (by omega) (by omega)]; exact ep k hk
        · rw [eg g]
          refine or_congr Iff.rfl ⟨fun ⟨k, u, h1, h2, h3, h4⟩ => ⟨k, u, h1, h2, (entA_Pc).trans h3, ?_⟩, fun ⟨k, u, h1, h2, h3, h4⟩ => ⟨k, u, h1, h2, (entA_Pc).symm.trans h3, ?_⟩⟩
          · rw [fr _ _ (by omega) (by omega), sf.1 _ _ (by omega) (by omega) (by omega)]; exact h4
          · rw [fr _ _ (by omega) (by omega), sf.1 _ _ (by omega) (by omega) (by omega)] at h4; exact h4
        · rw [er x]
          refine or_congr Iff.rfl ⟨fun ⟨k, u, h1, h2, h3, h4⟩ => ⟨k, u, h1, h2, (entA_Pc).trans h3, ?_⟩, fun ⟨k, u, h1, h2, h3, h4⟩ => ⟨k, u, h1, h2, (entA_Pc).symm.trans h3, ?_⟩⟩
          · rw [lf _ _ (by omega)]; exact h4
          · rw [lf _ _ (by omega)] at h4; exact h4
      · obtain ⟨a, b, d, e, f⟩ := old v (by omega)
        rw [entA_T vc, entA_M vc]
        refine ⟨a, fun k hk => by rw [entA_P vc]; exact b k hk, d, fun g => (e g).trans (or_congr Iff.rfl ⟨fun ⟨k, u, h1, h2, h3, h4⟩ => ⟨k, u, h1, h2, by rw [entA_P vc]; exact h3, h4⟩, fun ⟨k, u, h1, h2, h3, h4⟩ => ⟨k, u, h1, h2, by rw [entA_P vc] at h3; exact h3, h4⟩⟩), fun x => (f x).trans (or_congr Iff.rfl ⟨fun ⟨k, u, h1, h2, h3, h4⟩ => ⟨k, u, h1, h2, by rw [entA_P vc]; exact h3, h4⟩, fun ⟨k, u, h1, h2, h3, h4⟩ => ⟨k, u, h1, h2, by rw [entA_P vc] at h3; exact h3, h4⟩⟩)⟩
    · rw [am_u_ne (Or.inl (by decide))]
      by_cases km : k = m
      · rw [km, am_u_eq, entA_Lm]
      · rw [am_u_ne (Or.inr km), entA_L hm km, e14, z.2.2 k hk]
  | n + 1, j, J, M, d5, hj, e => by
    obtain ⟨sf, lf, e94, e14, eo3, fc, e3, ep, eg, er⟩ := e
    refine k_X6_shelve_72 ho (gi_verN hc) ⟨fun z => absurd ((nI_leI (a := 6) (by decide) (by omega)).mp z) (by omega), fun _ x ex => ⟨nI_in (by omega) (by decide), fun I2 eI2 L2 eL2 => ?_⟩⟩
    have exp : x = pinA t s j := by
      rw [ex, eo3, i_test (show j < 32 by omega), lat_v (by omega), e14, z.2.2 j (by omega)]
      unfold pinA
      by_cases u : ib (msk 0 t) j = true
      · rw [if_pos u, if_pos u, if_neg (by decide)]
      · rw [if_neg u, if_neg u, if_pos rfl]
    rw [nI_clamp (show j < 2 ^ 31 by omega), exp] at eI2
    rw [nI_clamp (show j < 2 ^ 31 by omega), exp] at eL2
    rw [nI_1]
    have s1 : ShF (aC s) I (am_u J (19 + 6 * aC s + 4) j (pinA t s j)) := sf.wr (by omega)
    have j94 : am_u J (19 + 6 * aC s + 4) j (pinA t s j) 9 4 = nI (aC s) := (am_u_ne (Or.inl (by omega))).trans e94
    have base : ∀ K : Nat → Nat → Int32, (∀ a b, a ≠ 19 + 6 * aC s + 4 → ¬ (a = 19 + 6 * aC s ∧ b = 4) → K a b = J a b) → K 9 4 = nI (aC s) ∧ (∀ k, K 14 k = I 14 k) ∧ K o 3 = msk 0 t ∧ FC K (19 + 6 * aC s + 1) (rForm 0 t) ∧ K (19 + 6 * aC s) 3 = nI m := fun K h =>
      ⟨(h 9 4 (by omega) (by omega)).trans e94, fun k => (h 14 k (by omega) (by omega)).trans (e14 k), (h o 3 (by omega) (by omega)).trans eo3, fc.fr (fun a b h1 h2 => h a b (by omega) (by omega)), (h _ 3 (by omega) (by omega)).trans e3⟩
    rcases Classical.em (pinA t s j = -1) with pm | pm
    · rw [has_m1' pm, if_pos rfl] at eI2 eL2
      rw [eI2, eL2]
      have b := base (am_u J (19 + 6 * aC s + 4) j (pinA t s j)) (fun a b h1 h2 => am_u_ne (Or.inl h1))
      refine sp_sh72 ho o4 w hc hm z hn q n (j + 1) _ _ _ (by omega) ⟨s1, lf, b.1, b.2.1, b.2.2.1, b.2.2.2.1, b.2.2.2.2, fun k hk => ?_, fun g => ?_, fun x => ?_⟩
      · by_cases kj : k = j
        · rw [kj, am_u_eq]
        · rw [am_u_ne (Or.inr kj)]; exact ep k (by omega)
      · rw [am_u_ne (Or.inl (by omega)), eg g, ex_succ]
        refine or_congr Iff.rfl ⟨Or.inl, fun h => ?_⟩
        rcases h with h | ⟨u, h1, h2, _⟩
        · exact h
        · exact absurd (h2.symm.trans pm) (nI_m1 (by omega))
      · rw [er x, ex_succ]
        refine or_congr Iff.rfl ⟨Or.inl, fun h => ?_⟩
        rcases h with h | ⟨u, h1, h2, _⟩
        · exact h
        · exact absurd (h2.symm.trans pm) (nI_m1 (by omega))
    · have ub : ib (msk 0 t) j = true := by
        by_cases u : ib (msk 0 t) j = true
        · exact u
        · exact absurd (if_neg u) pm
      have epin : pinA t s j = aL s j := if_pos ub
      obtain ⟨u, hu, eu, _⟩ := lat_lt w (show j < 6 by omega) (hn j (by omega) ub)
      have pu : pinA t s j = nI u := epin.trans eu
      rw [has_v' (by omega) hu j94 pu, if_neg (show ¬ (1 : Int32) = 0 by decide), pu, nI_clamp (show u < 2 ^ 31 by omega)] at eI2 eL2
      have b := base I2 (fun a b h1 h2 => by rw [eI2, am_u_ne (by omega), am_u_ne (Or.inl h1)])
      have eu4 : am_u J (19 + 6 * aC s + 4) j (nI u) (19 + 6 * u) 4 = I (19 + 6 * u) 4 := by rw [am_u_ne (Or.inl (by omega)), sf.1 _ _ (by omega) (by omega) (by omega)]
      have eu5 : M (19 + 6 * u) 5 = L (19 + 6 * u) 5 := lf _ _ (by omega)
      have one : ∀ P : Nat → Prop, (∃ w, w < aC s ∧ pinA t s j = nI w ∧ P w) ↔ P u := fun P =>
        ⟨fun ⟨w, h1, h2, h3⟩ => by
          have : w = u := (nI_eq (by omega) (by omega)).mp (h2.symm.trans pu)
          rw [← this]; exact h3, fun h => ⟨u, hu, pu, h⟩⟩
      refine sp_sh72 ho o4 w hc hm z hn q n (j + 1) I2 L2 _ (by omega) ⟨?_, ?_, b.1, b.2.1, b.2.2.1, b.2.2.2.1, b.2.2.2.2, fun k hk => ?_, fun g => ?_, fun x => ?_⟩
      · rw [eI2]; exact (sf.wr (by omega)).wr (by omega)
      · rw [eL2]; exact fun a b n => (am_u_ne (Or.inl (by omega))).trans (lf a b n)
      · rw [eI2, am_u_ne (Or.inl (by omega))]
        by_cases kj : k = j
        · rw [kj, am_u_eq, pu]
        · rw [am_u_ne (Or.inr kj)]; exact ep k (by omega)
      · rw [eI2, am_u_eq, ib_or, Bool.or_eq_true, eg g, eu4, ex_succ, one (fun w => ib (I (19 + 6 * w) 4) g = true), or_assoc]
      · rw [eL2, am_u_eq, lb_or, Bool.or_eq_true, er x, eu5, ex_succ, one (fun w => lb (L (19 + 6 * w) 5) x = true), or_assoc]
end SW
