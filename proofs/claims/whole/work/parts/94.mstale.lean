/-! own: the stale models, in the model -/
set_option maxRecDepth 100000
section MS
variable {X : Nat × (Nat → Int32)} {I J K : Nat → Nat → Int32} {L : Nat → Nat → Int64} {F : Nat → Nat → UInt32} {Q : AQ} {c m k : Nat} {s : AS} {t : List Int32}
theorem sp_ist4 {v : Nat} (w : WA s) (z : MA I s) (hk : k < 6) (hv : v < aC s) (ev : aL s k = nI v) (q : ∀ b : Bool, (b = true ↔ stA s k) → Q (.inl (some (.int (if b = true then 1 else 0)))) (G X I L F)) : ∀ (n j : Nat) (b : Bool) (d4 : Option Value), j + n = 6 → (b = true ↔ ∃ i, i < j ∧ aP s v i ≠ -1 ∧ aP s v i ≠ aL s i) →
    WP mX10_isStale 4 [some (.ref 498), some (.int (nI k)), some (.int (if b = true then 1 else 0)), some (.int (nI j)), d4] [] (G X I L F) 0 0 Q
  | 0, j, b, d4, hj, hb => by
    have e6 : j = 6 := by omega
    subst e6
    exact k_X10_isStale_4 ⟨fun _ => ⟨by split; exact Or.inr rfl; exact Or.inl rfl, q b (hb.trans (stA_v w.1 hv ev).symm)⟩, fun n => absurd (by decide) n⟩
  | n + 1, j, b, d4, hj, hb => by
    have hc := w.1
    have hin : vp_in (nI k) 6 := nI_in hk (by decide)
    have ck : (nI k).toNatClampNeg = k := nI_clamp (by omega)
    have cj : (nI j).toNatClampNeg = j := nI_clamp (by omega)
    have ei : (6 : Int32) * nI v + nI j = nI (6 * v + j) := by rw [show (6 : Int32) = nI 6 from rfl, nI_mul, nI_add]
    refine k_X10_isStale_4 ⟨fun z => absurd ((nI_leI (a := 6) (by decide) (by omega)).mp z) (by omega), fun _ => ⟨hin, ?_⟩⟩
    rw [ck, cj, z.2.2 k hk, ev, ei, nI_clamp (show 6 * v + j < 2 ^ 31 by omega), (z.2.1 v hv).2.2.1 j (by omega), z.2.2 j (by omega), nI_1]
    refine ⟨fun e => absurd e (nI_m1 (by omega)), fun _ => ⟨hin, nI_in (by omega) (by decide), fun _ _ => ⟨nI_in (by omega) (by decide), trivial⟩, fun x ex => ?_⟩⟩
    have ex2 : x = if (b || (decide (aP s v j ≠ -1) && decide (aP s v j ≠ aL s j))) = true then 1 else 0 := by
      rw [ex]
      cases b
      · rw [if_pos (show (if false = true then (1 : Int32) else 0) = 0 from rfl), Bool.false_or]
        by_cases p : aP s v j = -1
        · rw [if_pos p, decide_eq_false (fun h => h p)]; rfl
        · rw [if_neg p, decide_eq_true p]
          by_cases p2 : aP s v j = aL s j
          · rw [if_pos p2, decide_eq_false (fun h => h p2)]; rfl
          · rw [if_neg p2, decide_eq_true p2]; rfl
      · rw [if_neg (show ¬ (if true = true then (1 : Int32) else 0) = 0 by decide)]; rfl
    rw [ex2]
    refine sp_ist4 w z hk hv ev q n (j + 1) _ _ (by omega) ?_
    rw [Bool.or_eq_true, Bool.and_eq_true, decide_eq_true_iff, decide_eq_true_iff, hb]
    constructor
    · intro h
      rcases h with ⟨i, hi, h⟩ | h
      · exact ⟨i, by omega, h⟩
      · exact ⟨j, by omega, h⟩
    · intro ⟨i, hi, h⟩
      by_cases ij : i = j
      · subst ij; exact Or.inr h
      · exact Or.inl ⟨i, by omega, h⟩
/-- whether a model is stale, in the model -/
theorem sp_isStale (w : WA s) (z : MA I s) (hk : k < 6) (q : ∀ b : Bool, (b = true ↔ stA s k) → Q (.inl (some (.int (if b = true then 1 else 0)))) (G X I L F)) : WP mX10_isStale 0 (am_ent 5 [.ref 498, .int (nI k)]) [] (G X I L F) 0 0 Q := by
  refine k_X10_isStale_0 ?_
  have hc := w.1
  by_cases e : aL s k = -1
  · have hin : vp_in (nI k) 6 := nI_in hk (by decide)
    refine k_X10_isStale_4 ⟨fun n => absurd n (by decide), fun _ => ⟨hin, fun _ => ⟨Or.inl rfl, q false ⟨fun n => (by cases n), fun h => ?_⟩⟩, fun n => absurd ?_ n⟩⟩
    · obtain ⟨v, hv, ev, _⟩ := h
      exact absurd (ev.symm.trans e) (nI_m1 (by omega))
    · rw [nI_clamp (by omega), z.2.2 k hk]; exact e
  · obtain ⟨v, hv, ev, _⟩ := lat_lt w hk e
    exact sp_ist4 w z hk hv ev q 6 0 false none rfl ⟨fun n => (by cases n), fun ⟨i, hi, _⟩ => absurd hi (by omega)⟩
theorem sp_ns21 (w : WA s) (z : MA J s) (hk : k < 6) (hK : ∀ k, k < 6 → ∀ y, y < 6 → (ib (J 506 k) y = true ↔ RT (aN s) k y)) {x1 : Int32}
    (q : ∀ b : Bool, (b = true ↔ (stA s k ∧ ∀ i, i < 6 → i ≠ k → stA s i → ¬ RT (aN s) k i)) → ∀ d3 d4, WP mX10_nextStale 8 [some (.ref 498), some (.int (if b = true then nI k else x1)), some (.int (nI k + (-1))), d3, d4] [] (G X J L F) 0 0 Q) : ∀ (n j : Nat) (b : Bool), j + n = 6 → (b = true ↔ (stA s k ∧ ∀ i, i < j → i ≠ k → stA s i → ¬ RT (aN s) k i)) →
    WP mX10_nextStale 21 [some (.ref 498), some (.int x1), some (.int (nI k)), some (.int (if b = true then 1 else 0)), some (.int (nI j))] [] (G X J L F) 0 0 Q
  | 0, j, b, hj, hb => by
    have e6 : j = 6 := by omega
    subst e6
    refine k_X10_nextStale_21 ⟨fun _ x ex => ?_, fun n => absurd (by decide) n⟩
    have e : x = if b = true then nI k else x1 := by
      rw [ex]
      cases b
      · rfl
      · rfl
    rw [e]
    exact q b hb _ _
  | n + 1, j, b, hj, hb => by
    have grow : ∀ b2 : Bool, (b2 = true ↔ (b = true ∧ (j ≠ k → stA s j → ¬ RT (aN s) k j))) → (b2 = true ↔ (stA s k ∧ ∀ i, i < j + 1 → i ≠ k → stA s i → ¬ RT (aN s) k i)) := fun b2 h => by
      rw [h, hb]
      constructor
      · intro ⟨⟨a, b⟩, d⟩
        refine ⟨a, fun i hi => ?_⟩
        by_cases ij : i = j
        · subst ij; exact d
        · exact b i (by omega)
      · intro ⟨a, b⟩
        exact ⟨⟨a, fun i hi => b i (by omega)⟩, b j (by omega)⟩
    refine k_X10_nextStale_21 ⟨fun z => absurd ((nI_leI (a := 6) (by decide) (by omega)).mp z) (by omega), fun _ => ⟨fun e => ?_, fun e => ⟨fun jk => ?_, fun jk => ?_⟩⟩⟩
    · have b0 : b = false := by cases b; rfl; exact absurd e (by decide)
      subst b0
      rw [nI_1]
      exact sp_ns21 w z hk hK q n (j + 1) false (by omega) (grow false ⟨fun n => (by cases n), fun n => n.1⟩)
    · have b1 : b = true := by cases b; exact absurd rfl e; rfl
      subst b1
      have jk2 : j = k := (nI_eq (by omega) (by omega)).mp jk
      rw [nI_1]
      exact sp_ns21 w z hk hK q n (j + 1) true (by omega) (grow true ⟨fun _ => ⟨rfl, fun n => absurd jk2 n⟩, fun _ => rfl⟩)
    · have b1 : b = true := by cases b; exact absurd rfl e; rfl
      subst b1
      refine sp_isStale w z (by omega) (fun b3 h3 => k_X10_nextStale_44 ⟨fun _ => ⟨⟨nI_in hk (by decide), trivial⟩, trivial⟩, fun x ex => ?_⟩)
      rw [rests_v hk (by omega)] at ex
      have hkj := hK k hk j (by omega)
      have jk2 : j ≠ k := fun n => jk (congrArg nI n)
      have ex2 : x = if (!b3 || !ib (J 506 k) j) = true then 1 else 0 := by
        rw [ex]
        cases b3 <;> cases ib (J 506 k) j <;> rfl
      rw [ex2, nI_1]
      refine sp_ns21 w z hk hK q n (j + 1) _ (by omega) (grow _ ?_)
      constructor
      · intro h
        refine ⟨rfl, fun _ st rt => ?_⟩
        rw [h3.mpr st, hkj.mpr rt] at h
        cases h
      · intro ⟨_, h⟩
        cases e3 : b3
        · rfl
        · cases e4 : ib (J 506 k) j
          · rfl
          · exact absurd (hkj.mp e4) (h jk2 (h3.mp e3))
/-- the lowest candidate from some model on, as it is found -/
def Fnd (s : AS) (n : Nat) (x : Int32) : Prop := (x = -1 ∧ ∀ i, n ≤ i → i < 6 → ¬ Cand s i) ∨ ∃ k, n ≤ k ∧ k < 6 ∧ x = nI k ∧ Cand s k ∧ ∀ i, n ≤ i → i < k → ¬ Cand s i
theorem sp_ns8 (w : WA s) (ac : Acy (aN s)) (z : MA J s) (hK : ∀ k, k < 6 → ∀ y, y < 6 → (ib (J 506 k) y = true ↔ RT (aN s) k y)) (q : ∀ x, Fnd s 0 x → Q (.inl (some (.int x))) (G X J L F)) : ∀ (n : Nat) (x1 : Int32) (d3 d4 : Option Value), n ≤ 6 → Fnd s n x1 →
    WP mX10_nextStale 8 [some (.ref 498), some (.int x1), some (.int (nI n + (-1))), d3, d4] [] (G X J L F) 0 0 Q
  | 0, x1, d3, d4, _, f => k_X10_nextStale_8 ⟨fun _ => q x1 f, fun n => absurd (by decide) n⟩
  | n + 1, x1, d3, d4, hn, f => by
    have e1 : nI (n + 1) + (-1) = nI n := by
      rw [← nI_1, Int32.add_assoc]
      exact Int32.add_zero _
    rw [e1]
    refine k_X10_nextStale_8 ⟨fun z => absurd ((nI_ltI (a := n) (b := 0) (by omega) (by decide)).mp z) (by omega), fun _ => sp_isStale w z (by omega) (fun b hb => k_X10_nextStale_17 ?_)⟩
    refine sp_ns21 w z (by omega) hK (fun b2 h2 d3 d4 => ?_) 6 0 b rfl ⟨fun h => ⟨hb.mp h, fun i hi => absurd hi (by omega)⟩, fun h => hb.mpr h.1⟩
    have cn : b2 = true ↔ Cand s n := by
      rw [h2]
      constructor
      · intro ⟨a, b⟩
        refine ⟨a, fun j hj st rt => ?_⟩
        by_cases e : j = n
        · subst e; exact ac j hj rt
        · exact b j hj e st rt
      · intro ⟨a, b⟩
        exact ⟨a, fun j hj _ st => b j hj st⟩
    refine sp_ns8 w ac z hK q n _ d3 d4 (by omega) ?_
    cases e : b2
    · have nc : ¬ Cand s n := fun h => by rw [cn.mpr h] at e; cases e
      rw [if_neg (by decide)]
      rcases f with ⟨a, b⟩ | ⟨k, k1, k2, k3, k4, k5⟩
      · refine Or.inl ⟨a, fun i hi h6 => ?_⟩
        by_cases i2 : i = n
        · rw [i2]; exact nc
        · exact b i (by omega) h6
      · refine Or.inr ⟨k, by omega, k2, k3, k4, fun i hi h6 => ?_⟩
        by_cases i2 : i = n
        · rw [i2]; exact nc
        · exact k5 i (by omega) h6
    · rw [if_pos rfl]
      exact Or.inr ⟨n, Nat.le_refl n, by omega, rfl, cn.mp e, fun i hi h6 => absurd h6 (by omega)⟩
/-- the next model to be bound anew, in the model -/
theorem sp_nextStale (w : WA s) (ac : Acy (aN s)) (z : MA I s) (q : ∀ K, Fr1 506 I K → ∀ x, Fnd s 0 x → Q (.inl (some (.int x))) (G X K L F)) : WP mX10_nextStale 0 (am_ent 5 [.ref 498]) [] (G X I L F) 0 0 Q := by
  refine k_X10_nextStale_0 (sp_laysReach w.1 (z.vm w) (z.lo w) (fun K fr h => k_X10_nextStale_4 ?_))
  have hK : ∀ k, k < 6 → ∀ y, y < 6 → (ib (K 506 k) y = true ↔ RT (aN s) k y) := fun k hk y hy => (h k hk y hy).trans (RT_congr (fun x hx => z.nm w hx) hk)
  exact sp_ns8 w ac (z.fr6 fr w) hK (fun x f => q K fr x f) 6 (-1) none none (by omega) (Or.inl ⟨rfl, fun i a b => absurd b (by omega)⟩)
end MS
