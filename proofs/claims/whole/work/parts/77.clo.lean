/-! own: what a version rests on; the model's closure -/
set_option maxRecDepth 100000
def rch (p : Nat → Int32) : Nat → Nat → Nat → Prop
  | 0, v, u => u = v
  | n + 1, v, u => u = v ∨ ∃ k w, k < 6 ∧ p (6 * v + k) = nI w ∧ w < v ∧ rch p n w u
/-- u is v, or rests under v by pins -/
def Rch (p : Nat → Int32) (v u : Nat) : Prop := rch p 60 v u
section RC
variable {p : Nat → Int32}
theorem rch_mono : ∀ (n : Nat) {v u : Nat}, rch p n v u → rch p (n + 1) v u
  | 0, v, u, h => Or.inl h
  | n + 1, v, u, h => by
    rcases h with h | ⟨k, w, h1, h2, h3, h4⟩
    · exact Or.inl h
    · exact Or.inr ⟨k, w, h1, h2, h3, rch_mono n h4⟩
theorem rch_add (n : Nat) : ∀ (m : Nat) {v u : Nat}, rch p n v u → rch p (n + m) v u
  | 0, _, _, h => h
  | m + 1, _, _, h => rch_mono (n + m) (rch_add n m h)
theorem rch_cut : ∀ (n : Nat) {v u : Nat}, rch p n v u → rch p v v u
  | 0, v, u, h => by cases v with
    | zero => exact h
    | succ v => exact Or.inl h
  | n + 1, v, u, h => by
    rcases h with h | ⟨k, w, h1, h2, h3, h4⟩
    · cases v with
      | zero => exact h
      | succ v => exact Or.inl h
    · cases v with
      | zero => omega
      | succ v =>
        have z := rch_add w (v - w) (rch_cut n h4)
        rw [show w + (v - w) = v by omega] at z
        exact Or.inr ⟨k, w, h1, h2, h3, z⟩
theorem Rch.of {n v u : Nat} (hv : v ≤ 60) (h : rch p n v u) : Rch p v u := by
  have z := rch_add v (60 - v) (rch_cut n h)
  rw [show v + (60 - v) = 60 by omega] at z
  exact z
theorem Rch.self {v : Nat} : Rch p v v := Or.inl rfl
theorem rch_snoc : ∀ (n : Nat) {v u w k : Nat}, rch p n v u → k < 6 → p (6 * u + k) = nI w → w < u → rch p (n + 1) v w
  | 0, v, u, w, k, h, h1, h2, h3 => by
    cases h
    exact Or.inr ⟨k, w, h1, h2, h3, rfl⟩
  | n + 1, v, u, w, k, h, h1, h2, h3 => by
    rcases h with h | ⟨k2, x, a1, a2, a3, a4⟩
    · subst h
      exact Or.inr ⟨k, w, h1, h2, h3, Or.inl rfl⟩
    · exact Or.inr ⟨k2, x, a1, a2, a3, rch_snoc n a4 h1 h2 h3⟩
theorem Rch.snoc {v u w k : Nat} (hv : v ≤ 60) (h : Rch p v u) (h1 : k < 6) (h2 : p (6 * u + k) = nI w) (h3 : w < u) : Rch p v w := Rch.of hv (rch_snoc 60 h h1 h2 h3)
theorem Rch.step {v u w k : Nat} (hv : v ≤ 60) (h1 : k < 6) (h2 : p (6 * v + k) = nI w) (h3 : w < v) (h : Rch p w u) : Rch p v u := Rch.of (n := 61) hv (Or.inr ⟨k, w, h1, h2, h3, h⟩)
theorem Rch.cases {v u : Nat} (h : Rch p v u) : u = v ∨ ∃ k w, k < 6 ∧ p (6 * v + k) = nI w ∧ w < v ∧ Rch p w u := by
  rcases h with h | ⟨k, w, h1, h2, h3, h4⟩
  · exact Or.inl h
  · exact Or.inr ⟨k, w, h1, h2, h3, rch_mono 59 h4⟩
theorem rch_le : ∀ (n : Nat) {v u : Nat}, rch p n v u → u ≤ v
  | 0, v, u, h => by cases h; exact Nat.le_refl _
  | n + 1, v, u, h => by
    rcases h with h | ⟨k, w, h1, h2, h3, h4⟩
    · omega
    · have := rch_le n h4; omega
/-- a set that holds v and the pins of what it holds, holds all under v -/
theorem rch_in {S : Nat → Prop} {b : Nat} (hs : ∀ u, u ≤ b → S u → ∀ k w, k < 6 → p (6 * u + k) = nI w → w < u → S w) : ∀ (n : Nat) {v u : Nat}, rch p n v u → v ≤ b → S v → S u
  | 0, v, u, h, _, z => by cases h; exact z
  | n + 1, v, u, h, hb, z => by
    rcases h with h | ⟨k, w, h1, h2, h3, h4⟩
    · rw [h]; exact z
    · exact rch_in hs n h4 (by omega) (hs v hb z k w h1 h2 h3)
end RC
section CL
variable {X : Nat × (Nat → Int32)} {I : Nat → Nat → Int32} {L : Nat → Nat → Int64} {F : Nat → Nat → UInt32} {Q : AQ} {v : Nat}
def CInv (p : Nat → Int32) (v : Nat) (S : Int64) (n : Nat) : Prop := (∀ u, lb S u = true → Rch p v u) ∧ lb S v = true ∧ ∀ u, n ≤ u → u ≤ v → lb S u = true → ∀ k w, k < 6 → p (6 * u + k) = nI w → w < u → lb S w = true
theorem sp_clo15 (hv : v < 60) (po : ∀ u, u ≤ v → PinsOk (I 504) u) {n : Nat} (hn : n ≤ v)
    (next : ∀ S d5 d6, CInv (I 504) v S n → WP mX10_closure 7 [some (.ref 498), some (.int (nI v)), some (.long S), none, some (.int (nI n - 1)), d5, d6] [] (G X I L F) 0 0 Q) :
    ∀ (m j : Nat) (S : Int64) (d6 : Option Value), j + m = 6 → CInv (I 504) v S (n + 1) → (lb S n = true → ∀ k w, k < j → I 504 (6 * n + k) = nI w → w < n → lb S w = true) →
      WP mX10_closure 15 [some (.ref 498), some (.int (nI v)), some (.long S), none, some (.int (nI n)), some (.int (nI j)), d6] [] (G X I L F) 0 0 Q
  | 0, j, S, d6, hj, c, hd => by
    have e : j = 6 := by omega
    subst e
    refine k_X10_closure_15 ⟨fun _ => ?_, fun z => absurd (by decide) z⟩
    rw [← Int32.sub_eq_add_neg]
    refine next S _ _ ⟨c.1, c.2.1, fun u hu hv2 b k w hk e lt => ?_⟩
    by_cases un : u = n
    · subst un; exact hd b k w hk e lt
    · exact c.2.2 u (by omega) hv2 b k w hk e lt
  | m + 1, j, S, d6, hj, c, hd => by
    have e6 : 6 * nI n = nI (6 * n) := by
      show nI 6 * nI n = _
      exact (Int32.ofNat_mul 6 n).symm
    have ei : (6 * nI n + nI j).toNatClampNeg = 6 * n + j := by rw [e6, nI_add, nI_clamp (by omega)]
    refine k_X10_closure_15 ⟨fun z => absurd ((nI_leI (a := 6) (by decide) (by omega)).mp z) (by omega), fun _ => ?_⟩
    rw [lc_1 (show n < 64 by omega), ei]
    refine ⟨fun b => ⟨by rw [e6, nI_add]; exact nI_in (by omega) (by decide), fun s52 e52 => ?_⟩, fun b => ?_⟩
    · rw [nI_1]
      rcases po n hn j (by omega) with e | ⟨w, hw, e⟩
      · rw [if_pos e] at e52
        have es : S ||| s52 = S := by rw [e52]; exact Int64.or_zero
        rw [es]
        refine sp_clo15 hv po hn next m (j + 1) S _ (by omega) c (fun bn k w hk ek lt => ?_)
        by_cases kj : k = j
        · subst kj; rw [e] at ek; exact absurd ek.symm (nI_m1 (by omega))
        · exact hd bn k w (by omega) ek lt
      · rw [if_neg (by rw [e]; exact nI_m1 (by omega)), e] at e52
        have eb : ∀ u, lb (S ||| s52) u = (lb S u || decide (u = w)) := fun u => by rw [lb_or, e52, l_oneN (by omega)]
        have up : ∀ u, lb S u = true → lb (S ||| s52) u = true := fun u h => by rw [eb, h]; rfl
        have bw : lb (S ||| s52) w = true := by rw [eb, decide_eq_true rfl, Bool.or_true]
        have dn : ∀ u, lb (S ||| s52) u = true → lb S u = true ∨ u = w := fun u h => by
          rw [eb] at h
          rcases Bool.or_eq_true_iff.mp h with h | h
          · exact Or.inl h
          · exact Or.inr (of_decide_eq_true h)
        refine sp_clo15 hv po hn next m (j + 1) (S ||| s52) _ (by omega) ⟨fun u h => ?_, up v c.2.1, fun u h1 h2 h3 k x hk ek lt => ?_⟩ (fun bn k x hk ek lt => ?_)
        · rcases dn u h with h | h
          · exact c.1 u h
          · rw [h]; exact (c.1 n b).snoc (by omega) (show j < 6 by omega) e hw
        · rcases dn u h3 with h | h
          · exact up x (c.2.2 u h1 h2 h k x hk ek lt)
          · omega
        · by_cases kj : k = j
          · subst kj
            have : x = w := by
              rw [e] at ek
              exact ((nI_eq (by omega) (by omega)).mp ek).symm
            rw [this]; exact bw
          · exact up x (hd b k x (by omega) ek lt)
    · rw [← Int32.sub_eq_add_neg]
      refine next S _ _ ⟨c.1, c.2.1, fun u hu hv2 b2 k w hk e lt => ?_⟩
      by_cases un : u = n
      · subst un; exact absurd b2 b
      · exact c.2.2 u (by omega) hv2 b2 k w hk e lt
theorem sp_clo7 (hv : v < 60) (po : ∀ u, u ≤ v → PinsOk (I 504) u) (q : ∀ S, (∀ u, lb S u = true ↔ Rch (I 504) v u) → Q (.inl (some (.long S))) (G X I L F)) : ∀ (n : Nat) (S : Int64) (d5 d6 : Option Value), n ≤ v + 1 → CInv (I 504) v S n →
    WP mX10_closure 7 [some (.ref 498), some (.int (nI v)), some (.long S), none, some (.int (nI n - 1)), d5, d6] [] (G X I L F) 0 0 Q
  | 0, S, d5, d6, hn, c => by
    refine k_X10_closure_7 ⟨fun _ => q S (fun u => ⟨c.1 u, fun h => ?_⟩), fun z => absurd (by decide) z⟩
    exact rch_in (S := fun u => lb S u = true) (b := v) (fun u hu b k w => c.2.2 u (by omega) hu b k w) 60 h (Nat.le_refl _) c.2.1
  | n + 1, S, d5, d6, hn, c => by
    rw [nI_pred]
    refine k_X10_closure_7 ⟨fun z => absurd z (nI_pos (by omega)), fun _ => ?_⟩
    exact sp_clo15 hv po (by omega) (fun S d5 d6 c => sp_clo7 hv po q n S d5 d6 (by omega) c) 6 0 S d6 rfl c (fun _ k w hk => by omega)
theorem sp_closure (hv : v < 60) (po : ∀ u, u ≤ v → PinsOk (I 504) u) (q : ∀ S, (∀ u, lb S u = true ↔ Rch (I 504) v u) → Q (.inl (some (.long S))) (G X I L F)) : WP mX10_closure 0 (am_ent 7 [.ref 498, .int (nI v)]) [] (G X I L F) 0 0 Q := by
  refine k_X10_closure_0 ?_
  have z := sp_clo7 (X := X) (L := L) (F := F) hv po q (v + 1) ((1 : Int64) <<< ((nI v).toInt64 &&& 63)) none none (Nat.le_refl _) ⟨fun u h => ?_, ?_, fun u h1 h2 => by omega⟩
  · rw [nI_pred] at z
    exact z
  · rw [l_oneN hv] at h
    rw [of_decide_eq_true h]
    exact Rch.self
  · rw [l_oneN hv, decide_eq_true rfl]
end CL
