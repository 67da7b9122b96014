/-! own: what may be named -/
set_option maxRecDepth 100000
def cntB (f : Nat → Bool) : Nat → Nat
  | 0 => 0
  | j + 1 => cntB f j + (f j).toNat
theorem cntB_le (f : Nat → Bool) : ∀ j, cntB f j ≤ j
  | 0 => Nat.le_refl 0
  | j + 1 => by
    have z := cntB_le f j
    show cntB f j + (f j).toNat ≤ j + 1
    have t : (f j).toNat ≤ 1 := by cases f j <;> decide
    omega
/-- whether a set of names may be a model's -/
def cnB (U : Int32) (lat f : Nat → Bool) (m : Nat) : Nat → Bool
  | 0 => !ib U m
  | j + 1 => cnB U lat f m j && (!ib U j || (lat j && !f j))
theorem cnB_iff {U : Int32} {lat f : Nat → Bool} {m : Nat} : ∀ j, cnB U lat f m j = true ↔ (ib U m = false ∧ ∀ k, k < j → ib U k = true → lat k = true ∧ f k = false)
  | 0 => by
    show (!ib U m) = true ↔ _
    constructor
    · intro h; exact ⟨(Bool.not_eq_true' _).mp h, fun k hk => absurd hk (by omega)⟩
    · intro h; rw [h.1]; rfl
  | j + 1 => by
    show (cnB U lat f m j && (!ib U j || (lat j && !f j))) = true ↔ _
    rw [Bool.and_eq_true, cnB_iff j]
    constructor
    · intro ⟨⟨a, b⟩, d⟩
      refine ⟨a, fun k hk u => ?_⟩
      by_cases kj : k = j
      · subst kj
        rw [u] at d
        cases e1 : lat k <;> cases e2 : f k <;> rw [e1, e2] at d <;> first | exact ⟨rfl, rfl⟩ | cases d
      · exact b k (by omega) u
    · intro ⟨a, b⟩
      refine ⟨⟨a, fun k hk u => b k (by omega) u⟩, ?_⟩
      cases e : ib U j
      · rfl
      · have z := b j (by omega) e
        rw [z.1, z.2]; rfl
theorem bitc6 : ∀ a b c d e g : Bool, f_J6_bitCount_0f7a4 ((((((0 ||| (if a then (1 : Int32) <<< (nI 0 &&& 31) else 0)) ||| (if b then (1 : Int32) <<< (nI 1 &&& 31) else 0)) ||| (if c then (1 : Int32) <<< (nI 2 &&& 31) else 0)) ||| (if d then (1 : Int32) <<< (nI 3 &&& 31) else 0)) ||| (if e then (1 : Int32) <<< (nI 4 &&& 31) else 0)) ||| (if g then (1 : Int32) <<< (nI 5 &&& 31) else 0)) = nI (0 + a.toNat + b.toNat + c.toNat + d.toNat + e.toNat + g.toNat) := by decide +kernel
theorem bitc_mB (f : Nat → Bool) : f_J6_bitCount_0f7a4 (mB f 6) = nI (cntB f 6) := bitc6 (f 0) (f 1) (f 2) (f 3) (f 4) (f 5)
section MY
variable {X : Nat × (Nat × (Nat → Int32))} {I : Nat → Nat → Int32} {L : Nat → Nat → Int64} {F : Nat → Nat → UInt32} {Q : AQ} {c m : Nat} {f : Nat → Bool} {U : Int32}
theorem lat_v {k : Nat} (hk : k < 6) : f_X6_latestOf (nI k) I = I 14 k := by
  unfold f_X6_latestOf
  rw [if_neg (fun n => absurd (show ¬ nI k < 0 from fun n => by
    have := (nI_ltI (a := k) (b := 0) (by omega) (by decide)).mp n
    omega) (fun h => h n)), if_neg (fun n => by have := (nI_leI (a := 6) (b := k) (by decide) (by omega)).mp n; omega), nI_clamp (by omega)]
theorem mt_and (hm : m < 6) : ((mB f 6 ||| ((1 : Int32) <<< (nI m &&& 31))) &&& U) = 0 ↔ ∀ k, k < 6 → ib U k = true → f k = false ∧ k ≠ m := by
  have ebit : ∀ k, ib ((mB f 6 ||| ((1 : Int32) <<< (nI m &&& 31))) &&& U) k = (((decide (k < 6) && f k) || decide (k = m)) && ib U k) := fun k => by
    rw [ib_and, ib_or, ib_mB 6 (by omega), i_oneN (by omega)]
  constructor
  · intro h k hk u
    have z := ebit k
    rw [h, ib_0, u, decide_eq_true hk, Bool.and_true, Bool.true_and] at z
    constructor
    · cases e : f k
      · rfl
      · rw [e] at z; cases z
    · intro n
      rw [decide_eq_true n, Bool.or_true] at z; cases z
  · intro h
    refine ib_ext (fun k _ => ?_)
    rw [ebit k, ib_0]
    cases u : ib U k
    · rw [Bool.and_false]
    · by_cases hk : k < 6
      · have z := h k hk u
        rw [z.1, decide_eq_false z.2, Bool.and_false]; rfl
      · rw [decide_eq_false hk, decide_eq_false (by omega)]; rfl
theorem sp_mt24 {o : Nat} (ho : isFor o) (hm : m < 6) (hc : c ≤ 60) (e94 : I 9 4 = nI c) {lat : Nat → Bool} (hl : ∀ k, k < 6 → (lat k = true ↔ I 14 k ≠ -1)) (h0 : ∀ k, k < 6 → ib (I o 3) k = true → f k = false ∧ k ≠ m)
    (q : ∀ b : Bool, (b = true ↔ (cnB (I o 3) lat f m 6 = true ∧ c + 1 + cntB f 6 ≤ 60)) → Q (.inl (some (.int (if b = true then 1 else 0)))) (G X I L F)) : ∀ (n j : Nat), j + n = 6 → (∀ k, k < j → ib (I o 3) k = true → lat k = true) → WP mX6_mayTake 24 [some (.ref 9), some (.int (nI m)), some (.ref o), some (.int (mB f 6)), some (.int (nI j))] [] (G X I L F) 0 0 Q
  | 0, j, hj, h => by
    have e : j = 6 := by omega
    subst e
    refine k_X6_mayTake_24 ho ⟨fun _ s es => ?_, fun n => absurd (by decide) n⟩
    have hcn : cnB (I o 3) lat f m 6 = true := (cnB_iff 6).mpr ⟨Bool.eq_false_iff.mpr (fun n => (h0 m hm n).2 rfl), fun k hk u => ⟨h k hk u, (h0 k hk u).1⟩⟩
    have cl := cntB_le f 6
    rw [e94, bitc_mB, nI_1, nI_add] at es
    have lt : (60 : Int32) < nI (c + 1 + cntB f 6) ↔ 60 < c + 1 + cntB f 6 := nI_ltI (a := 60) (by decide) (by omega)
    by_cases d : c + 1 + cntB f 6 ≤ 60
    · rw [if_neg (fun n => by have := lt.mp n; omega)] at es
      rw [es]
      exact ⟨Or.inr rfl, q true ⟨fun _ => ⟨hcn, d⟩, fun _ => rfl⟩⟩
    · rw [if_pos (lt.mpr (by omega))] at es
      rw [es]
      exact ⟨Or.inl rfl, q false ⟨fun n => (by cases n), fun n => absurd n.2 d⟩⟩
  | n + 1, j, hj, h => by
    refine k_X6_mayTake_24 ho ⟨fun z => absurd ((nI_leI (a := 6) (by decide) (by omega)).mp z) (by omega), fun _ => ?_⟩
    rw [i_test (show j < 32 by omega), lat_v (by omega), nI_1]
    have go : (ib (I o 3) j = true → lat j = true) → WP mX6_mayTake 24 [some (.ref 9), some (.int (nI m)), some (.ref o), some (.int (mB f 6)), some (.int (nI (j + 1)))] [] (G X I L F) 0 0 Q := fun hj2 =>
      sp_mt24 ho hm hc e94 hl h0 q n (j + 1) (by omega) (fun k hk u => by
        by_cases kj : k = j
        · subst kj; exact hj2 u
        · exact h k (by omega) u)
    cases b : ib (I o 3) j
    · exact ⟨fun _ => go (fun n => by rw [b] at n; cases n), fun n => absurd rfl n⟩
    · refine ⟨fun n => absurd n (by decide), fun _ => ⟨fun e => ?_, fun e => go (fun _ => (hl j (by omega)).mpr e)⟩⟩
      exact q false ⟨fun n => (by cases n), fun n => absurd e ((hl j (by omega)).mp (((cnB_iff 6).mp n.1).2 j (by omega) b).1)⟩
/-- whether the class takes a text -/
theorem sp_mayTake {o : Nat} (ho : isFor o) (hm : m < 6) (hc : c ≤ 60) (e94 : I 9 4 = nI c) {lat : Nat → Bool} (hl : ∀ k, k < 6 → (lat k = true ↔ I 14 k ≠ -1)) (hf : ∀ k, k < 6 → (f k = true ↔ RT (NB I) k m))
    (q : ∀ b : Bool, (b = true ↔ (cnB (I o 3) lat f m 6 = true ∧ c + 1 + cntB f 6 ≤ 60)) → Q (.inl (some (.int (if b = true then 1 else 0)))) (G X I L F)) : WP mX6_mayTake 0 (am_ent 5 [.ref 9, .int (nI m), .ref o]) [] (G X I L F) 0 0 Q := by
  refine k_X6_mayTake_0 ho (sp_modelsOn hm hf ?_)
  refine k_X6_mayTake_5 ho ⟨fun e => sp_mt24 ho hm hc e94 hl ((mt_and hm).mp e) q 6 0 rfl (fun k hk => by omega), fun e => ?_⟩
  exact q false ⟨fun n => (by cases n), fun n => absurd ((mt_and hm).mpr (fun k hk u => ⟨(((cnB_iff 6).mp n.1).2 k hk u).2, fun km => by rw [km, ((cnB_iff 6).mp n.1).1] at u; cases u⟩)) e⟩
end MY
