/-! own: what may be named -/
set_option maxRecDepth 100000
def cntB (f : Nat → Bool) : Nat → Nat
  | 0 => 0
  | j + 1 => cntB f j + (f j).toNat
theorem cntB_le (f : Nat → Bool) : ∀ j, cntB f j ≤ j
  | 0 => Nat.le_refl 0
  | j + 1 => by
    have z := cntB_le f j
    show cntB f j + (f j).toNat ≤ j + 1
    have t : (f j).toNat ≤ 1 := by cases f j <;> decide
    omega
/-- whether a set of names may be a model's -/
def cnB (U : Int32) (lat f : Nat → Bool) (m : Nat) : Nat → Bool
  | 0 => !ib U m
  | j + 1 => cnB U lat f m j && (!ib U j || (lat j && !f j))
theorem cnB_iff {U : Int32} {lat f : Nat → Bool} {m : Nat} : ∀ j, cnB U lat f m j = true ↔ (ib U m = false ∧ ∀ k, k < j → ib U k = true → lat k = true ∧ f k = false)
  | 0 => by
    show (!ib U m) = true ↔ _
    constructor
    · intro h; exact ⟨(Bool.not_eq_true' _).mp h, fun k hk => absurd hk (by omega)⟩
    · intro h; rw [h.1]; rfl
  | j + 1 => by
    show (cnB U lat f m j && (!ib U j || (lat j && !f j))) = true ↔ _
    rw [Bool.and_eq_true, cnB_iff j]
    constructor
    · intro ⟨⟨a, b⟩, d⟩
      refine ⟨a, fun k hk u => ?_⟩
      by_cases kj : k = j
      · subst kj
        rw [u] at d
        cases e1 : lat k <;> cases e2 : f k <;> rw [e1, e2] at d <;> first | exact ⟨rfl, rfl⟩ | cases d
      · exact b k (by omega) u
    · intro ⟨a, b⟩
      refine ⟨⟨a, fun k hk u => b k (by omega) u⟩, ?_⟩
      cases e : ib U j
      · rfl
      · have z := b j (by omega) e
        rw [z.1, z.2]; rfl
theorem bitc6 : ∀ a b c d e g : Bool, f_J6_bitCount_0f7a4 ((((((0 ||| (if a then (1 : Int32) <<< (nI 0 &&& 31) else 0)) ||| (if b then (1 : Int32) <<< (nI 1 &&& 31) else 0)) ||| (if c then (1 : Int32) <<< (nI 2 &&& 31) else 0)) ||| (if d then (1 : Int32) <<< (nI 3 &&& 31) else 0)) ||| (if e then (1 : Int32) <<< (nI 4 &&& 31) else 0)) ||| (if g then (1 : Int32) <<< (nI 5 &&& 31) else 0)) = nI (0 + a.toNat + b.toNat + c.toNat + d.toNat + e.toNat + g.toNat) := by decide +kernel
theorem bitc_mB (f : Nat → Bool) : f_J6_bitCount_0f7a4 (mB f 6) = nI (cntB f 6) := bitc6 (f 0) (f 1) (f 2) (f 3) (f 4) (f 5)
section MY
variable {X : Nat × (Nat → Int32)} {I : Nat → Nat → Int32} {L : Nat → Nat → Int64} {F : Nat → Nat → UInt32} {Q : AQ} {c m : Nat} {f : Nat → Bool} {U : Int32}
theorem rests_v {k : Nat} (hk : k < 6) (hm : m < 6) : f_X10_restsOn (nI k) (nI m) I = if ib (I 506 k) m = true then 1 else 0 := by
  unfold f_X10_restsOn
  rw [nI_clamp (by omega), i_test (show m < 32 by omega)]
  by_cases c : ib (I 506 k) m = true
  · rw [if_pos c, if_pos rfl]
  · rw [if_neg c]; rfl
theorem lat_v {k : Nat} (hk : k < 6) : f_X6_latestOf (nI k) I = I 14 k := by
  unfold f_X6_latestOf
  rw [if_neg (fun n => absurd (show ¬ nI k < 0 from fun n => by
    have := (nI_ltI (a := k) (b := 0) (by omega) (by decide)).mp n
    omega) (fun h => h n)), if_neg (fun n => by have := (nI_leI (a := 6) (b := k) (by decide) (by omega)).mp n; omega), nI_clamp (by omega)]
theorem sp_rst8 (hm : m < 6) (hf : ∀ k, k < 6 → (ib (I 506 k) m = true ↔ f k = true)) (q : Q (.inl (some (.int (nI (cntB f 6))))) (G X I L F)) : ∀ (n j : Nat), j + n = 6 → WP mX10_resting 8 [some (.ref 498), some (.int (nI m)), some (.int (nI (cntB f j))), some (.int (nI j))] [] (G X I L F) 0 0 Q
  | 0, j, hj => by
    have e : j = 6 := by omega
    subst e
    exact k_X10_resting_8 ⟨fun _ => q, fun n => absurd (by decide) n⟩
  | n + 1, j, hj => by
    refine k_X10_resting_8 ⟨fun z => absurd ((nI_leI (a := 6) (by decide) (by omega)).mp z) (by omega), fun _ => ⟨⟨nI_in (by omega) (by decide), trivial⟩, fun s e => ?_⟩⟩
    rw [rests_v (by omega) hm] at e
    have es : s = nI (f j).toNat := by
      rw [e]
      by_cases c : f j = true
      · rw [if_pos ((hf j (by omega)).mpr c), c]; rfl
      · rw [if_neg (fun h => c ((hf j (by omega)).mp h)), Bool.eq_false_iff.mpr c]; rfl
    rw [es, nI_add, nI_1]
    exact sp_rst8 hm hf q n (j + 1) (by omega)
/-- how many models rest on one, in the model -/
theorem sp_resting (hc : c ≤ 60) (wm : VM I c) (lo : LatOk I c) (hm : m < 6) (hf : ∀ k, k < 6 → (f k = true ↔ RT (NM I) k m)) (q : ∀ K, Fr1 506 I K → Q (.inl (some (.int (nI (cntB f 6))))) (G X K L F)) : WP mX10_resting 0 (am_ent 4 [.ref 498, .int (nI m)]) [] (G X I L F) 0 0 Q := by
  refine k_X10_resting_0 (sp_laysReach hc wm lo (fun K fr h => ?_))
  refine k_X10_resting_4 ?_
  exact sp_rst8 hm (fun k hk => (h k hk m hm).trans (hf k hk).symm) (q K fr) 6 0 rfl
theorem sp_nd4 {n : Nat} {R : RS} (h40 : n ≤ 40) (e2 : I 498 2 = nI n) (hR : good R) : ∀ (p i : Nat) (r : RS) (x1 : Int32), i + p = n → RSlots 0 r → rRun 0 (seg (I 499) i p) i r = .inr R → Q (.inl (some (.int (x1 ||| msk 0 (seg (I 499) i p))))) (G X I L F) →
    WP mX10_namesOfDraft 4 [some (.ref 498), some (.int x1), some (.int (nI i))] [] (G X I L F) 0 0 Q
  | 0, i, r, x1, hi, z, hr, q => by
    refine k_X10_namesOfDraft_4 ⟨fun _ => ?_, fun c => absurd (by rw [e2, nI_leI (by omega) (by omega)]; omega) c⟩
    have : x1 ||| (0 : Int32) = x1 := Int32.or_zero
    have q2 : Q (.inl (some (.int (x1 ||| 0)))) (G X I L F) := q
    rw [this] at q2
    exact q2
  | p + 1, i, r, x1, hi, z, hr, q => by
    have ci : (nI i).toNatClampNeg = i := nI_clamp (by omega)
    have ci2 : (nI i + 1).toNatClampNeg = i + 1 := by rw [nI_1, nI_clamp (by omega)]
    have u : rRun 0 (seg (I 499) i (p + 1)) i r = match rStep 0 (I 499 i) r with
      | none => .inl i
      | some r2 => rRun 0 (seg (I 499) (i + 1) p) (i + 1) r2 := rfl
    rw [u] at hr
    cases hs : rStep 0 (I 499 i) r with
    | none => rw [hs] at hr; cases hr
    | some r2 =>
      rw [hs] at hr
      have z2 := step_slots (Or.inl rfl) z hs
      have hin : vp_in (nI i) 40 := nI_in (by omega) (by decide)
      have more : gl 0 (I 499 i) ≠ 0 → p ≠ 0 := fun n m0 => by
        subst m0
        have e2 : r2 = R := Sum.inr.inj hr
        rw [← e2] at hR
        by_cases h4 : rS r = 4
        · exact n (step_mkB (Or.inl rfl) h4 z hs).2.1
        · have p := (step_mkA (Or.inl rfl) h4 hs).2.mpr n
          exact notgood (by rw [p.1]; decide) (by rw [p.1]; decide) (by rw [p.1]; decide) hR
      have g1 : I 499 i = 109 → gl 0 (I 499 i) ≠ 0 := fun e => by rw [e]; decide
      have g2 : I 499 i = 113 → gl 0 (I 499 i) ≠ 0 := fun e => by rw [e]; decide
      have g0 : I 499 i ≠ 109 → I 499 i ≠ 113 → gl 0 (I 499 i) = 0 := fun a b => by
        unfold gl
        rw [if_pos rfl, if_neg a, if_neg b]
      have hin2 : gl 0 (I 499 i) ≠ 0 → vp_in (nI i + 1) 40 := fun n => by
        have := more n
        rw [nI_1]; exact nI_in (by omega) (by decide)
      refine k_X10_namesOfDraft_4 ⟨fun c => absurd ((nI_leI (a := n) (b := i) (by omega) (by omega)).mp (by rw [← e2]; exact c)) (by omega), fun _ => ⟨hin, ⟨?_, ?_⟩, fun s e => ?_⟩⟩
      · rw [ci]; exact fun e => ⟨hin2 (g1 e), trivial⟩
      · rw [ci]; exact fun _ => ⟨hin, fun e => ⟨hin2 (g2 e), trivial⟩⟩
      · rw [ci, ci2] at e
        rw [nI_1]
        refine sp_nd4 h40 e2 hR p (i + 1) r2 (x1 ||| s) (by omega) z2 hr ?_
        have es : s = if gl 0 (I 499 i) = 0 then 0 else bitc (hd0 (seg (I 499) (i + 1) p)) := by
          have hd : gl 0 (I 499 i) ≠ 0 → bitc (hd0 (seg (I 499) (i + 1) p)) = (1 : Int32) <<< ((I 499 (i + 1) - 48) &&& 31) := fun n => by
            have := more n
            cases p with
            | zero => exact absurd rfl this
            | succ p => rfl
          rw [e]
          by_cases c1 : I 499 i = 109
          · rw [if_pos c1, if_neg (g1 c1), hd (g1 c1)]
          · rw [if_neg c1]
            by_cases c2 : I 499 i = 113
            · rw [if_pos c2, if_neg (g2 c2), hd (g2 c2)]
            · rw [if_neg c2, if_pos (g0 c1 c2)]
        rw [es, Int32.or_assoc]
        exact q
/-- the names of the model's draft -/
theorem sp_namesOfDraft {n : Nat} (tx : Txt 0 (seg (I 499) 0 n)) (e2 : I 498 2 = nI n) (q : Q (.inl (some (.int (msk 0 (seg (I 499) 0 n))))) (G X I L F)) : WP mX10_namesOfDraft 0 (am_ent 3 [.ref 498]) [] (G X I L F) 0 0 Q := by
  obtain ⟨h40, R, h2, h3⟩ := tx
  rw [seg_len] at h40
  refine k_X10_namesOfDraft_0 (sp_nd4 (n := n) h40 e2 h3 n 0 r0 0 (Nat.zero_add _) ⟨trivial, trivial, fun n => absurd (show (0 : Int32) = 4 from n) (by decide)⟩ h2 ?_)
  rw [Int32.zero_or]
  exact q
theorem sp_cn26 (hm : m < 6) (hf : ∀ k, k < 6 → (ib (I 506 k) m = true ↔ f k = true)) {lat : Nat → Bool} (hl : ∀ k, k < 6 → (lat k = true ↔ I 505 k ≠ -1)) (q : Q (.inl (some (.int (if cnB U lat f m 6 = true then 1 else 0)))) (G X I L F)) : ∀ (n j : Nat), j + n = 6 → WP mX10_canName 26 [some (.ref 498), some (.int (nI m)), some (.int U), some (.int (if cnB U lat f m j = true then 1 else 0)), some (.int (nI j))] [] (G X I L F) 0 0 Q
  | 0, j, hj => by
    have e : j = 6 := by omega
    subst e
    exact k_X10_canName_26 ⟨fun _ => ⟨by split; exact Or.inr rfl; exact Or.inl rfl, q⟩, fun n => absurd (by decide) n⟩
  | n + 1, j, hj => by
    have hin : vp_in (nI j) 6 := nI_in (by omega) (by decide)
    refine k_X10_canName_26 ⟨fun z => absurd ((nI_leI (a := 6) (by decide) (by omega)).mp z) (by omega), fun _ => ⟨fun _ _ => ⟨hin, fun _ => ⟨⟨hin, trivial⟩, trivial⟩⟩, fun s e => ?_⟩⟩
    rw [rests_v (by omega) hm, i_test (show j < 32 by omega), nI_clamp (by omega)] at e
    have es : s = if cnB U lat f m (j + 1) = true then 1 else 0 := by
      rw [e]
      show _ = if (cnB U lat f m j && (!ib U j || (lat j && !f j))) = true then (1 : Int32) else 0
      have hfj := hf j (by omega)
      have hlj := hl j (by omega)
      cases a : cnB U lat f m j
      · rfl
      · cases b : ib U j
        · rfl
        · by_cases d : I 505 j = -1
          · have l0 : lat j = false := Bool.eq_false_iff.mpr (fun h => (hlj.mp h) d)
            rw [l0, if_neg (by decide), if_neg (by decide), if_pos d]; rfl
          · rw [hlj.mpr d, if_neg (by decide), if_neg (by decide), if_neg d]
            cases g : f j
            · rw [if_neg (show ¬ ib (I 506 j) m = true from fun h => by rw [hfj.mp h] at g; cases g)]; rfl
            · rw [if_pos (hfj.mpr g)]; rfl
    rw [es, nI_1]
    exact sp_cn26 hm hf hl q n (j + 1) (by omega)
/-- whether the model's draft may name what it names -/
theorem sp_canName {n : Nat} (hc : c ≤ 60) (wm : VM I c) (lo : LatOk I c) (tx : Txt 0 (seg (I 499) 0 n)) (e2 : I 498 2 = nI n) (hm : m < 6) (hf : ∀ k, k < 6 → (f k = true ↔ RT (NM I) k m)) {lat : Nat → Bool} (hl : ∀ k, k < 6 → (lat k = true ↔ I 505 k ≠ -1))
    (q : ∀ K, Fr1 506 I K → Q (.inl (some (.int (if cnB (msk 0 (seg (I 499) 0 n)) lat f m 6 = true then 1 else 0)))) (G X K L F)) : WP mX10_canName 0 (am_ent 5 [.ref 498, .int (nI m)]) [] (G X I L F) 0 0 Q := by
  refine k_X10_canName_0 (sp_namesOfDraft tx e2 (k_X10_canName_4 (sp_laysReach hc wm lo (fun K fr h => ?_))))
  refine k_X10_canName_9 (fun s e => ?_)
  rw [i_test (show m < 32 by omega)] at e
  have es : s = if cnB (msk 0 (seg (I 499) 0 n)) lat f m 0 = true then 1 else 0 := by
    rw [e]
    show _ = if (!ib _ m) = true then (1 : Int32) else 0
    cases ib (msk 0 (seg (I 499) 0 n)) m <;> rfl
  rw [es]
  exact sp_cn26 hm (fun k hk => (h k hk m hm).trans (hf k hk).symm) (fun k hk => by rw [fr 505 k (by decide)]; exact hl k hk) (q K fr) 6 0 rfl
theorem mt_and (hm : m < 6) : ((mB f 6 ||| ((1 : Int32) <<< (nI m &&& 31))) &&& U) = 0 ↔ ∀ k, k < 6 → ib U k = true → f k = false ∧ k ≠ m := by
  have ebit : ∀ k, ib ((mB f 6 ||| ((1 : Int32) <<< (nI m &&& 31))) &&& U) k = (((decide (k < 6) && f k) || decide (k = m)) && ib U k) := fun k => by
    rw [ib_and, ib_or, ib_mB 6 (by omega), i_oneN (by omega)]
  constructor
  · intro h k hk u
    have z := ebit k
    rw [h, ib_0, u, decide_eq_true hk, Bool.and_true, Bool.true_and] at z
    constructor
    · cases e : f k
      · rfl
      · rw [e] at z; cases z
    · intro n
      rw [decide_eq_true n, Bool.or_true] at z; cases z
  · intro h
    refine ib_ext (fun k _ => ?_)
    rw [ebit k, ib_0]
    cases u : ib U k
    · rw [Bool.and_false]
    · by_cases hk : k < 6
      · have z := h k hk u
        rw [z.1, decide_eq_false z.2, Bool.and_false]; rfl
      · rw [decide_eq_false hk, decide_eq_false (by omega)]; rfl
theorem sp_mt24 {o : Nat} (ho : isFor o) (hm : m < 6) (hc : c ≤ 60) (e94 : I 9 4 = nI c) {lat : Nat → Bool} (hl : ∀ k, k < 6 → (lat k = true ↔ I 14 k ≠ -1)) (h0 : ∀ k, k < 6 → ib (I o 3) k = true → f k = false ∧ k ≠ m)
    (q : ∀ b : Bool, (b = true ↔ (cnB (I o 3) lat f m 6 = true ∧ c + 1 + cntB f 6 ≤ 60)) → Q (.inl (some (.int (if b = true then 1 else 0)))) (G X I L F)) : ∀ (n j : Nat), j + n = 6 → (∀ k, k < j → ib (I o 3) k = true → lat k = true) → WP mX6_mayTake 24 [some (.ref 9), some (.int (nI m)), some (.ref o), some (.int (mB f 6)), some (.int (nI j))] [] (G X I L F) 0 0 Q
  | 0, j, hj, h => by
    have e : j = 6 := by omega
    subst e
    refine k_X6_mayTake_24 ho ⟨fun _ s es => ?_, fun n => absurd (by decide) n⟩
    have hcn : cnB (I o 3) lat f m 6 = true := (cnB_iff 6).mpr ⟨Bool.eq_false_iff.mpr (fun n => (h0 m hm n).2 rfl), fun k hk u => ⟨h k hk u, (h0 k hk u).1⟩⟩
    have cl := cntB_le f 6
    rw [e94, bitc_mB, nI_1, nI_add] at es
    have lt : (60 : Int32) < nI (c + 1 + cntB f 6) ↔ 60 < c + 1 + cntB f 6 := nI_ltI (a := 60) (by decide) (by omega)
    by_cases d : c + 1 + cntB f 6 ≤ 60
    · rw [if_neg (fun n => by have := lt.mp n; omega)] at es
      rw [es]
      exact ⟨Or.inr rfl, q true ⟨fun _ => ⟨hcn, d⟩, fun _ => rfl⟩⟩
    · rw [if_pos (lt.mpr (by omega))] at es
      rw [es]
      exact ⟨Or.inl rfl, q false ⟨fun n => (by cases n), fun n => absurd n.2 d⟩⟩
  | n + 1, j, hj, h => by
    refine k_X6_mayTake_24 ho ⟨fun z => absurd ((nI_leI (a := 6) (by decide) (by omega)).mp z) (by omega), fun _ => ?_⟩
    rw [i_test (show j < 32 by omega), lat_v (by omega), nI_1]
    have go : (ib (I o 3) j = true → lat j = true) → WP mX6_mayTake 24 [some (.ref 9), some (.int (nI m)), some (.ref o), some (.int (mB f 6)), some (.int (nI (j + 1)))] [] (G X I L F) 0 0 Q := fun hj2 =>
      sp_mt24 ho hm hc e94 hl h0 q n (j + 1) (by omega) (fun k hk u => by
        by_cases kj : k = j
        · subst kj; exact hj2 u
        · exact h k (by omega) u)
    cases b : ib (I o 3) j
    · exact ⟨fun _ => go (fun n => by rw [b] at n; cases n), fun n => absurd rfl n⟩
    · refine ⟨fun n => absurd n (by decide), fun _ => ⟨fun e => ?_, fun e => go (fun _ => (hl j (by omega)).mpr e)⟩⟩
      exact q false ⟨fun n => (by cases n), fun n => absurd e ((hl j (by omega)).mp (((cnB_iff 6).mp n.1).2 j (by omega) b).1)⟩
/-- whether the class takes a text -/
theorem sp_mayTake {o : Nat} (ho : isFor o) (hm : m < 6) (hc : c ≤ 60) (e94 : I 9 4 = nI c) {lat : Nat → Bool} (hl : ∀ k, k < 6 → (lat k = true ↔ I 14 k ≠ -1)) (hf : ∀ k, k < 6 → (f k = true ↔ RT (NB I) k m))
    (q : ∀ b : Bool, (b = true ↔ (cnB (I o 3) lat f m 6 = true ∧ c + 1 + cntB f 6 ≤ 60)) → Q (.inl (some (.int (if b = true then 1 else 0)))) (G X I L F)) : WP mX6_mayTake 0 (am_ent 5 [.ref 9, .int (nI m), .ref o]) [] (G X I L F) 0 0 Q := by
  refine k_X6_mayTake_0 ho (sp_modelsOn hm hf ?_)
  refine k_X6_mayTake_5 ho ⟨fun e => sp_mt24 ho hm hc e94 hl ((mt_and hm).mp e) q 6 0 rfl (fun k hk => by omega), fun e => ?_⟩
  exact q false ⟨fun n => (by cases n), fun n => absurd ((mt_and hm).mpr (fun k hk u => ⟨(((cnB_iff 6).mp n.1).2 k hk u).2, fun km => by rw [km, ((cnB_iff 6).mp n.1).1] at u; cases u⟩)) e⟩
end MY
