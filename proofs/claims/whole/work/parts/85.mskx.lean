/-! own: the sets of names of a text, of the reader and of the model -/
set_option maxRecDepth 100000
section MX2
variable {areG ch : Int32} {r r2 R : RS}
theorem step_mkB (hg : areG = 0 ∨ areG = 1) (h4 : rS r = 4) (z : RSlots 0 r) (h : rStep 0 ch r = some r2) : mk areG r2 = mk areG r ||| (if pd areG r then bitc ch else 0) ∧ gl areG ch = 0 ∧ ¬ pd areG r2 := by
  obtain ⟨g, c, e2⟩ := step_nam h4 h
  have sl := (z.2.2 h4).2
  obtain ⟨j, k, ek, hk, ej, hj⟩ := slot_add sl g c
  have bc : bitc ch = (1 : Int32) <<< (nI k &&& 31) := by unfold bitc; rw [← fig_eq g, ek]
  refine ⟨?_, gl_fig g, fun n => absurd (show (6 : Int32) = 4 by rw [← n.1, e2]; rfl) (by decide)⟩
  have eM : rM r2 = rMod (nI j) (rM r) := by rw [e2, ej]; rfl
  have eA : rA r2 = rGau (nI j) (rA r) := by rw [e2, ej]; rfl
  have le3 : (3 : Int32) ≤ nI j ↔ 3 ≤ j := nI_leI (a := 3) (by decide) (by omega)
  have lt9 : nI j < 9 ↔ j < 9 := nI_ltI (b := 9) (by omega) (by decide)
  have le9 : (9 : Int32) ≤ nI j ↔ 9 ≤ j := nI_leI (a := 9) (by decide) (by omega)
  have lt15 : nI j < 15 ↔ j < 15 := nI_ltI (b := 15) (by omega) (by decide)
  have le0 : (0 : Int32) ≤ nI j := nI_pos' (by omega)
  have lt3 : nI j < 3 ↔ j < 3 := nI_ltI (b := 3) (by omega) (by decide)
  have sub : ∀ s : Nat, s ≤ j → nI j - nI s = nI (j - s) := fun s hs => by
    have := nI_add (j - s) s
    rw [show j - s + s = j by omega] at this
    rw [← this, Int32.add_sub_cancel]
  rw [ek] at ej
  unfold mk
  rcases sl with ⟨l, cc⟩ | ⟨l, cc⟩ | ⟨l, cc⟩
  · rw [l] at ej
    have jk : j = k := (nI_eq (by omega) (by omega)).mp (by rw [← ej]; exact (Int32.zero_add _))
    rw [cc, ek] at c
    have k3 : k < 3 := Nat.lt_of_not_le fun n => c ((nI_leI (a := 3) (by decide) (by omega)).mpr n)
    rcases hg with e | e <;> subst e
    · rw [if_pos rfl, if_pos rfl, if_neg (fun n => by rcases n.2 with ⟨_, n⟩ | ⟨n, _⟩; rcases n with n | n <;> rw [l] at n <;> exact absurd n (by decide); exact absurd n (by decide)), Int32.or_zero, eM]
      unfold rMod
      rw [if_neg (fun n => by have := le3.mp n.1; omega), if_neg (fun n => by have := le9.mp n.1; omega)]
    · rw [if_neg (by decide), if_neg (by decide), if_pos ⟨h4, Or.inr ⟨rfl, l⟩⟩, eA, bc]
      unfold rGau
      rw [if_pos ⟨le0, lt3.mpr (by omega)⟩, Int32.sub_zero, jk]
  · rw [l] at ej
    have jk : j = 3 + k := (nI_eq (by omega) (by omega)).mp (by rw [← ej]; exact nI_add 3 k)
    rcases hg with e | e <;> subst e
    · rw [if_pos rfl, if_pos rfl, if_pos ⟨h4, Or.inl ⟨rfl, Or.inl l⟩⟩, eM, bc]
      unfold rMod
      rw [if_pos ⟨le3.mpr (by omega), lt9.mpr (by omega)⟩, show (3 : Int32) = nI 3 from rfl, sub 3 (by omega), show j - 3 = k by omega]
    · rw [if_neg (by decide), if_neg (by decide), if_neg (fun n => by rcases n.2 with ⟨n, _⟩ | ⟨_, n⟩; exact absurd n (by decide); rw [l] at n; exact absurd n (by decide)), Int32.or_zero, eA]
      unfold rGau
      rw [if_neg (fun n => by have := lt3.mp n.2; omega)]
  · rw [l] at ej
    have jk : j = 9 + k := (nI_eq (by omega) (by omega)).mp (by rw [← ej]; exact nI_add 9 k)
    rcases hg with e | e <;> subst e
    · rw [if_pos rfl, if_pos rfl, if_pos ⟨h4, Or.inl ⟨rfl, Or.inr l⟩⟩, eM, bc]
      unfold rMod
      rw [if_neg (fun n => by have := lt9.mp n.2; omega), if_pos ⟨le9.mpr (by omega), lt15.mpr (by omega)⟩, show (9 : Int32) = nI 9 from rfl, sub 9 (by omega), show j - 9 = k by omega]
    · rw [if_neg (by decide), if_neg (by decide), if_neg (fun n => by rcases n.2 with ⟨n, _⟩ | ⟨_, n⟩; exact absurd n (by decide); rw [l] at n; exact absurd n (by decide)), Int32.or_zero, eA]
      unfold rGau
      rw [if_neg (fun n => by have := lt3.mp n.2; omega)]
theorem mask_run (hg : areG = 0 ∨ areG = 1) : ∀ (l : List Int32) (i : Nat) (r : RS), RSlots 0 r → rRun 0 l i r = .inr R → good R → mk areG R = mk areG r ||| ((if pd areG r then bitc (hd0 l) else 0) ||| msk areG l)
  | [], i, r, z, h, g => by
    have e : r = R := Sum.inr.inj h
    have np : ¬ pd areG r := fun n => (notgood (by rw [n.1]; decide) (by rw [n.1]; decide) (by rw [n.1]; decide)) (by rw [e]; exact g)
    rw [if_neg np, ← e]
    show _ = _ ||| (0 ||| 0)
    rw [Int32.or_zero, Int32.or_zero]
  | ch :: l, i, r, z, h, g => by
    unfold rRun at h
    cases hs : rStep 0 ch r with
    | none => rw [hs] at h; cases h
    | some r2 =>
      rw [hs] at h
      have ih := mask_run hg l (i + 1) r2 (step_slots (Or.inl rfl) z hs) h g
      show _ = _ ||| (_ ||| ((if gl areG ch = 0 then 0 else bitc (hd0 l)) ||| msk areG l))
      by_cases h4 : rS r = 4
      · have b := step_mkB hg h4 z hs
        rw [ih, b.1, if_neg b.2.2, if_pos b.2.1, Int32.zero_or, Int32.or_assoc]
        rfl
      · have a := step_mkA hg h4 hs
        rw [ih, a.1, if_neg (show ¬ pd areG r from fun n => h4 n.1), Int32.zero_or]
        by_cases c : gl areG ch = 0
        · rw [if_neg (fun n => a.2.mp n c), if_pos c]
        · rw [if_pos (a.2.mpr c), if_neg c]
theorem mask_txt (hg : areG = 0 ∨ areG = 1) {t : List Int32} (h : Txt 0 t) : mk areG (rForm 0 t) = msk areG t := by
  obtain ⟨_, R, h2, h3⟩ := h
  rw [form_eq h2]
  have z := mask_run hg t 0 r0 ⟨trivial, trivial, fun n => absurd (show (0 : Int32) = 4 from n) (by decide)⟩ h2 h3
  have e : mk areG (rFin R) = mk areG (rEnd R) := rfl
  rw [e, mk_end, z, if_neg (show ¬ pd areG r0 from fun n => absurd (show (0 : Int32) = 4 from n.1) (by decide)), Int32.zero_or]
  have e0 : mk areG r0 = 0 := by unfold mk; split <;> rfl
  rw [e0, Int32.zero_or]
end MX2
section MN
variable {X : Nat × (Nat → Int32)} {I : Nat → Nat → Int32} {L : Nat → Nat → Int64} {F : Nat → Nat → UInt32} {Q : AQ} {c v : Nat} {areG : Int32}
theorem sp_nam8 {n : Nat} {R : RS} (hg : areG = 0 ∨ areG = 1) (hv : v < 60) (h40 : n ≤ 40) (e502 : I 502 v = nI n) (hR : good R) : ∀ (m i : Nat) (r : RS) (x3 : Int32) (d5 : Option Value), i + m = n → RSlots 0 r → rRun 0 (seg (I 503) (40 * v + i) m) i r = .inr R → Q (.inl (some (.int (x3 ||| msk areG (seg (I 503) (40 * v + i) m))))) (G X I L F) →
    WP mX10_names 8 [some (.ref 498), some (.int (nI v)), some (.int areG), some (.int x3), some (.int (nI (40 * v + i))), d5] [] (G X I L F) 0 0 Q
  | 0, i, r, x3, d5, hi, z, hr, q => by
    have cv : (nI v).toNatClampNeg = v := nI_clamp (by omega)
    have e : (40 : Int32) * nI v + nI n = nI (40 * v + n) := by rw [show (40 : Int32) = nI 40 from rfl, nI_mul, nI_add]
    refine k_X10_names_8 ⟨nI_in (by omega) (by decide), fun _ => ?_, fun c => absurd (by rw [cv, e502, e, nI_leI (by omega) (by omega)]; omega) c⟩
    have : x3 ||| (0 : Int32) = x3 := Int32.or_zero
    have q2 : Q (.inl (some (.int (x3 ||| 0)))) (G X I L F) := q
    rw [this] at q2
    exact q2
  | m + 1, i, r, x3, d5, hi, z, hr, q => by
    have cv : (nI v).toNatClampNeg = v := nI_clamp (by omega)
    have e : (40 : Int32) * nI v + nI n = nI (40 * v + n) := by rw [show (40 : Int32) = nI 40 from rfl, nI_mul, nI_add]
    have ci : (nI (40 * v + i)).toNatClampNeg = 40 * v + i := nI_clamp (by omega)
    have ci2 : (nI (40 * v + i) + 1).toNatClampNeg = 40 * v + (i + 1) := by rw [nI_1, nI_clamp (by omega)]; omega
    have u : rRun 0 (seg (I 503) (40 * v + i) (m + 1)) i r = match rStep 0 (I 503 (40 * v + i)) r with
      | none => .inl i
      | some r2 => rRun 0 (seg (I 503) (40 * v + (i + 1)) m) (i + 1) r2 := rfl
    rw [u] at hr
    cases hs : rStep 0 (I 503 (40 * v + i)) r with
    | none => rw [hs] at hr; cases hr
    | some r2 =>
      rw [hs] at hr
      have z2 := step_slots (Or.inl rfl) z hs
      have hin : vp_in (nI (40 * v + i)) 2400 := nI_in (by omega) (by decide)
      refine k_X10_names_8 ⟨nI_in (by omega) (by decide), fun c => absurd ((nI_leI (a := 40 * v + n) (b := 40 * v + i) (by omega) (by omega)).mp (by rw [← e, ← e502, ← cv]; rw [cv] at c ⊢; exact c)) (by omega), fun _ => ⟨⟨fun _ => ⟨hin, fun _ => ⟨hin, trivial⟩⟩, fun _ => ⟨hin, trivial⟩⟩, fun s25 e25 => ?_⟩⟩
      rw [ci] at e25
      have eg : s25 = gl areG (I 503 (40 * v + i)) := e25
      have more : ¬ s25 = 0 → m ≠ 0 := fun n m0 => by
        subst m0
        have e2 : r2 = R := Sum.inr.inj hr
        rw [← e2] at hR
        by_cases h4 : rS r = 4
        · exact n (eg.trans (step_mkB hg h4 z hs).2.1)
        · have p := (step_mkA hg h4 hs).2.mpr (by rw [← eg]; exact n)
          exact notgood (by rw [p.1]; decide) (by rw [p.1]; decide) (by rw [p.1]; decide) hR
      refine ⟨fun n => ⟨?_, trivial⟩, fun s82 e82 => ?_⟩
      · have := more n
        rw [nI_1]; exact nI_in (by omega) (by decide)
      · rw [ci2] at e82
        rw [nI_1, show 40 * v + i + 1 = 40 * v + (i + 1) by omega]
        refine sp_nam8 hg hv h40 e502 hR m (i + 1) r2 (x3 ||| s82) _ (by omega) z2 hr ?_
        have e83 : s82 = if gl areG (I 503 (40 * v + i)) = 0 then 0 else bitc (hd0 (seg (I 503) (40 * v + (i + 1)) m)) := by
          rw [e82, ← eg]
          by_cases c : s25 = 0
          · rw [if_pos c, if_pos c]
          · rw [if_neg c, if_neg c]
            have := more c
            cases m with
            | zero => exact absurd rfl this
            | succ m => rfl
        rw [e83, Int32.or_assoc]
        exact q
/-- the model's set of a version's names -/
theorem sp_names (hg : areG = 0 ∨ areG = 1) (hv : v < 60) (tx : Txt 0 (vT (I 502) (I 503) v)) (e502 : I 502 v = nI (vT (I 502) (I 503) v).length) (q : Q (.inl (some (.int (msk areG (vT (I 502) (I 503) v))))) (G X I L F)) : WP mX10_names 0 (am_ent 6 [.ref 498, .int (nI v), .int areG]) [] (G X I L F) 0 0 Q := by
  obtain ⟨h40, R, h2, h3⟩ := tx
  have cl : (I 502 v).toNatClampNeg = (vT (I 502) (I 503) v).length := by rw [e502, nI_clamp (by omega)]
  have ev : vT (I 502) (I 503) v = seg (I 503) (40 * v + 0) (vT (I 502) (I 503) v).length := by
    rw [← cl]; rfl
  refine k_X10_names_0 ?_
  rw [show (40 : Int32) = nI 40 from rfl, nI_mul]
  refine sp_nam8 (n := (vT (I 502) (I 503) v).length) hg hv h40 e502 h3 _ 0 r0 0 _ (Nat.zero_add _) ⟨trivial, trivial, fun n => absurd (show (0 : Int32) = 4 from n) (by decide)⟩ (by rw [← ev]; exact h2) ?_
  rw [← ev, Int32.zero_or]
  exact q
end MN
