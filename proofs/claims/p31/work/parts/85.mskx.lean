/-! own: the sets of names of a text, of the reader and of the model -/
set_option maxRecDepth 100000
section MX2
variable {areG ch : Int32} {r r2 R : RS}
theorem step_mkB (hg : areG = 0 ∨ areG = 1) (h4 : rS r = 4) (z : RSlots 0 r) (h : rStep 0 ch r = some r2) : mk areG r2 = mk areG r ||| (if pd areG r then bitc ch else 0) ∧ gl areG ch = 0 ∧ ¬ pd areG r2 := by
  obtain ⟨g, c, e2⟩ := step_nam h4 h
  have sl := (z.2.2 h4).2
  obtain ⟨j, k, ek, hk, ej, hj⟩ := slot_add sl g c
  have bc : bitc ch = (1 : Int32) <<< (nI k &&& 31) := by unfold bitc; rw [← fig_eq g, ek]
  refine ⟨?_, gl_fig g, fun n => absurd (show (6 : Int32) = 4 by rw [← n.1, e2]; rfl) (by decide)⟩
  have eM : rM r2 = rMod (nI j) (rM r) := by rw [e2, ej]; rfl
  have eA : rA r2 = rGau (nI j) (rA r) := by rw [e2, ej]; rfl
  have le3 : (3 : Int32) ≤ nI j ↔ 3 ≤ j := nI_leI (a := 3) (by decide) (by omega)
  have lt9 : nI j < 9 ↔ j < 9 := nI_ltI (b := 9) (by omega) (by decide)
  have le9 : (9 : Int32) ≤ nI j ↔ 9 ≤ j := nI_leI (a := 9) (by decide) (by omega)
  have lt15 : nI j < 15 ↔ j < 15 := nI_ltI (b := 15) (by omega) (by decide)
  have le0 : (0 : Int32) ≤ nI j := nI_pos' (by omega)
  have lt3 : nI j < 3 ↔ j < 3 := nI_ltI (b := 3) (by omega) (by decide)
  have sub : ∀ s : Nat, s ≤ j → nI j - nI s = nI (j - s) := fun s hs => by
    have := nI_add (j - s) s
    rw [show j - s + s = j by omega] at this
    rw [← this, Int32.add_sub_cancel]
  rw [ek] at ej
  unfold mk
  rcases sl with ⟨l, cc⟩ | ⟨l, cc⟩ | ⟨l, cc⟩
  · rw [l] at ej
    have jk : j = k := (nI_eq (by omega) (by omega)).mp (by rw [← ej]; exact (Int32.zero_add _))
    rw [cc, ek] at c
    have k3 : k < 3 := Nat.lt_of_not_le fun n => c ((nI_leI (a := 3) (by decide) (by omega)).mpr n)
    rcases hg with e | e <;> subst e
    · rw [if_pos rfl, if_pos rfl, if_neg (fun n => by rcases n.2 with ⟨_, n⟩ | ⟨n, _⟩; rcases n with n | n <;> rw [l] at n <;> exact absurd n (by decide); exact absurd n (by decide)), Int32.or_zero, eM]
      unfold rMod
      rw [if_neg (fun n => by have := le3.mp n.1; omega), if_neg (fun n => by have := le9.mp n.1; omega)]
    · rw [if_neg (by decide), if_neg (by decide), if_pos ⟨h4, Or.inr ⟨rfl, l⟩⟩, eA, bc]
      unfold rGau
      rw [if_pos ⟨le0, lt3.mpr (by omega)⟩, Int32.sub_zero, jk]
  · rw [l] at ej
    have jk : j = 3 + k := (nI_eq (by omega) (by omega)).mp (by rw [← ej]; exact nI_add 3 k)
    rcases hg with e | e <;> subst e
    · rw [if_pos rfl, if_pos rfl, if_pos ⟨h4, Or.inl ⟨rfl, Or.inl l⟩⟩, eM, bc]
      unfold rMod
      rw [if_pos ⟨le3.mpr (by omega), lt9.mpr (by omega)⟩, show (3 : Int32) = nI 3 from rfl, sub 3 (by omega), show j - 3 = k by omega]
    · rw [if_neg (by decide), if_neg (by decide), if_neg (fun n => by rcases n.2 with ⟨n, _⟩ | ⟨_, n⟩; exact absurd n (by decide); rw [l] at n; exact absurd n (by decide)), Int32.or_zero, eA]
      unfold rGau
      rw [if_neg (fun n => by have := lt3.mp n.2; omega)]
  · rw [l] at ej
    have jk : j = 9 + k := (nI_eq (by omega) (by omega)).mp (by rw [← ej]; exact nI_add 9 k)
    rcases hg with e | e <;> subst e
    · rw [if_pos rfl, if_pos rfl, if_pos ⟨h4, Or.inl ⟨rfl, Or.inr l⟩⟩, eM, bc]
      unfold rMod
      rw [if_neg (fun n => by have := lt9.mp n.2; omega), if_pos ⟨le9.mpr (by omega), lt15.mpr (by omega)⟩, show (9 : Int32) = nI 9 from rfl, sub 9 (by omega), show j - 9 = k by omega]
    · rw [if_neg (by decide), if_neg (by decide), if_neg (fun n => by rcases n.2 with ⟨n, _⟩ | ⟨_, n⟩; exact absurd n (by decide); rw [l] at n; exact absurd n (by decide)), Int32.or_zero, eA]
      unfold rGau
      rw [if_neg (fun n => by have := lt3.mp n.2; omega)]
theorem mask_run (hg : areG = 0 ∨ areG = 1) : ∀ (l : List Int32) (i : Nat) (r : RS), RSlots 0 r → rRun 0 l i r = .inr R → good R → mk areG R = mk areG r ||| ((if pd areG r then bitc (hd0 l) else 0) ||| msk areG l)
  | [], i, r, z, h, g => by
    have e : r = R := Sum.inr.inj h
    have np : ¬ pd areG r := fun n => (notgood (by rw [n.1]; decide) (by rw [n.1]; decide) (by rw [n.1]; decide)) (by rw [e]; exact g)
    rw [if_neg np, ← e]
    show _ = _ ||| (0 ||| 0)
    rw [Int32.or_zero, Int32.or_zero]
  | ch :: l, i, r, z, h, g => by
    unfold rRun at h
    cases hs : rStep 0 ch r with
    | none => rw [hs] at h; cases h
    | some r2 =>
      rw [hs] at h
      have ih := mask_run hg l (i + 1) r2 (step_slots (Or.inl rfl) z hs) h g
      show _ = _ ||| (_ ||| ((if gl areG ch = 0 then 0 else bitc (hd0 l)) ||| msk areG l))
      by_cases h4 : rS r = 4
      · have b := step_mkB hg h4 z hs
        rw [ih, b.1, if_neg b.2.2, if_pos b.2.1, Int32.zero_or, Int32.or_assoc]
        rfl
      · have a := step_mkA hg h4 hs
        rw [ih, a.1, if_neg (show ¬ pd areG r from fun n => h4 n.1), Int32.zero_or]
        by_cases c : gl areG ch = 0
        · rw [if_neg (fun n => a.2.mp n c), if_pos c]
        · rw [if_pos (a.2.mpr c), if_neg c]
theorem mask_txt (hg : areG = 0 ∨ areG = 1) {t : List Int32} (h : Txt 0 t) : mk areG (rForm 0 t) = msk areG t := by
  obtain ⟨_, R, h2, h3⟩ := h
  rw [form_eq h2]
  have z := mask_run hg t 0 r0 ⟨trivial, trivial, fun n => absurd (show (0 : Int32) = 4 from n) (by decide)⟩ h2 h3
  have e : mk areG (rFin R) = mk areG (rEnd R) := rfl
  rw [e, mk_end, z, if_neg (show ¬ pd areG r0 from fun n => absurd (show (0 : Int32) = 4 from n.1) (by decide)), Int32.zero_or]
  have e0 : mk areG r0 = 0 := by unfold mk; split <;> rfl
  rw [e0, Int32.zero_or]
end MX2
section MN
variable {X : Nat × (Nat × (Nat → Int32))} {I : Nat → Nat → Int32} {L : Nat → Nat → Int64} {F : Nat → Nat → UInt32} {Q : AQ} {c v : Nat} {areG : Int32}
end MN
