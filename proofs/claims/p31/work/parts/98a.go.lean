/-! own: a text that goes on well, letter by letter -/
set_option maxRecDepth 100000
/-- what is left in the brackets that are open, the innermost first -/
def brk : FM → List Int32
  | [] => []
  | p :: h => if f_X3_strengthOf p.1 = 0 then p.2 :: brk h else brk h
theorem str_cases (k : Int32) : f_X3_strengthOf k = 0 ∨ f_X3_strengthOf k = 1 ∨ f_X3_strengthOf k = 2 ∨ f_X3_strengthOf k = 3 := by
  unfold f_X3_strengthOf
  split
  · exact Or.inr (Or.inl rfl)
  · split
    · exact Or.inr (Or.inl rfl)
    · split
      · exact Or.inr (Or.inr (Or.inl rfl))
      · split
        · exact Or.inr (Or.inr (Or.inl rfl))
        · split
          · exact Or.inr (Or.inr (Or.inr rfl))
          · exact Or.inl rfl
theorem brk_pos {p : Int32 × Int32} {h : FM} (e : f_X3_strengthOf p.1 = 0) : brk (p :: h) = p.2 :: brk h := if_pos e
theorem brk_neg {p : Int32 × Int32} {h : FM} (e : ¬ f_X3_strengthOf p.1 = 0) : brk (p :: h) = brk h := if_neg e
theorem settle_brk {s : Int32} (hs : s = 1 ∨ s = 2) : ∀ (h f : FM), brk (rSettle s h f).2 = brk h
  | [], _ => rfl
  | p :: h, f => by
    unfold rSettle
    by_cases c : f_X3_strengthOf p.1 < s
    · rw [if_pos c]
    · rw [if_neg c, settle_brk hs h, brk_neg (fun e => c (by rw [e]; rcases hs with e | e <;> rw [e] <;> decide))]
theorem settle_top : ∀ (h f : FM), ((rSettle 1 h f).2 = [] ∧ brk h = []) ∨ ∃ p g, (rSettle 1 h f).2 = p :: g ∧ f_X3_strengthOf p.1 = 0 ∧ brk h = p.2 :: brk g
  | [], _ => Or.inl ⟨rfl, rfl⟩
  | p :: h, f => by
    unfold rSettle
    by_cases c : f_X3_strengthOf p.1 < 1
    · rw [if_pos c]
      have z : f_X3_strengthOf p.1 = 0 := by
        rcases str_cases p.1 with e | e | e | e
        · exact e
        · rw [e] at c; exact absurd c (by decide)
        · rw [e] at c; exact absurd c (by decide)
        · rw [e] at c; exact absurd c (by decide)
      exact Or.inr ⟨p, h, rfl, z, brk_pos z⟩
    · rw [if_neg c, brk_neg (fun e => c (by rw [e]; decide))]
      exact settle_top h _
def MK (P : Nat → Prop) (r : RS) : Prop := ∀ k, k < 6 → ib (rM r) k = true → P k
def TS (P : Nat → Prop) (b : List Int32) (K : RS → Prop) (r : RS) : Prop := K r ∧ brk (rH r) = b ∧ MK P r
def kAt (r : RS) : Prop := rS r = 0
def kF1 (r : RS) : Prop := rS r = 1 ∧ rG r = 1
def kBe (r : RS) : Prop := rS r = 1 ∨ rS r = 3 ∨ rS r = 6
def kDo (r : RS) : Prop := rS r = 2
def kF2 (r : RS) : Prop := rS r = 3
def kFu (r : RS) : Prop := rS r = 5
def kNm (l c : Int32) (r : RS) : Prop := rS r = 4 ∧ rL r = l ∧ rC r = c
/-- a letter that goes on -/
def GoOn (P : Nat → Prop) (b : List Int32) (K : RS → Prop) (ch : Int32) (b2 : List Int32) (K2 : RS → Prop) : Prop := ∀ r, TS P b K r → ∃ r2, rStep 0 ch r = some r2 ∧ TS P b2 K2 r2
theorem fig_d : ∀ d, d < 10 → rFig (nI (48 + d)) = nI d ∧ ¬ nI d = -1 := by decide +kernel
section TX
variable {r r2 : RS} {b b2 : List Int32} {P : Nat → Prop} {ch c : Int32} {d n : Nat} {K K2 : RS → Prop}
theorem goes_of (h4 : ∀ r, K r → rS r ≠ 4) (h : ∀ r, K r → brk (rH r) = b → ∃ r2, rStep 0 ch r = some r2 ∧ K2 r2 ∧ brk (rH r2) = b2) : GoOn P b K ch b2 K2 := fun r ⟨k, e, m⟩ => by
  obtain ⟨r2, s, k2, e2⟩ := h r k e
  refine ⟨r2, s, k2, e2, fun x hx y => m x hx ?_⟩
  have a : rM r2 = rM r := (step_mkA (areG := 0) (Or.inl rfl) (h4 r k) s).1
  rw [← a]; exact y
theorem at4 {r : RS} (k : kAt r) : rS r ≠ 4 := by rw [show rS r = 0 from k]; decide
theorem go_fig (hd : d < 10) : GoOn P b kAt (nI (48 + d)) b kF1 := goes_of (fun r k => at4 k) fun r k e => by
  have f := fig_d d hd
  refine ⟨rSt 1 (rNum (nI d) 1 r), ?_, ⟨rfl, rfl⟩, e⟩
  unfold rStep
  rw [if_pos (show rS r = 0 from k), f.1, if_neg f.2]
theorem step_fig (h0 : ¬ rS r = 0) (h4 : ¬ rS r = 4) (h5 : ¬ rS r = 5) (hd : d < 10) : rStep 0 (nI (48 + d)) r = rFigs (nI d) r := by
  have f := fig_d d hd
  unfold rStep
  rw [if_neg h0, if_neg h4, if_neg h5, f.1, if_neg f.2]
theorem go_fig2 (hd : d < 10) : GoOn P b kF1 (nI (48 + d)) b kBe := goes_of (fun r k => by rw [k.1]; decide) fun r k e => by
  refine ⟨rNum (rN r * 10 + nI d) (rG r + 1) r, ?_, Or.inl k.1, e⟩
  rw [step_fig (by rw [k.1]; decide) (by rw [k.1]; decide) (by rw [k.1]; decide) hd]
  unfold rFigs
  rw [if_pos k.1, if_pos (by rw [k.2]; decide)]
theorem go_dot : GoOn P b kF1 46 b kDo := goes_of (fun r k => by rw [k.1]; decide) fun r k e => by
  refine ⟨rSt 2 r, ?_, rfl, e⟩
  unfold rStep
  rw [if_neg (by rw [k.1]; decide), if_neg (by rw [k.1]; decide), if_neg (by rw [k.1]; decide), if_pos (show rFig 46 = -1 by decide)]
  unfold rGo
  rw [if_pos k.1, if_pos rfl]
theorem go_fig3 (hd : d < 10) : GoOn P b kDo (nI (48 + d)) b kF2 := goes_of (fun r k => by rw [show rS r = 2 from k]; decide) fun r k e => by
  have k : rS r = 2 := k
  refine ⟨rSt 3 (rNum (rN r * 10 + nI d) (rG r + 1) r), ?_, rfl, e⟩
  rw [step_fig (by rw [k]; decide) (by rw [k]; decide) (by rw [k]; decide) hd]
  unfold rFigs
  rw [if_neg (by rw [k]; decide), if_pos k]
theorem go_fig4 (hd : d < 10) : GoOn P b kF2 (nI (48 + d)) b kBe := goes_of (fun r k => by rw [show rS r = 3 from k]; decide) fun r k e => by
  have k : rS r = 3 := k
  refine ⟨rSt 6 (rAdd 0 (rN r * 10 + nI d) (rNum (rN r * 10 + nI d) (rG r + 1) r)), ?_, Or.inr (Or.inr rfl), e⟩
  rw [step_fig (by rw [k]; decide) (by rw [k]; decide) (by rw [k]; decide) hd]
  unfold rFigs
  rw [if_neg (by rw [k]; decide), if_neg (by rw [k]; decide), if_pos k]
theorem step_fac {o : Option RS} (k : kAt r) (h1 : rFig ch = -1) (h2 : rFac 0 ch r = o) : rStep 0 ch r = o := by
  unfold rStep
  rw [if_pos (show rS r = 0 from k), if_pos h1, h2]
theorem go_g : GoOn P b kAt 103 b (kNm 0 3) := goes_of (fun r k => at4 k) fun r k e => ⟨rSt 4 (rNam 0 3 r), step_fac k (by decide) rfl, ⟨rfl, rfl, rfl⟩, e⟩
theorem go_m : GoOn P b kAt 109 b (kNm 3 6) := goes_of (fun r k => at4 k) fun r k e => ⟨rSt 4 (rNam 3 6 r), step_fac k (by decide) rfl, ⟨rfl, rfl, rfl⟩, e⟩
theorem go_q : GoOn P b kAt 113 b (kNm 9 6) := goes_of (fun r k => at4 k) fun r k e => ⟨rSt 4 (rNam 9 6 r), step_fac k (by decide) rfl, ⟨rfl, rfl, rfl⟩, e⟩
theorem go_p : GoOn P b kAt 112 b kBe := goes_of (fun r k => at4 k) fun r k e => ⟨rName 15 r, step_fac k (by decide) rfl, Or.inr (Or.inr rfl), e⟩
theorem go_h : GoOn P b kAt 104 b kBe := goes_of (fun r k => at4 k) fun r k e => ⟨rName 16 r, step_fac k (by decide) rfl, Or.inr (Or.inr rfl), e⟩
theorem go_fx : GoOn P b kAt 120 (1 :: b) kFu := goes_of (fun r k => at4 k) fun r k e => ⟨rHold 7 1 (rSt 5 r), step_fac k (by decide) rfl, rfl, by rw [← e]; rfl⟩
theorem go_fn : GoOn P b kAt 110 (1 :: b) kFu := goes_of (fun r k => at4 k) fun r k e => ⟨rHold 8 1 (rSt 5 r), step_fac k (by decide) rfl, rfl, by rw [← e]; rfl⟩
theorem go_fi : GoOn P b kAt 105 (2 :: b) kFu := goes_of (fun r k => at4 k) fun r k e => ⟨rHold 9 2 (rSt 5 r), step_fac k (by decide) rfl, rfl, by rw [← e]; rfl⟩
theorem go_ft : GoOn P b kAt 116 (0 :: b) kFu := goes_of (fun r k => at4 k) fun r k e => ⟨rHold 10 0 (rSt 5 r), step_fac k (by decide) rfl, rfl, by rw [← e]; rfl⟩
theorem go_fa : GoOn P b kAt 97 (0 :: b) kFu := goes_of (fun r k => at4 k) fun r k e => ⟨rHold 11 0 (rSt 5 r), step_fac k (by decide) rfl, rfl, by rw [← e]; rfl⟩
theorem go_brk : GoOn P b kAt 40 (0 :: b) kAt := goes_of (fun r k => at4 k) fun r k e => ⟨rHold 12 0 r, step_fac k (by decide) rfl, k, by rw [← e]; rfl⟩
theorem go_neg : GoOn P b kAt 45 b kAt := goes_of (fun r k => at4 k) fun r k e => ⟨rHold 6 0 r, step_fac k (by decide) rfl, k, by rw [← e]; rfl⟩
theorem go_par : GoOn P b kFu 40 b kAt := goes_of (fun r k => by rw [show rS r = 5 from k]; decide) fun r k e => by
  have k : rS r = 5 := k
  refine ⟨rSt 0 r, ?_, rfl, e⟩
  unfold rStep
  rw [if_neg (by rw [k]; decide), if_neg (by rw [k]; decide), if_pos k, if_pos rfl]
theorem be4 {r : RS} (k : kBe r) : rS r ≠ 4 := by
  rcases k with k | k | k <;> rw [k] <;> decide
theorem end_be (k : kBe r) : rS (rEnd r) = 6 ∧ rH (rEnd r) = rH r := by
  unfold rEnd
  rcases k with k | k | k
  · rw [if_pos k]; exact ⟨rfl, rfl⟩
  · rw [if_neg (by rw [k]; decide), if_pos k]; exact ⟨rfl, rfl⟩
  · rw [if_neg (by rw [k]; decide), if_neg (by rw [k]; decide)]; exact ⟨k, rfl⟩
theorem step_sig (k : kBe r) (h1 : rFig ch = -1) (h2 : ¬ ch = 46) : rStep 0 ch r = rSign ch (rEnd r) := by
  unfold rStep
  rw [if_neg (by rcases k with k | k | k <;> rw [k] <;> decide), if_neg (be4 k), if_neg (by rcases k with k | k | k <;> rw [k] <;> decide), if_pos h1]
  unfold rGo
  by_cases c : rS r = 1
  · rw [if_pos c, if_neg h2]
  · rw [if_neg c]
theorem go_op {k s : Int32} (h1 : rFig ch = -1) (h2 : ¬ ch = 46) (h3 : ∀ r, rS r = 6 → rSign ch r = rOp k s r) (hs : s = 1 ∨ s = 2) (hk : ¬ f_X3_strengthOf k = 0) : GoOn P b kBe ch b kAt := goes_of (fun r k => be4 k) fun r kk e => by
  obtain ⟨e6, eH⟩ := end_be kk
  refine ⟨rHold k 0 (rSt 0 (rSet s (rEnd r))), ?_, rfl, ?_⟩
  · rw [step_sig kk h1 h2, h3 _ e6]; rfl
  · show brk ((k, 0) :: rH (rSet s (rEnd r))) = b
    rw [brk_neg hk, ← e, ← eH]
    exact settle_brk hs _ _
theorem go_add : GoOn P b kBe 43 b kAt := go_op (k := 2) (s := 1) (by decide) (by decide) (fun r h => by unfold rSign; rw [if_pos h]; rfl) (Or.inl rfl) (by decide)
theorem go_sub : GoOn P b kBe 45 b kAt := go_op (k := 3) (s := 1) (by decide) (by decide) (fun r h => by unfold rSign; rw [if_pos h]; rfl) (Or.inl rfl) (by decide)
theorem go_mul : GoOn P b kBe 42 b kAt := go_op (k := 4) (s := 2) (by decide) (by decide) (fun r h => by unfold rSign; rw [if_pos h]; rfl) (Or.inr rfl) (by decide)
theorem go_div : GoOn P b kBe 47 b kAt := go_op (k := 5) (s := 2) (by decide) (by decide) (fun r h => by unfold rSign; rw [if_pos h]; rfl) (Or.inr rfl) (by decide)
theorem go_com (hc : ¬ c = 0) : GoOn P (c :: b) kBe 44 ((c - 1) :: b) kAt := goes_of (fun r k => be4 k) fun r kk e => by
  obtain ⟨e6, eH⟩ := end_be kk
  have tp := settle_top (rH (rEnd r)) (rF (rEnd r))
  rw [eH, e] at tp
  rcases tp with ⟨_, z⟩ | ⟨p, g, a1, a2, a3⟩
  · cases z
  · obtain ⟨c1, c2⟩ := List.cons.inj a3
    have a4 : rH (rSet 1 (rEnd r)) = p :: g := by rw [← eH] at a1; exact a1
    refine ⟨rSt 0 (rFH (rF (rSet 1 (rEnd r))) ((p.1, p.2 - 1) :: g) (rEnd r)), ?_, rfl, ?_⟩
    · rw [step_sig kk (by decide) (by decide)]
      unfold rSign
      rw [if_pos e6]
      show rComma (rEnd r) = _
      unfold rComma
      rw [a4]
      show (if p.2 = 0 then _ else _) = _
      rw [if_neg (by rw [← c1]; exact hc)]
    · show brk ((p.1, p.2 - 1) :: g) = _
      rw [c1, c2]
      exact brk_pos (p := (p.1, p.2 - 1)) a2
theorem go_clo : GoOn P (0 :: b) kBe 41 b kBe := goes_of (fun r k => be4 k) fun r kk e => by
  obtain ⟨e6, eH⟩ := end_be kk
  have tp := settle_top (rH (rEnd r)) (rF (rEnd r))
  rw [eH, e] at tp
  rcases tp with ⟨_, z⟩ | ⟨p, g, a1, a2, a3⟩
  · cases z
  · obtain ⟨c1, c2⟩ := List.cons.inj a3
    have a4 : rH (rSet 1 (rEnd r)) = p :: g := by rw [← eH] at a1; exact a1
    have st : rStep 0 41 r = if p.1 = 12 then some (rFH (rF (rSet 1 (rEnd r))) g (rEnd r)) else some (rFH ((p.1, 0) :: rF (rSet 1 (rEnd r))) g (rEnd r)) := by
      rw [step_sig kk (by decide) (by decide)]
      unfold rSign
      rw [if_pos e6]
      show rBrack (rEnd r) = _
      unfold rBrack
      rw [a4]
      show (if p.2 = 0 then _ else _) = _
      rw [if_pos c1.symm]
    by_cases c : p.1 = 12
    · rw [if_pos c] at st
      exact ⟨_, st, Or.inr (Or.inr e6), c2.symm⟩
    · rw [if_neg c] at st
      exact ⟨_, st, Or.inr (Or.inr e6), c2.symm⟩
theorem step_nam2 {l c : Int32} (k : kNm l c r) (hd : d < 10) (hc : ¬ c ≤ nI d) : rStep 0 (nI (48 + d)) r = some (rName (l + nI d) r) := by
  have f := fig_d d hd
  unfold rStep
  rw [if_neg (by rw [k.1]; decide), if_pos k.1, f.1, if_neg f.2, k.2.2, if_neg hc, k.2.1]
theorem mod_g : ∀ d, d < 3 → ¬ (3 : Int32) ≤ nI d ∧ ∀ m : Int32, rMod (0 + nI d) m = m := by
  intro d hd
  have a : ¬ (3 : Int32) ≤ nI d := fun z => by have := (nI_leI (a := 3) (by decide) (by omega)).mp z; omega
  have b : ¬ (9 : Int32) ≤ nI d := fun z => by have := (nI_leI (a := 9) (by decide) (by omega)).mp z; omega
  refine ⟨a, fun m => ?_⟩
  unfold rMod
  rw [Int32.zero_add, if_neg (fun z => a z.1), if_neg (fun z => b z.1)]
theorem mod_m : ∀ d, d < 6 → (¬ (6 : Int32) ≤ nI d ∧ ((3 : Int32) ≤ 3 + nI d ∧ (3 : Int32) + nI d < 9) ∧ (3 : Int32) + nI d - 3 = nI d) ∧ (¬ ((3 : Int32) ≤ 9 + nI d ∧ (9 : Int32) + nI d < 9) ∧ ((9 : Int32) ≤ 9 + nI d ∧ (9 : Int32) + nI d < 15) ∧ (9 : Int32) + nI d - 9 = nI d) := by decide +kernel
theorem go_gau (hd : d < 3) : GoOn P b (kNm 0 3) (nI (48 + d)) b kBe := fun r ⟨k, e, m⟩ => by
  obtain ⟨h1, h2⟩ := mod_g d hd
  refine ⟨rName (0 + nI d) r, step_nam2 k (by omega) h1, Or.inr (Or.inr rfl), e, fun x hx y => m x hx ?_⟩
  have y2 : ib (rMod (0 + nI d) (rM r)) x = true := y
  rw [h2] at y2
  exact y2
theorem mk_or {M : Int32} (hd : d < 6) (p : P d) (m : ∀ k, k < 6 → ib M k = true → P k) : ∀ k, k < 6 → ib (M ||| ((1 : Int32) <<< (nI d &&& 31))) k = true → P k := fun k hk y => by
  rw [ib_or, i_oneN (by omega), Bool.or_eq_true, decide_eq_true_iff] at y
  rcases y with y | y
  · exact m k hk y
  · rw [y]; exact p
theorem go_m2 (hd : d < 6) (p : P d) : GoOn P b (kNm 3 6) (nI (48 + d)) b kBe := fun r ⟨k, e, m⟩ => by
  obtain ⟨⟨h1, h2, h3⟩, _⟩ := mod_m d hd
  refine ⟨rName (3 + nI d) r, step_nam2 k (by omega) h1, Or.inr (Or.inr rfl), e, ?_⟩
  show ∀ x, x < 6 → ib (rMod (3 + nI d) (rM r)) x = true → P x
  unfold rMod
  rw [if_pos h2, h3]
  exact mk_or hd p m
theorem go_q2 (hd : d < 6) (p : P d) : GoOn P b (kNm 9 6) (nI (48 + d)) b kBe := fun r ⟨k, e, m⟩ => by
  obtain ⟨⟨h1, _, _⟩, h4, h2, h3⟩ := mod_m d hd
  refine ⟨rName (9 + nI d) r, step_nam2 k (by omega) h1, Or.inr (Or.inr rfl), e, ?_⟩
  show ∀ x, x < 6 → ib (rMod (9 + nI d) (rM r)) x = true → P x
  unfold rMod
  rw [if_neg h4, if_pos h2, h3]
  exact mk_or hd p m
/-- the fault of a text that is not whole yet -/
theorem endv_not (h1 : ¬ rS r = 1) (h3 : ¬ rS r = 3) (h6 : ¬ rS r = 6) : rEndv n r = nI n := by
  have e : rEnd r = r := by unfold rEnd; rw [if_neg h1, if_neg h3]
  have e2 : rS (rFin r) = rS r := by unfold rFin; rw [e]; rfl
  unfold rEndv
  rw [e2, if_neg h6]
theorem endv_be (z : TS P b kBe r) : (b = [] → rEndv n r = -1 ∧ good r) ∧ (b ≠ [] → rEndv n r = nI n) := by
  obtain ⟨k, e, _⟩ := z
  obtain ⟨e6, eH⟩ := end_be k
  have s6 : rS (rFin r) = 6 := e6
  have tp := settle_top (rH (rEnd r)) (rF (rEnd r))
  rw [eH, e] at tp
  have eh : rH (rFin r) = (rSettle 1 (rH r) (rF (rEnd r))).2 := by rw [← eH]; rfl
  refine ⟨fun h => ?_, fun h => ?_⟩
  · rcases tp with ⟨z, _⟩ | ⟨p, g, _, _, a3⟩
    · have hn : rH (rFin r) = [] := eh.trans z
      refine ⟨?_, ⟨s6, by rw [hn]; rfl⟩⟩
      unfold rEndv
      rw [if_pos s6, if_pos (by rw [hn]; rfl)]
    · rw [h] at a3; cases a3
  · rcases tp with ⟨_, z⟩ | ⟨p, g, a1, _, _⟩
    · exact absurd z h
    · have hn : rH (rFin r) = p :: g := eh.trans a1
      unfold rEndv
      rw [if_pos s6, if_neg (by rw [hn]; exact Nat.succ_ne_zero _)]
theorem TS.imp (h : ∀ r, K r → K2 r) (z : TS P b K r) : TS P b K2 r := ⟨h r z.1, z.2⟩
theorem f1_be {r : RS} (k : kF1 r) : kBe r := Or.inl k.1
theorem f2_be {r : RS} (k : kF2 r) : kBe r := Or.inr (Or.inl k)
end TX
theorem run_app {rule ch : Int32} : ∀ (l : List Int32) (i : Nat) (r : RS), rRun rule (l ++ [ch]) i r = match rRun rule l i r with
    | .inl k => .inl k
    | .inr R => match rStep rule ch R with
      | none => .inl (i + l.length)
      | some r2 => .inr r2
  | [], i, r => by
    cases h : rStep rule ch r with
    | none => simp only [List.nil_append, rRun, h, List.length_nil, Nat.add_zero]
    | some r2 => simp only [List.nil_append, rRun, h]
  | c :: l, i, r => by
    cases h : rStep rule c r with
    | none => simp only [List.cons_append, rRun, h]
    | some r2 =>
      simp only [List.cons_append, rRun, h, run_app l (i + 1) r2, List.length_cons]
      rw [show i + 1 + l.length = i + (l.length + 1) by omega]
theorem seg_snoc {g h : Nat → Int32} : ∀ (n i : Nat), (∀ k, k < n → h (i + k) = g (i + k)) → seg h i (n + 1) = seg g i n ++ [h (i + n)]
  | 0, i, _ => rfl
  | n + 1, i, e => by
    have e0 : seg h i (n + 2) = h i :: seg h (i + 1) (n + 1) := rfl
    rw [e0, seg_snoc (g := g) n (i + 1) (fun k hk => by rw [show i + 1 + k = i + (k + 1) by omega]; exact e (k + 1) (by omega)), show i + 1 + n = i + (n + 1) by omega]
    have e1 : seg g i (n + 1) = g i :: seg g (i + 1) n := rfl
    rw [e1, show h i = g i from e 0 (by omega)]
    rfl
/-- the text of the class's cells, as the reader takes it -/
def DT (I : Nat → Nat → Int32) (n : Nat) (P : Nat → Prop) (b : List Int32) (K : RS → Prop) : Prop := ∃ R, rRun 0 (seg (I 2) 0 n) 0 r0 = .inr R ∧ TS P b K R
section DT
variable {I J : Nat → Nat → Int32} {n : Nat} {b b2 : List Int32} {P : Nat → Prop} {ch : Int32} {K K2 : RS → Prop}
theorem DT.next (g : GoOn P b K ch b2 K2) (h : ∀ k, k < n → J 2 k = I 2 k) (e : J 2 n = ch) (z : DT I n P b K) : DT J (n + 1) P b2 K2 := by
  obtain ⟨R, a, t⟩ := z
  obtain ⟨r2, s, t2⟩ := g R t
  refine ⟨r2, ?_, t2⟩
  rw [seg_snoc (g := I 2) n 0 (fun k hk => by rw [Nat.zero_add]; exact h k hk), Nat.zero_add, e, run_app, a]
  show (match rStep 0 ch R with | none => _ | some r2 => _) = _
  rw [s]
theorem DT.imp (h : ∀ r, K r → K2 r) (z : DT I n P b K) : DT I n P b K2 := by
  obtain ⟨R, a, t⟩ := z
  exact ⟨R, a, t.imp h⟩
theorem DT.fr (h : ∀ k, k < n → J 2 k = I 2 k) (z : DT I n P b K) : DT J n P b K := by
  obtain ⟨R, a, t⟩ := z
  exact ⟨R, by rw [seg_cong (h := I 2) n 0 0 (fun k hk => by rw [Nat.zero_add]; exact h k hk)]; exact a, t⟩
theorem DT.zero (e : n = 0) : DT I n P [] kAt := by
  subst e
  exact ⟨r0, rfl, rfl, rfl, fun k _ y => by rw [show rM r0 = 0 from rfl, ib_0] at y; cases y⟩
theorem flt_eq {R : RS} (a : rRun 0 (seg (I 2) 0 n) 0 r0 = .inr R) : rFault 0 (seg (I 2) 0 n) = rEndv n R := by
  unfold rFault
  rw [a]
  show rEndv _ R = _
  rw [seg_len]
theorem DT.not (z : DT I n P b K) (h : ∀ r, K r → ¬ rS r = 1 ∧ ¬ rS r = 3 ∧ ¬ rS r = 6) : rFault 0 (seg (I 2) 0 n) = nI n := by
  obtain ⟨R, a, t⟩ := z
  obtain ⟨h1, h3, h6⟩ := h R t.1
  rw [flt_eq a, endv_not h1 h3 h6]
theorem DT.at (z : DT I n P b kAt) : rFault 0 (seg (I 2) 0 n) = nI n := z.not (fun r k => by
  have k : rS r = 0 := k
  rw [k]; decide)
theorem DT.do (z : DT I n P b kDo) : rFault 0 (seg (I 2) 0 n) = nI n := z.not (fun r k => by
  have k : rS r = 2 := k
  rw [k]; decide)
theorem DT.fu (z : DT I n P b kFu) : rFault 0 (seg (I 2) 0 n) = nI n := z.not (fun r k => by
  have k : rS r = 5 := k
  rw [k]; decide)
theorem DT.nm {l c : Int32} (z : DT I n P b (kNm l c)) : rFault 0 (seg (I 2) 0 n) = nI n := z.not (fun r k => by
  rw [k.1]; decide)
theorem DT.be (z : DT I n P b kBe) : (b = [] → rFault 0 (seg (I 2) 0 n) = -1) ∧ (b ≠ [] → rFault 0 (seg (I 2) 0 n) = nI n) := by
  obtain ⟨R, a, t⟩ := z
  rw [flt_eq a]
  exact ⟨fun h => ((endv_be t).1 h).1, (endv_be t).2⟩
/-- a text that is whole: its models are those that it may name -/
theorem DT.txt (z : DT I n P [] kBe) (h40 : n ≤ 40) : Txt 0 (seg (I 2) 0 n) ∧ ∀ k, k < 6 → ib (msk 0 (seg (I 2) 0 n)) k = true → P k := by
  obtain ⟨R, a, t⟩ := z
  have tx : Txt 0 (seg (I 2) 0 n) := ⟨by rw [seg_len]; exact h40, R, a, ((endv_be (n := n) t).1 rfl).2⟩
  refine ⟨tx, fun k hk y => t.2.2 k hk ?_⟩
  have m := mask_txt (areG := 0) (Or.inl rfl) tx
  have e : mk 0 (rForm 0 (seg (I 2) 0 n)) = rM R := by
    rw [form_eq a]
    exact mk_end (areG := 0) (r := R)
  rw [← e, m]; exact y
end DT
