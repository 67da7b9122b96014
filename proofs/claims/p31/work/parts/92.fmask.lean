/-! own: what a formula names is in its set of names -/
set_option maxRecDepth 100000
def SP (P : Int32 → Prop) : FM → Prop
  | [] => True
  | p :: f => (p.1 = 1 → P p.2) ∧ SP P f
def PS (P : Int32 → Prop) (r : RS) : Prop := SP P (rF r) ∧ HNo1 (rH r)
section FK
variable {P P2 : Int32 → Prop} {s ch : Int32} {r r2 : RS}
theorem SP.imp (h : ∀ x, P x → P2 x) : ∀ {f : FM}, SP P f → SP P2 f
  | [], _ => trivial
  | p :: f, z => ⟨fun e => h _ (z.1 e), SP.imp h z.2⟩
theorem SP.mem {x : Int32} : ∀ {f : FM}, SP P f → (1, x) ∈ f → P x
  | [], _, m => by cases m
  | p :: f, z, m => by
    rcases List.mem_cons.mp m with e | m
    · subst e; exact z.1 rfl
    · exact SP.mem z.2 m
theorem settle_sp : ∀ (h f : FM), HNo1 h → SP P f → SP P (rSettle s h f).1 ∧ HNo1 (rSettle s h f).2
  | [], f, _, z => ⟨z, trivial⟩
  | p :: h, f, hh, z => by
    unfold rSettle
    split
    · exact ⟨z, hh⟩
    · exact settle_sp h ((p.1, 0) :: f) hh.2 ⟨fun n => absurd n hh.1, z⟩
theorem rEnd_sp (z : PS P r) : PS P (rEnd r) := by
  unfold rEnd
  split
  · exact ⟨⟨fun n => absurd n (show (0 : Int32) ≠ 1 by decide), z.1⟩, z.2⟩
  · split
    · exact ⟨⟨fun n => absurd n (show (0 : Int32) ≠ 1 by decide), z.1⟩, z.2⟩
    · exact z
theorem sign_sp (z : PS P r) (h : rSign ch r = some r2) : PS P r2 := by
  have st : ∀ s, SP P (rSettle s (rH r) (rF r)).1 ∧ HNo1 (rSettle s (rH r) (rF r)).2 := fun s => settle_sp (rH r) (rF r) z.2 z.1
  have op : ∀ k s, k ≠ 1 → rOp k s r = some r2 → PS P r2 := fun k s hk e => by
    cases e
    exact ⟨(st s).1, hk, (st s).2⟩
  have s1 := st 1
  unfold rSign at h
  split at h
  · split at h
    · unfold rBrack at h
      have e1 : rH (rSet 1 r) = (rSettle 1 (rH r) (rF r)).2 := rfl
      have e2 : rF (rSet 1 r) = (rSettle 1 (rH r) (rF r)).1 := rfl
      rw [e1, e2] at h
      cases hh : (rSettle 1 (rH r) (rF r)).2 with
      | nil => rw [hh] at h; cases h
      | cons p t =>
        rw [hh] at h s1
        dsimp only at h
        split at h
        · split at h
          · cases h; exact ⟨s1.1, s1.2.2⟩
          · cases h; exact ⟨⟨fun n => absurd n s1.2.1, s1.1⟩, s1.2.2⟩
        · cases h
    · split at h
      · exact op _ _ (by decide) h
      · split at h
        · exact op _ _ (by decide) h
        · split at h
          · unfold rComma at h
            have e1 : rH (rSet 1 r) = (rSettle 1 (rH r) (rF r)).2 := rfl
            have e2 : rF (rSet 1 r) = (rSettle 1 (rH r) (rF r)).1 := rfl
            rw [e1, e2] at h
            cases hh : (rSettle 1 (rH r) (rF r)).2 with
            | nil => rw [hh] at h; cases h
            | cons p t =>
              rw [hh] at h s1
              dsimp only at h
              split at h
              · cases h
              · cases h
                exact ⟨s1.1, s1.2.1, s1.2.2⟩
          · split at h
            · exact op _ _ (by decide) h
            · split at h
              · exact op _ _ (by decide) h
              · cases h
  · cases h
theorem step_sp (p15 : P 15) (p16 : P 16) (h4 : rS r ≠ 4) (z : PS P r) (h : rStep 0 ch r = some r2) : PS P r2 := by
  unfold rStep at h
  split at h
  · split at h
    · unfold rFac at h
      have ho : ∀ k c, k ≠ 1 → some (rHold k c r) = some r2 → PS P r2 := fun k c hk e => by
        cases e; exact ⟨z.1, hk, z.2⟩
      have hf : ∀ k c, k ≠ 1 → some (rHold k c (rSt 5 r)) = some r2 → PS P r2 := fun k c hk e => by
        cases e; exact ⟨z.1, hk, z.2⟩
      have na : ∀ j : Int32, P j → some (rName j r) = some r2 → PS P r2 := fun j hj e => by
        cases e; exact ⟨⟨fun _ => hj, z.1⟩, z.2⟩
      have nf : ∀ s c, some (rSt 4 (rNam s c r)) = some r2 → PS P r2 := fun s c e => by
        cases e; exact z
      by_cases c40 : ch = 40
      · rw [if_pos c40] at h; exact ho _ _ (by decide) h
      rw [if_neg c40] at h
      by_cases c45 : ch = 45
      · rw [if_pos c45] at h; exact ho _ _ (by decide) h
      rw [if_neg c45] at h
      by_cases c97 : ch = 97
      · rw [if_pos c97] at h; exact hf _ _ (by decide) h
      rw [if_neg c97] at h
      by_cases c102 : ch = 102
      · rw [if_pos c102] at h; rw [if_pos rfl] at h; cases h
      rw [if_neg c102] at h
      by_cases c103 : ch = 103
      · rw [if_pos c103] at h; rw [if_pos rfl] at h; exact nf _ _ h
      rw [if_neg c103] at h
      by_cases c104 : ch = 104
      · rw [if_pos c104] at h; exact na 16 p16 h
      rw [if_neg c104] at h
      by_cases c105 : ch = 105
      · rw [if_pos c105] at h; exact hf _ _ (by decide) h
      rw [if_neg c105] at h
      by_cases c108 : ch = 108
      · rw [if_pos c108] at h; rw [if_pos rfl] at h; cases h
      rw [if_neg c108] at h
      by_cases c109 : ch = 109
      · rw [if_pos c109] at h; rw [if_pos rfl] at h; exact nf _ _ h
      rw [if_neg c109] at h
      by_cases c110 : ch = 110
      · rw [if_pos c110] at h; exact hf _ _ (by decide) h
      rw [if_neg c110] at h
      by_cases c112 : ch = 112
      · rw [if_pos c112] at h; rw [if_pos rfl] at h; exact na 15 p15 h
      rw [if_neg c112] at h
      by_cases c113 : ch = 113
      · rw [if_pos c113] at h; rw [if_pos rfl] at h; exact nf _ _ h
      rw [if_neg c113] at h
      by_cases c114 : ch = 114
      · rw [if_pos c114] at h; rw [if_pos rfl] at h; cases h
      rw [if_neg c114] at h
      by_cases c116 : ch = 116
      · rw [if_pos c116] at h; exact hf _ _ (by decide) h
      rw [if_neg c116] at h
      by_cases c120 : ch = 120
      · rw [if_pos c120] at h; exact hf _ _ (by decide) h
      rw [if_neg c120] at h
      cases h
    · cases h; exact z
  · skip
    · split at h
      · split at h
        · cases h; exact z
        · cases h
      · split at h
        · unfold rGo at h
          split at h
          · split at h
            · cases h; exact z
            · exact sign_sp (rEnd_sp z) h
          · exact sign_sp (rEnd_sp z) h
        · unfold rFigs at h
          split at h
          · split at h
            · cases h; exact z
            · cases h
          · split at h
            · cases h; exact z
            · split at h
              · cases h; exact ⟨⟨fun n => absurd (show (0 : Int32) = 1 from n) (by decide), z.1⟩, z.2⟩
              · cases h
/-- a set of names holds a slot's model -/
def InM (M x : Int32) : Prop := ∀ j, j < 6 → x = nI (3 + j) ∨ x = nI (9 + j) → ib M j = true
theorem InM.out {M : Int32} {k : Nat} (h : 15 ≤ k) (h2 : k < 20) : InM M (nI k) := fun j hj e => by
  rcases e with e | e
  · have := (nI_eq (by omega) (by omega)).mp e; omega
  · have := (nI_eq (by omega) (by omega)).mp e; omega
theorem step_inm (z0 : RSlots 0 r) (z : PS (InM (rM r)) r) (h : rStep 0 ch r = some r2) : PS (InM (rM r2)) r2 := by
  by_cases h4 : rS r = 4
  · obtain ⟨g, c, e2⟩ := step_nam h4 h
    have sl := (z0.2.2 h4).2
    obtain ⟨j, k, ek, hk, ej, hj⟩ := slot_add sl g c
    have b := (step_mkB (areG := 0) (Or.inl rfl) h4 z0 h).1
    have b2 : rM r2 = rM r ||| (if pd 0 r then bitc ch else 0) := b
    have up : ∀ x, InM (rM r) x → InM (rM r2) x := fun x hx i hi e => by rw [b2, ib_or, hx i hi e]; rfl
    have bc : bitc ch = (1 : Int32) <<< (nI k &&& 31) := by unfold bitc; rw [← fig_eq g, ek]
    have new : InM (rM r2) (nI j) := fun i hi e => by
      have p : pd 0 r ∧ i = k := by
        rw [ek] at ej
        rcases sl with ⟨l, cc⟩ | ⟨l, cc⟩ | ⟨l, cc⟩
        · rw [l] at ej
          have jk : j = k := (nI_eq (by omega) (by omega)).mp (by rw [← ej]; exact (Int32.zero_add _))
          rw [cc, ek] at c
          have k3 : k < 3 := Nat.lt_of_not_le fun n => c ((nI_leI (a := 3) (by decide) (by omega)).mpr n)
          rcases e with e | e <;> have := (nI_eq (by omega) (by omega)).mp e <;> omega
        · rw [l] at ej
          have jk : j = 3 + k := (nI_eq (by omega) (by omega)).mp (by rw [← ej]; exact nI_add 3 k)
          refine ⟨⟨h4, Or.inl ⟨rfl, Or.inl l⟩⟩, ?_⟩
          rcases e with e | e <;> have := (nI_eq (by omega) (by omega)).mp e <;> omega
        · rw [l] at ej
          have jk : j = 9 + k := (nI_eq (by omega) (by omega)).mp (by rw [← ej]; exact nI_add 9 k)
          refine ⟨⟨h4, Or.inl ⟨rfl, Or.inr l⟩⟩, ?_⟩
          rcases e with e | e <;> have := (nI_eq (by omega) (by omega)).mp e <;> omega
      rw [b2, if_pos p.1, bc, ib_or, i_oneN (by omega), p.2, decide_eq_true rfl, Bool.or_true]
    rw [ej] at e2
    have eF : rF r2 = (1, nI j) :: rF r := by rw [e2]; rfl
    have eH : rH r2 = rH r := by rw [e2]; rfl
    refine ⟨?_, by rw [eH]; exact z.2⟩
    rw [eF]
    exact ⟨fun _ => new, SP.imp up z.1⟩
  · have a := (step_mkA (areG := 0) (Or.inl rfl) h4 h).1
    have a2 : rM r2 = rM r := a
    rw [a2]
    exact step_sp (InM.out (k := 15) (by decide) (by decide)) (InM.out (k := 16) (by decide) (by decide)) h4 z h
theorem run_inm : ∀ (l : List Int32) (i : Nat) (r R : RS), RSlots 0 r → PS (InM (rM r)) r → rRun 0 l i r = .inr R → PS (InM (rM R)) R
  | [], i, r, R, _, z, h => by cases h; exact z
  | ch :: l, i, r, R, z0, z, h => by
    unfold rRun at h
    cases hs : rStep 0 ch r with
    | none => rw [hs] at h; cases h
    | some r2 => rw [hs] at h; exact run_inm l (i + 1) r2 R (step_slots (Or.inl rfl) z0 hs) (step_inm z0 z hs) h
/-- what a formula names is in its text's set -/
theorem form_mask {t : List Int32} (tx : Txt 0 t) {j : Nat} (hj : j < 6) (m : (1, nI (3 + j)) ∈ rF (rForm 0 t) ∨ (1, nI (9 + j)) ∈ rF (rForm 0 t)) : ib (rM (rForm 0 t)) j = true := by
  obtain ⟨_, R, h2, h3⟩ := tx
  rw [form_eq h2] at m ⊢
  have z := run_inm t 0 r0 R ⟨trivial, trivial, fun n => absurd (show (0 : Int32) = 4 from n) (by decide)⟩ ⟨trivial, trivial⟩ h2
  have e := rEnd_sp z
  have f := (settle_sp (s := 1) (rH (rEnd R)) (rF (rEnd R)) e.2 e.1).1
  have eM : rM (rFin R) = rM R := mk_end (areG := 0) (r := R)
  rw [eM]
  rcases m with m | m
  · exact SP.mem (f := (rSettle 1 (rH (rEnd R)) (rF (rEnd R))).1) f m j hj (Or.inl rfl)
  · exact SP.mem (f := (rSettle 1 (rH (rEnd R)) (rF (rEnd R))).1) f m j hj (Or.inr rfl)
end FK
