/-! own: which names a formula holds; values are kept -/
set_option maxRecDepth 100000
/-- the slots of a formula's names -/
def SlotOk (rule s : Int32) : Prop := (rule = 0 ∧ ∃ j : Nat, s = nI j ∧ j < 17) ∨ (rule = 1 ∧ ∃ j : Nat, s = nI j ∧ 16 ≤ j ∧ j < 20)
def SlotsOk (rule : Int32) : FM → Prop
  | [] => True
  | p :: f => (p.1 = 1 → SlotOk rule p.2) ∧ SlotsOk rule f
def HNo1 : FM → Prop
  | [] => True
  | p :: h => p.1 ≠ 1 ∧ HNo1 h
/-- the slots of a state: of its parts, and of a name that is begun -/
def RSlots (rule : Int32) (r : RS) : Prop := SlotsOk rule (rF r) ∧ HNo1 (rH r) ∧ (rS r = 4 → rule = 0 ∧ ((rL r = 0 ∧ rC r = 3) ∨ (rL r = 3 ∧ rC r = 6) ∨ (rL r = 9 ∧ rC r = 6)))
section SL
variable {rule s ch : Int32} {r r2 : RS}
theorem settle_slots : ∀ (h f : FM), HNo1 h → SlotsOk rule f → SlotsOk rule (rSettle s h f).1 ∧ HNo1 (rSettle s h f).2
  | [], f, _, z => ⟨z, trivial⟩
  | p :: h, f, hh, z => by
    unfold rSettle
    split
    · exact ⟨z, hh⟩
    · exact settle_slots h ((p.1, 0) :: f) hh.2 ⟨fun n => absurd n hh.1, z⟩
theorem rEnd_slots (z : RSlots rule r) : SlotsOk rule (rF (rEnd r)) ∧ HNo1 (rH (rEnd r)) := by
  unfold rEnd
  split
  · exact ⟨⟨fun n => absurd n (show (0 : Int32) ≠ 1 by decide), z.1⟩, z.2.1⟩
  · split
    · exact ⟨⟨fun n => absurd n (show (0 : Int32) ≠ 1 by decide), z.1⟩, z.2.1⟩
    · exact ⟨z.1, z.2.1⟩
theorem name_slots {slot : Int32} (z : RSlots rule r) (h : SlotOk rule slot) : RSlots rule (rName slot r) :=
  ⟨⟨fun _ => h, z.1⟩, z.2.1, fun n => absurd (show (6 : Int32) = 4 from n) (by decide)⟩
theorem hold_slots {k c x : Int32} (z : RSlots rule r) (hk : k ≠ 1) (hx : x ≠ 4) : RSlots rule (rHold k c (rSt x r)) :=
  ⟨z.1, ⟨hk, z.2.1⟩, fun n => absurd (show x = 4 from n) hx⟩
theorem sign_slots (h6 : rS r = 6) (z1 : SlotsOk rule (rF r)) (z2 : HNo1 (rH r)) (h : rSign ch r = some r2) : RSlots rule r2 := by
  have st : ∀ s, SlotsOk rule (rSettle s (rH r) (rF r)).1 ∧ HNo1 (rSettle s (rH r) (rF r)).2 := fun s => settle_slots (rH r) (rF r) z2 z1
  have op : ∀ k s, k ≠ 1 → rOp k s r = some r2 → RSlots rule r2 := fun k s hk e => by
    cases e
    exact ⟨(st s).1, ⟨hk, (st s).2⟩, fun n => absurd (show (0 : Int32) = 4 from n) (by decide)⟩
  have s1 := st 1
  have n4 : ∀ x : RS, rS x = 6 → rS x = 4 → rule = 0 ∧ ((rL x = 0 ∧ rC x = 3) ∨ (rL x = 3 ∧ rC x = 6) ∨ (rL x = 9 ∧ rC x = 6)) := fun x e n => by rw [e] at n; exact absurd n (by decide)
  unfold rSign at h
  rw [if_pos h6] at h
  split at h
  · unfold rBrack at h
    have e1 : rH (rSet 1 r) = (rSettle 1 (rH r) (rF r)).2 := rfl
    have e2 : rF (rSet 1 r) = (rSettle 1 (rH r) (rF r)).1 := rfl
    rw [e1, e2] at h
    cases hh : (rSettle 1 (rH r) (rF r)).2 with
    | nil => rw [hh] at h; cases h
    | cons p t =>
      rw [hh] at h s1
      dsimp only at h
      split at h
      · split at h
        · cases h; exact ⟨s1.1, s1.2.2, n4 _ h6⟩
        · cases h; exact ⟨⟨fun n => absurd n s1.2.1, s1.1⟩, s1.2.2, n4 _ h6⟩
      · cases h
  · split at h
    · exact op _ _ (by decide) h
    · split at h
      · exact op _ _ (by decide) h
      · split at h
        · unfold rComma at h
          have e1 : rH (rSet 1 r) = (rSettle 1 (rH r) (rF r)).2 := rfl
          have e2 : rF (rSet 1 r) = (rSettle 1 (rH r) (rF r)).1 := rfl
          rw [e1, e2] at h
          cases hh : (rSettle 1 (rH r) (rF r)).2 with
          | nil => rw [hh] at h; cases h
          | cons p t =>
            rw [hh] at h s1
            dsimp only at h
            split at h
            · cases h
            · cases h
              exact ⟨s1.1, ⟨s1.2.1, s1.2.2⟩, fun n => absurd (show (0 : Int32) = 4 from n) (by decide)⟩
        · split at h
          · exact op _ _ (by decide) h
          · split at h
            · exact op _ _ (by decide) h
            · cases h
theorem slot_add {b c f : Int32} (hb : (b = 0 ∧ c = 3) ∨ (b = 3 ∧ c = 6) ∨ (b = 9 ∧ c = 6)) (h1 : ¬ rFig f = -1) (h2 : ¬ c ≤ rFig f) : ∃ j k : Nat, rFig f = nI k ∧ k < 6 ∧ b + rFig f = nI j ∧ j < 15 := by
  have ge := fig_ge h1
  obtain ⟨k, hk, e⟩ := nI_of (Int32.not_lt.mpr ge)
  have lt := Int32.not_le.mp h2
  rw [e] at lt ⊢
  rcases hb with ⟨b1, b2⟩ | ⟨b1, b2⟩ | ⟨b1, b2⟩ <;> subst b1 b2
  · have := (nI_ltI (b := 3) hk (by decide)).mp lt
    exact ⟨0 + k, k, rfl, by omega, nI_add 0 k, by omega⟩
  · have := (nI_ltI (b := 6) hk (by decide)).mp lt
    exact ⟨3 + k, k, rfl, by omega, nI_add 3 k, by omega⟩
  · have := (nI_ltI (b := 6) hk (by decide)).mp lt
    exact ⟨9 + k, k, rfl, by omega, nI_add 9 k, by omega⟩
theorem step_slots (hr : rule = 0 ∨ rule = 1) (z : RSlots rule r) (h : rStep rule ch r = some r2) : RSlots rule r2 := by
  have sg : ∀ x : RS, RSlots rule x → rSign ch (rEnd x) = some r2 → RSlots rule r2 := fun x zx e => by
    by_cases h6 : rS (rEnd x) = 6
    · exact sign_slots h6 (rEnd_slots zx).1 (rEnd_slots zx).2 e
    · unfold rSign at e; rw [if_neg h6] at e; cases e
  unfold rStep at h
  split at h
  · split at h
    · unfold rFac at h
      have ho : ∀ k c, k ≠ 1 → some (rHold k c r) = some r2 → RSlots rule r2 := fun k c hk e => by
        cases e; exact ⟨z.1, ⟨hk, z.2.1⟩, z.2.2⟩
      have hf : ∀ k c, k ≠ 1 → some (rHold k c (rSt 5 r)) = some r2 → RSlots rule r2 := fun k c hk e => by
        cases e; exact hold_slots z hk (by decide)
      have na : ∀ j : Nat, SlotOk rule (nI j) → some (rName (nI j) r) = some r2 → RSlots rule r2 := fun j hj e => by
        cases e; exact name_slots z hj
      have nf : ∀ s c, rule = 0 → ((s = 0 ∧ c = 3) ∨ (s = 3 ∧ c = 6) ∨ (s = 9 ∧ c = 6)) → some (rSt 4 (rNam s c r)) = some r2 → RSlots rule r2 := fun s c e0 hc e => by
        cases e; exact ⟨z.1, z.2.1, fun _ => ⟨e0, hc⟩⟩
      by_cases c40 : ch = 40
      · rw [if_pos c40] at h; exact ho _ _ (by decide) h
      rw [if_neg c40] at h
      by_cases c45 : ch = 45
      · rw [if_pos c45] at h; exact ho _ _ (by decide) h
      rw [if_neg c45] at h
      by_cases c97 : ch = 97
      · rw [if_pos c97] at h; exact hf _ _ (by decide) h
      rw [if_neg c97] at h
      by_cases c102 : ch = 102
      · rw [if_pos c102] at h
        rcases hr with e | e
        · rw [if_pos e] at h; cases h
        · rw [if_neg (by rw [e]; decide)] at h; exact na 18 (Or.inr ⟨e, 18, rfl, by decide, by decide⟩) h
      rw [if_neg c102] at h
      by_cases c103 : ch = 103
      · rw [if_pos c103] at h
        split at h
        · exact nf _ _ ‹_› (Or.inl ⟨rfl, rfl⟩) h
        · cases h
      rw [if_neg c103] at h
      by_cases c104 : ch = 104
      · rw [if_pos c104] at h
        rcases hr with e | e
        · exact na 16 (Or.inl ⟨e, 16, rfl, by decide⟩) h
        · exact na 16 (Or.inr ⟨e, 16, rfl, by decide, by decide⟩) h
      rw [if_neg c104] at h
      by_cases c105 : ch = 105
      · rw [if_pos c105] at h; exact hf _ _ (by decide) h
      rw [if_neg c105] at h
      by_cases c108 : ch = 108
      · rw [if_pos c108] at h
        rcases hr with e | e
        · rw [if_pos e] at h; cases h
        · rw [if_neg (by rw [e]; decide)] at h; exact na 17 (Or.inr ⟨e, 17, rfl, by decide, by decide⟩) h
      rw [if_neg c108] at h
      by_cases c109 : ch = 109
      · rw [if_pos c109] at h
        split at h
        · exact nf _ _ ‹_› (Or.inr (Or.inl ⟨rfl, rfl⟩)) h
        · cases h
      rw [if_neg c109] at h
      by_cases c110 : ch = 110
      · rw [if_pos c110] at h; exact hf _ _ (by decide) h
      rw [if_neg c110] at h
      by_cases c112 : ch = 112
      · rw [if_pos c112] at h
        split at h
        · exact na 15 (Or.inl ⟨‹_›, 15, rfl, by decide⟩) h
        · cases h
      rw [if_neg c112] at h
      by_cases c113 : ch = 113
      · rw [if_pos c113] at h
        split at h
        · exact nf _ _ ‹_› (Or.inr (Or.inr ⟨rfl, rfl⟩)) h
        · cases h
      rw [if_neg c113] at h
      by_cases c114 : ch = 114
      · rw [if_pos c114] at h
        rcases hr with e | e
        · rw [if_pos e] at h; cases h
        · rw [if_neg (by rw [e]; decide)] at h; exact na 19 (Or.inr ⟨e, 19, rfl, by decide, by decide⟩) h
      rw [if_neg c114] at h
      by_cases c116 : ch = 116
      · rw [if_pos c116] at h; exact hf _ _ (by decide) h
      rw [if_neg c116] at h
      by_cases c120 : ch = 120
      · rw [if_pos c120] at h; exact hf _ _ (by decide) h
      rw [if_neg c120] at h
      cases h
    · cases h; exact ⟨z.1, z.2.1, fun n => absurd (show (1 : Int32) = 4 from n) (by decide)⟩
  · split at h
    · rename_i h4
      split at h
      · cases h
      · split at h
        · cases h
        · rename_i f1 f2
          have z4 := z.2.2 h4
          cases h
          obtain ⟨j, k, _, _, e, hj⟩ := slot_add z4.2 f1 f2
          rw [e]
          exact name_slots z (Or.inl ⟨z4.1, j, rfl, by omega⟩)
    · split at h
      · split at h
        · cases h; exact ⟨z.1, z.2.1, fun n => absurd (show (0 : Int32) = 4 from n) (by decide)⟩
        · cases h
      · split at h
        · unfold rGo at h
          split at h
          · split at h
            · cases h; exact ⟨z.1, z.2.1, fun n => absurd (show (2 : Int32) = 4 from n) (by decide)⟩
            · exact sg r z h
          · exact sg r z h
        · unfold rFigs at h
          split at h
          · rename_i h1
            split at h
            · cases h; exact ⟨z.1, z.2.1, fun n => absurd (h1.symm.trans (show rS r = 4 from n)) (by decide)⟩
            · cases h
          · split at h
            · cases h; exact ⟨z.1, z.2.1, fun n => absurd (show (3 : Int32) = 4 from n) (by decide)⟩
            · split at h
              · cases h; exact ⟨⟨fun n => absurd (show (0 : Int32) = 1 from n) (by decide), z.1⟩, z.2.1, fun n => absurd (show (6 : Int32) = 4 from n) (by decide)⟩
              · cases h
theorem run_slots (hr : rule = 0 ∨ rule = 1) : ∀ (l : List Int32) (i : Nat) (r R : RS), RSlots rule r → rRun rule l i r = .inr R → RSlots rule R
  | [], i, r, R, z, h => by cases h; exact z
  | ch :: l, i, r, R, z, h => by
    unfold rRun at h
    cases hs : rStep rule ch r with
    | none => rw [hs] at h; cases h
    | some r2 => rw [hs] at h; exact run_slots hr l (i + 1) r2 R (step_slots hr z hs) h
/-- the slots of a whole text's formula -/
theorem fin_slots (hr : rule = 0 ∨ rule = 1) {t : List Int32} {R : RS} (h : rRun rule t 0 r0 = .inr R) : SlotsOk rule (rF (rFin R)) := by
  have z := run_slots hr t 0 r0 R ⟨trivial, trivial, fun n => absurd (show (0 : Int32) = 4 from n) (by decide)⟩ h
  have e := rEnd_slots z
  exact (settle_slots (s := 1) (rH (rEnd R)) (rF (rEnd R)) e.2 e.1).1
end SL
theorem ename_nI {nm : Nat → UInt32} {j : Nat} (h : j < 20) : ename nm (nI j) = nm j := by
  unfold ename
  rw [if_neg (nI_pos (by omega)), if_neg (show ¬ (20 : Int32) ≤ nI j from fun n => absurd ((nI_leI (a := 20) (by decide) (by omega)).mp n) (by omega)), nI_clamp (by omega)]
/-- values hang on the names that a formula holds -/
theorem evalR_cong {rule : Int32} {nm nm2 : Nat → UInt32} (h : ∀ s, SlotOk rule s → ename nm s = ename nm2 s) : ∀ (f : FM), SlotsOk rule f → evalR nm f = evalR nm2 f
  | [], _ => rfl
  | p :: f, z => by
    show est nm p (evalR nm f) = est nm2 p (evalR nm2 f)
    rw [evalR_cong h f z.2]
    unfold est
    split
    · rfl
    · split
      · rw [h p.2 (z.1 ‹_›)]
      · rfl
theorem evalR_kvs {nm : Nat → UInt32} : ∀ (f : FM), kvs (evalR nm f)
  | [] => trivial
  | p :: f => by
    have z := evalR_kvs (nm := nm) f
    show kvs (est nm p (evalR nm f))
    unfold est
    split
    · exact ⟨kp_kv, z⟩
    · split
      · exact ⟨kp_kv, z⟩
      · unfold eop
        repeat' split
        all_goals first
          | exact ⟨kp_kv, kvs_tl z⟩
          | exact ⟨kp_kv, kvs_tl (kvs_tl z)⟩
          | exact ⟨kp_kv, kvs_tl (kvs_tl (kvs_tl z))⟩
