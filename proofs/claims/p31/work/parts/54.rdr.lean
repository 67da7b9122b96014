/-! own: reading a text: the class's reader is the function -/
set_option maxRecDepth 100000
section RR
variable {X : Nat × (Nat × (Nat → Int32))} {I J : Nat → Nat → Int32} {L : Nat → Nat → Int64} {F : Nat → Nat → UInt32} {Q : AQ} {rule : Int32} {r : RS}
theorem rEnd_sz : (rF (rEnd r)).length + (rH (rEnd r)).length ≤ rSz r ∧ rPend (rEnd r) ≤ 1 ∧ rSz (rEnd r) ≤ rSz r := by
  unfold rEnd rSz rPend
  by_cases e1 : rS r = 1
  · simp only [if_pos e1]
    refine ⟨?_, by split <;> (try split) <;> (try split) <;> omega, ?_⟩
    · show ((rF r).length + 1) + (rH r).length ≤ _; omega
    · show ((rF r).length + 1) + (rH r).length + 0 ≤ _; omega
  · simp only [if_neg e1]
    by_cases e3 : rS r = 3
    · have e2 : ¬ rS r = 2 := by rw [e3]; decide
      simp only [if_pos e3, if_neg e2]
      refine ⟨?_, by split <;> (try split) <;> (try split) <;> omega, ?_⟩
      · show ((rF r).length + 1) + (rH r).length ≤ _; omega
      · show ((rF r).length + 1) + (rH r).length + 0 ≤ _; omega
    · simp only [if_neg e3]
      exact ⟨by omega, by split <;> (try split) <;> (try split) <;> omega, by simp only [if_neg e1]; exact Nat.le_refl _⟩
theorem rPend_le : rPend r ≤ 1 := by
  unfold rPend
  split
  · omega
  · split
    · omega
    · split <;> omega
theorem sign_sz {ch : Int32} {r2 : RS} (h : rSign ch r = some r2) : rSz r2 ≤ (rF r).length + (rH r).length + 1 := by
  have e1 := rSet_sz (s := 1) (r := r)
  have e2 := rSet_sz (s := 2) (r := r)
  have op : ∀ k s, (rF (rSet s r)).length + (rH (rSet s r)).length = (rF r).length + (rH r).length → rOp k s r = some r2 → rSz r2 ≤ (rF r).length + (rH r).length + 1 := by
    intro k s e z
    cases z
    show (rF (rSet s r)).length + ((rH (rSet s r)).length + 1) + 0 ≤ _
    omega
  unfold rSign at h
  split at h
  · split at h
    · unfold rBrack at h
      cases hh : rH (rSet 1 r) with
      | nil => rw [hh] at h; cases h
      | cons p t =>
        rw [hh] at h e1
        simp only [List.length_cons] at e1
        have pl : rPend (rFH (rF (rSet 1 r)) t r) ≤ 1 := rPend_le
        have pl2 : rPend (rFH ((p.1, 0) :: rF (rSet 1 r)) t r) = 0 := by
          have : rS r = 6 := by assumption
          unfold rPend
          show (if rS r = 1 then 1 else if rS r = 2 then 1 else if rS r = 3 then 1 else 0) = 0
          rw [this]; rfl
        dsimp only at h
        split at h
        · split at h
          · cases h
            show (rF (rSet 1 r)).length + t.length + _ ≤ _
            omega
          · cases h
            show ((rF (rSet 1 r)).length + 1) + t.length + _ ≤ _
            omega
        · cases h
    · split at h
      · exact op _ _ e2 h
      · split at h
        · exact op _ _ e1 h
        · split at h
          · unfold rComma at h
            cases hh : rH (rSet 1 r) with
            | nil => rw [hh] at h; cases h
            | cons p t =>
              rw [hh] at h e1
              simp only [List.length_cons] at e1
              dsimp only at h
              split at h
              · cases h
              · cases h
                show (rF (rSet 1 r)).length + (t.length + 1) + 0 ≤ _
                omega
          · split at h
            · exact op _ _ e1 h
            · split at h
              · exact op _ _ e2 h
              · cases h
  · cases h
theorem fac_01 {o : Option RS} {v : Int32} (h : FacOk I rule o v J) : v = 0 ∨ v = 1 := by
  cases o with
  | none => exact Or.inl (h.2 rfl).1
  | some r2 => exact Or.inr (h.1 r2 rfl).1
theorem sp_sign {ch : Int32} (z : Rd I rule r) (hl : (rF r).length + (rH r).length < 40) (q : ∀ v J, FacOk I rule (rSign ch r) v J → Q (.inl (some (.int v))) (G X J L F)) :
    (rS r = 6 → (ch = 41 → WP mX3_takesBracket 0 (am_ent 2 [.ref 3]) [] (G X I L F) 0 0 (am_kq mX3_goesOn 114 [some (.ref 3), some (.int ch)] [] (0 + am_bc mX3_takesBracket) (0 + am_bs mX3_takesBracket) Q)) ∧ (¬ ch = 41 → (ch = 42 → WP mX3_operates 0 (am_ent 3 [.ref 3, .int 4, .int 2]) [] (G X I L F) 0 0 (am_kq mX3_goesOn 97 [some (.ref 3), some (.int ch)] [] (0 + am_bc mX3_operates) (0 + am_bs mX3_operates) Q)) ∧ (¬ ch = 42 → (ch = 43 → WP mX3_operates 0 (am_ent 3 [.ref 3, .int 2, .int 1]) [] (G X I L F) 0 0 (am_kq mX3_goesOn 83 [some (.ref 3), some (.int ch)] [] (0 + am_bc mX3_operates) (0 + am_bs mX3_operates) Q)) ∧ (¬ ch = 43 → (ch = 44 → WP mX3_takesComma 0 (am_ent 2 [.ref 3]) [] (G X I L F) 0 0 (am_kq mX3_goesOn 109 [some (.ref 3), some (.int ch)] [] (0 + am_bc mX3_takesComma) (0 + am_bs mX3_takesComma) Q)) ∧ (¬ ch = 44 → (ch = 45 → WP mX3_operates 0 (am_ent 3 [.ref 3, .int 3, .int 1]) [] (G X I L F) 0 0 (am_kq mX3_goesOn 90 [some (.ref 3), some (.int ch)] [] (0 + am_bc mX3_operates) (0 + am_bs mX3_operates) Q)) ∧ (¬ ch = 45 → (ch = 46 → Q (.inl (some (.int 0))) (G X I L F)) ∧ (¬ ch = 46 → (ch = 47 → WP mX3_operates 0 (am_ent 3 [.ref 3, .int 5, .int 2]) [] (G X I L F) 0 0 (am_kq mX3_goesOn 104 [some (.ref 3), some (.int ch)] [] (0 + am_bc mX3_operates) (0 + am_bs mX3_operates) Q)) ∧ (¬ ch = 47 → Q (.inl (some (.int 0))) (G X I L F))))))))) ∧ (¬ rS r = 6 → Q (.inl (some (.int 0))) (G X I L F)) := by
  unfold rSign at q
  have op : ∀ k s, (∀ v J, FacOk I rule (rOp k s r) v J → Q (.inl (some (.int v))) (G X J L F)) → ∀ J, Rd J rule (rHold k 0 (rSt 0 (rSet s r))) → RdFr I J → Q (.inl (some (.int 1))) (G X J L F) := fun k s q J hJ fr => q 1 J (ok_some rfl hJ fr)
  refine ⟨fun e6 => ?_, fun e6 => ?_⟩
  · rw [if_pos e6] at q
    refine ⟨fun c => ?_, fun c => ?_⟩
    · rw [if_pos c] at q
      exact sp_brack z (by omega) (fun v J h => k_X3_goesOn_117 ⟨fac_01 h, q v J h⟩)
    rw [if_neg c] at q
    refine ⟨fun c => ?_, fun c => ?_⟩
    · rw [if_pos c] at q
      exact sp_operates z hl (fun J h1 h2 => k_X3_goesOn_100 ⟨Or.inr rfl, op 4 2 q J h1 h2⟩)
    rw [if_neg c] at q
    refine ⟨fun c => ?_, fun c => ?_⟩
    · rw [if_pos c] at q
      exact sp_operates z hl (fun J h1 h2 => k_X3_goesOn_86 ⟨Or.inr rfl, op 2 1 q J h1 h2⟩)
    rw [if_neg c] at q
    refine ⟨fun c => ?_, fun c => ?_⟩
    · rw [if_pos c] at q
      exact sp_comma z (by omega) (fun v J h => k_X3_goesOn_112 ⟨fac_01 h, q v J h⟩)
    rw [if_neg c] at q
    refine ⟨fun c => ?_, fun c => ?_⟩
    · rw [if_pos c] at q
      exact sp_operates z hl (fun J h1 h2 => k_X3_goesOn_93 ⟨Or.inr rfl, op 3 1 q J h1 h2⟩)
    rw [if_neg c] at q
    refine ⟨fun c => ?_, fun c => ?_⟩
    · rw [if_neg (by rw [c]; decide)] at q
      exact q 0 I (ok_none rfl RdFr.refl)
    refine ⟨fun c => ?_, fun c => ?_⟩
    · rw [if_pos c] at q
      exact sp_operates z hl (fun J h1 h2 => k_X3_goesOn_107 ⟨Or.inr rfl, op 5 2 q J h1 h2⟩)
    · rw [if_neg c] at q
      exact q 0 I (ok_none rfl RdFr.refl)
  · rw [if_neg e6] at q
    exact q 0 I (ok_none rfl RdFr.refl)
theorem sp_goesOn {ch : Int32} (z : Rd I rule r) (hl : rSz r < 40) (q : ∀ v J, FacOk I rule (rGo ch r) v J → Q (.inl (some (.int v))) (G X J L F)) : WP mX3_goesOn 0 (am_ent 2 [.ref 3, .int ch]) [] (G X I L F) 0 0 Q := by
  have h5 : I 3 4 = rS r := z.2.2.2.2.1
  have hp : (rF r).length + (rH r).length + rPend r < 40 := hl
  have a := rEnd_Rd z (fun n => by omega)
  have e := rEnd_sz (r := r)
  have h6 : fI_X3_endNumber I 3 4 = rS (rEnd r) := a.1.2.2.2.2.1
  have key : (∀ v J, FacOk I rule (rSign ch (rEnd r)) v J → Q (.inl (some (.int v))) (G X J L F)) → _ := fun q2 => sp_sign (X := X) (L := L) (F := F) (Q := Q) (ch := ch) a.1 (by omega) (fun v J h => q2 v J ⟨fun r2 e => ⟨(h.1 r2 e).1, (h.1 r2 e).2.1, a.2.trans (h.1 r2 e).2.2⟩, fun e => ⟨(h.2 e).1, a.2.trans (h.2 e).2⟩⟩)
  unfold rGo at q
  refine k_X3_goesOn_0 ?_
  rw [h5, h6]
  refine ⟨fun e1 => ?_, fun e1 => ?_⟩
  · rw [if_pos e1] at q
    refine ⟨fun c => ?_, fun c => ?_⟩
    · rw [if_pos c] at q
      have b := rSt_Rd (x := 2) z (fun _ => z.2.2.2.2.2.2.1 (Or.inl e1)) (fun n => absurd n (by decide))
      exact q 1 _ (ok_some rfl b.1 b.2)
    · rw [if_neg c] at q
      exact key q
  · rw [if_neg e1] at q
    exact key q
theorem step_sz {ch : Int32} {r2 : RS} (h : rStep rule ch r = some r2) : rSz r2 ≤ rSz r + 1 := by
  have hp : rPend r ≤ 1 := rPend_le
  have e := rEnd_sz (r := r)
  have sg : rSign ch (rEnd r) = some r2 → rSz r2 ≤ rSz r + 1 := fun h => by
    have := sign_sz h
    omega
  have b1 : ∀ s : RS, rPend s ≤ 1 := fun s => rPend_le
  unfold rStep at h
  split at h
  · rename_i e0
    have p0 : rPend r = 0 := by unfold rPend; rw [e0]; rfl
    split at h
    · unfold rFac at h
      have nm : ∀ s, rName s r = r2 → rSz r2 ≤ rSz r + 1 := fun s e => by
        subst e
        show ((rF r).length + 1) + (rH r).length + 0 ≤ _
        unfold rSz; omega
      have ho : ∀ k c, rHold k c r = r2 → rSz r2 ≤ rSz r + 1 := fun k c e => by
        subst e
        show (rF r).length + ((rH r).length + 1) + rPend r ≤ _
        unfold rSz; omega
      have hf : ∀ k c, rHold k c (rSt 5 r) = r2 → rSz r2 ≤ rSz r + 1 := fun k c e => by
        subst e
        show (rF r).length + ((rH r).length + 1) + 0 ≤ _
        unfold rSz; omega
      have hn : ∀ s c, rSt 4 (rNam s c r) = r2 → rSz r2 ≤ rSz r + 1 := fun s c e => by
        subst e
        show (rF r).length + (rH r).length + 0 ≤ _
        unfold rSz; omega
      by_cases c40 : ch = 40
      · rw [if_pos c40] at h
        exact ho _ _ (Option.some.inj h)
      rw [if_neg c40] at h
      by_cases c45 : ch = 45
      · rw [if_pos c45] at h
        exact ho _ _ (Option.some.inj h)
      rw [if_neg c45] at h
      by_cases c97 : ch = 97
      · rw [if_pos c97] at h
        exact hf _ _ (Option.some.inj h)
      rw [if_neg c97] at h
      by_cases c102 : ch = 102
      · rw [if_pos c102] at h
        by_cases rr : rule = 0
        · rw [if_pos rr] at h; cases h
        · rw [if_neg rr] at h; exact nm _ (Option.some.inj h)
      rw [if_neg c102] at h
      by_cases c103 : ch = 103
      · rw [if_pos c103] at h
        by_cases rr : rule = 0
        · rw [if_pos rr] at h; exact hn _ _ (Option.some.inj h)
        · rw [if_neg rr] at h; cases h
      rw [if_neg c103] at h
      by_cases c104 : ch = 104
      · rw [if_pos c104] at h
        exact nm _ (Option.some.inj h)
      rw [if_neg c104] at h
      by_cases c105 : ch = 105
      · rw [if_pos c105] at h
        exact hf _ _ (Option.some.inj h)
      rw [if_neg c105] at h
      by_cases c108 : ch = 108
      · rw [if_pos c108] at h
        by_cases rr : rule = 0
        · rw [if_pos rr] at h; cases h
        · rw [if_neg rr] at h; exact nm _ (Option.some.inj h)
      rw [if_neg c108] at h
      by_cases c109 : ch = 109
      · rw [if_pos c109] at h
        by_cases rr : rule = 0
        · rw [if_pos rr] at h; exact hn _ _ (Option.some.inj h)
        · rw [if_neg rr] at h; cases h
      rw [if_neg c109] at h
      by_cases c110 : ch = 110
      · rw [if_pos c110] at h
        exact hf _ _ (Option.some.inj h)
      rw [if_neg c110] at h
      by_cases c112 : ch = 112
      · rw [if_pos c112] at h
        by_cases rr : rule = 0
        · rw [if_pos rr] at h; exact nm _ (Option.some.inj h)
        · rw [if_neg rr] at h; cases h
      rw [if_neg c112] at h
      by_cases c113 : ch = 113
      · rw [if_pos c113] at h
        by_cases rr : rule = 0
        · rw [if_pos rr] at h; exact hn _ _ (Option.some.inj h)
        · rw [if_neg rr] at h; cases h
      rw [if_neg c113] at h
      by_cases c114 : ch = 114
      · rw [if_pos c114] at h
        by_cases rr : rule = 0
        · rw [if_pos rr] at h; cases h
        · rw [if_neg rr] at h; exact nm _ (Option.some.inj h)
      rw [if_neg c114] at h
      by_cases c116 : ch = 116
      · rw [if_pos c116] at h
        exact hf _ _ (Option.some.inj h)
      rw [if_neg c116] at h
      by_cases c120 : ch = 120
      · rw [if_pos c120] at h
        exact hf _ _ (Option.some.inj h)
      rw [if_neg c120] at h
      cases h
    · cases h
      show (rF r).length + (rH r).length + 1 ≤ _
      unfold rSz; omega
  · split at h
    · split at h
      · cases h
      · split at h
        · cases h
        · cases h
          show ((rF r).length + 1) + (rH r).length + 0 ≤ _
          unfold rSz; omega
    · split at h
      · split at h
        · cases h
          show (rF r).length + (rH r).length + 0 ≤ _
          unfold rSz; omega
        · cases h
      · split at h
        · unfold rGo at h
          split at h
          · split at h
            · cases h
              show (rF r).length + (rH r).length + 1 ≤ _
              unfold rSz; omega
            · exact sg h
          · exact sg h
        · unfold rFigs at h
          split at h
          · split at h
            · cases h
              show (rF r).length + (rH r).length + rPend r ≤ _
              unfold rSz; omega
            · cases h
          · split at h
            · cases h
              show (rF r).length + (rH r).length + 1 ≤ _
              unfold rSz; omega
            · split at h
              · cases h
                show ((rF r).length + 1) + (rH r).length + 0 ≤ _
                unfold rSz; omega
              · cases h
theorem sp_takes {ch : Int32} (z : Rd I rule r) (hl : rSz r < 40) (q : ∀ v J, FacOk I rule (rStep rule ch r) v J → Q (.inl (some (.int v))) (G X J L F)) : WP mX3_takes 0 (am_ent 3 [.ref 3, .int ch]) [] (G X I L F) 0 0 Q := by
  have h5 : I 3 4 = rS r := z.2.2.2.2.1
  have hp : (rF r).length + (rH r).length + rPend r < 40 := hl
  refine k_X3_takes_0 (fun fig ef => ?_)
  have ef2 : fig = rFig ch := ef
  clear ef
  subst ef2
  rw [h5]
  unfold rStep at q
  refine ⟨fun e0 I62 eI s62 es => ?_, fun n0 => ⟨fun e4 I98 eI s98 es => ?_, fun n4 => ⟨fun e5 s87 es => ?_, fun n5 => ⟨fun ef => ?_, fun nf => ?_⟩⟩⟩⟩
  · rw [if_pos e0] at q
    by_cases g : rFig ch = -1
    · rw [if_pos g] at eI es q
      subst eI es
      have a := fac_ok (ch := ch) z (by omega) (by omega)
      exact ⟨fac_01 a, q _ _ a⟩
    · rw [if_neg g] at eI es q
      subst eI es
      have a := rNum_Rd (n := rFig ch) (g := 1) z
      have b := rSt_Rd (x := 1) a.1 (fun _ => a.2.2) (fun n => absurd n (by decide))
      exact ⟨Or.inr rfl, q 1 _ (ok_some rfl b.1 (a.2.1.trans b.2))⟩
  · rw [if_neg n0, if_pos e4] at q
    have h8 := z.2.2.2.2.2.2.2.1 e4
    rw [h8.1, h8.2] at eI
    rw [h8.2] at es
    by_cases g : rFig ch = -1
    · rw [if_pos g] at eI es q
      subst eI es
      exact ⟨Or.inl rfl, q 0 _ (ok_none rfl RdFr.refl)⟩
    · rw [if_neg g] at eI es q
      by_cases g2 : rC r ≤ rFig ch
      · rw [if_pos g2] at eI es q
        subst eI es
        exact ⟨Or.inl rfl, q 0 _ (ok_none rfl RdFr.refl)⟩
      · rw [if_neg g2] at eI es q
        subst eI es
        have b := rName_Rd (slot := rL r + rFig ch) z (by omega)
        exact ⟨Or.inr rfl, q 1 _ (ok_some rfl b.1 b.2)⟩
  · rw [if_neg n0, if_neg n4, if_pos e5] at q
    have b := rSt_Rd (x := 0) z (nst (by decide) (by decide) (by decide)) (fun n => absurd n (by decide))
    by_cases g : ch = 40
    · rw [if_pos g] at es q
      subst es
      exact ⟨Or.inr rfl, q 1 _ (ok_some rfl b.1 b.2)⟩
    · rw [if_neg g] at es q
      subst es
      exact ⟨Or.inl rfl, q 0 _ (ok_none rfl b.2)⟩
  · rw [if_neg n0, if_neg n4, if_neg n5, if_pos ef] at q
    exact sp_goesOn z hl (fun v J h => k_X3_takes_146 ⟨fac_01 h, q v J h⟩)
  · rw [if_neg n0, if_neg n4, if_neg n5, if_neg nf] at q
    have a := fac_figs (fig := rFig ch) z (fun n => by omega)
    exact k_X3_takes_146 ⟨fac_01 a, q _ _ a⟩
end RR
