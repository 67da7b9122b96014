/-! own: the reader's steps show the function -/
set_option maxRecDepth 100000
section RT
variable {X : Nat × (Nat × (Nat → Int32))} {I J : Nat → Nat → Int32} {L : Nat → Nat → Int64} {F : Nat → Nat → UInt32} {Q : AQ} {rule : Int32} {r : RS}
def FacOk (I : Nat → Nat → Int32) (rule : Int32) (o : Option RS) (v : Int32) (J : Nat → Nat → Int32) : Prop := (∀ r2, o = some r2 → v = 1 ∧ Rd J rule r2 ∧ RdFr I J) ∧ (o = none → v = 0 ∧ RdFr I J)
theorem ok_some {v : Int32} {r2 : RS} (h1 : v = 1) (h2 : Rd J rule r2) (h3 : RdFr I J) : FacOk I rule (some r2) v J := ⟨fun r3 e => by cases e; exact ⟨h1, h2, h3⟩, fun e => by cases e⟩
theorem ok_none {v : Int32} (h1 : v = 0) (h3 : RdFr I J) : FacOk I rule none v J := ⟨fun r3 e => (by cases e), fun _ => ⟨h1, h3⟩⟩
theorem nst {x : Int32} {p : Prop} (h1 : x ≠ 1) (h2 : x ≠ 2) (h3 : x ≠ 3) : x = 1 ∨ x = 2 ∨ x = 3 → p := fun n => by rcases n with n | n | n <;> contradiction
theorem fac_hold {k c : Int32} (z : Rd I rule r) (hl : (rH r).length < 40) : FacOk I rule (some (rHold k c r)) (f_X3_hold k c I) (fI_X3_hold k c I) := by
  have b := rHold_Rd (x := k) (y := c) z hl
  exact ok_some b.2.2 b.1 b.2.1
theorem fac_fun {k c : Int32} (z : Rd I rule r) (hl : (rH r).length < 40) : FacOk I rule (some (rHold k c (rSt 5 r))) (f_X3_startsFunction k c I) (fI_X3_startsFunction k c I) := by
  have a := rSt_Rd (x := 5) z (nst (by decide) (by decide) (by decide)) (fun n => absurd n (by decide))
  have b := rHold_Rd (x := k) (y := c) a.1 hl
  exact ok_some b.2.2 b.1 (a.2.trans b.2.1)
theorem fac_name {s : Int32} (z : Rd I rule r) (hl : (rF r).length < 40) : FacOk I rule (some (rName s r)) 1 (fI_X3_endsName s I) := by
  have b := rName_Rd (slot := s) z hl
  exact ok_some rfl b.1 b.2
theorem fac_nam {s c : Int32} (z : Rd I rule r) : FacOk I rule (some (rSt 4 (rNam s c r))) 1 (fI_X3_startsName s c I) := by
  have a := rNam_Rd (n := s) (g := c) z
  have b := rSt_Rd (x := 4) a.1 (nst (by decide) (by decide) (by decide)) (fun _ => a.2.2)
  exact ok_some rfl b.1 (a.2.1.trans b.2)
theorem fac_ok {ch : Int32} (z : Rd I rule r) (hf : (rF r).length < 40) (hh : (rH r).length < 40) : FacOk I rule (rFac rule ch r) (f_X3_startsFactor ch I) (fI_X3_startsFactor ch I) := by
  have h6 : I 3 5 = rule := z.2.2.2.2.2.1
  unfold rFac f_X3_startsFactor fI_X3_startsFactor
  rw [h6]
  by_cases c40 : ch = 40
  · rw [if_pos c40, if_pos c40, if_pos c40]
    exact fac_hold z hh
  rw [if_neg c40, if_neg c40, if_neg c40]
  by_cases c45 : ch = 45
  · rw [if_pos c45, if_pos c45, if_pos c45]
    exact fac_hold z hh
  rw [if_neg c45, if_neg c45, if_neg c45]
  by_cases c97 : ch = 97
  · rw [if_pos c97, if_pos c97, if_pos c97]
    exact fac_fun z hh
  rw [if_neg c97, if_neg c97, if_neg c97]
  by_cases c102 : ch = 102
  · rw [if_pos c102, if_pos c102, if_pos c102]
    by_cases rr : rule = 0
    · rw [if_pos rr, if_pos rr, if_pos rr]; exact ok_none rfl RdFr.refl
    · rw [if_neg rr, if_neg rr, if_neg rr]; exact fac_name z hf
  rw [if_neg c102, if_neg c102, if_neg c102]
  by_cases c103 : ch = 103
  · rw [if_pos c103, if_pos c103, if_pos c103]
    by_cases rr : rule = 0
    · rw [if_pos rr, if_pos rr, if_pos rr]; exact fac_nam z
    · rw [if_neg rr, if_neg rr, if_neg rr]; exact ok_none rfl RdFr.refl
  rw [if_neg c103, if_neg c103, if_neg c103]
  by_cases c104 : ch = 104
  · rw [if_pos c104, if_pos c104, if_pos c104]
    exact fac_name z hf
  rw [if_neg c104, if_neg c104, if_neg c104]
  by_cases c105 : ch = 105
  · rw [if_pos c105, if_pos c105, if_pos c105]
    exact fac_fun z hh
  rw [if_neg c105, if_neg c105, if_neg c105]
  by_cases c108 : ch = 108
  · rw [if_pos c108, if_pos c108, if_pos c108]
    by_cases rr : rule = 0
    · rw [if_pos rr, if_pos rr, if_pos rr]; exact ok_none rfl RdFr.refl
    · rw [if_neg rr, if_neg rr, if_neg rr]; exact fac_name z hf
  rw [if_neg c108, if_neg c108, if_neg c108]
  by_cases c109 : ch = 109
  · rw [if_pos c109, if_pos c109, if_pos c109]
    by_cases rr : rule = 0
    · rw [if_pos rr, if_pos rr, if_pos rr]; exact fac_nam z
    · rw [if_neg rr, if_neg rr, if_neg rr]; exact ok_none rfl RdFr.refl
  rw [if_neg c109, if_neg c109, if_neg c109]
  by_cases c110 : ch = 110
  · rw [if_pos c110, if_pos c110, if_pos c110]
    exact fac_fun z hh
  rw [if_neg c110, if_neg c110, if_neg c110]
  by_cases c112 : ch = 112
  · rw [if_pos c112, if_pos c112, if_pos c112]
    by_cases rr : rule = 0
    · rw [if_pos rr, if_pos rr, if_pos rr]; exact fac_name z hf
    · rw [if_neg rr, if_neg rr, if_neg rr]; exact ok_none rfl RdFr.refl
  rw [if_neg c112, if_neg c112, if_neg c112]
  by_cases c113 : ch = 113
  · rw [if_pos c113, if_pos c113, if_pos c113]
    by_cases rr : rule = 0
    · rw [if_pos rr, if_pos rr, if_pos rr]; exact fac_nam z
    · rw [if_neg rr, if_neg rr, if_neg rr]; exact ok_none rfl RdFr.refl
  rw [if_neg c113, if_neg c113, if_neg c113]
  by_cases c114 : ch = 114
  · rw [if_pos c114, if_pos c114, if_pos c114]
    by_cases rr : rule = 0
    · rw [if_pos rr, if_pos rr, if_pos rr]; exact ok_none rfl RdFr.refl
    · rw [if_neg rr, if_neg rr, if_neg rr]; exact fac_name z hf
  rw [if_neg c114, if_neg c114, if_neg c114]
  by_cases c116 : ch = 116
  · rw [if_pos c116, if_pos c116, if_pos c116]
    exact fac_fun z hh
  rw [if_neg c116, if_neg c116, if_neg c116]
  by_cases c120 : ch = 120
  · rw [if_pos c120, if_pos c120, if_pos c120]
    exact fac_fun z hh
  rw [if_neg c120, if_neg c120, if_neg c120]
  exact ok_none rfl RdFr.refl
theorem fac_figs {fig : Int32} (z : Rd I rule r) (hl : rPend r = 1 → (rF r).length < 40) : FacOk I rule (rFigs fig r) (f_X3_takesFigure fig I) (fI_X3_takesFigure fig I) := by
  have h5 : I 3 4 = rS r := z.2.2.2.2.1
  have h7 := z.2.2.2.2.2.2.1
  unfold rFigs f_X3_takesFigure fI_X3_takesFigure
  rw [h5]
  by_cases e1 : rS r = 1
  · have n2 : ¬ rS r = 2 := by rw [e1]; decide
    have n3 : ¬ rS r = 3 := by rw [e1]; decide
    rw [(h7 (Or.inl e1)).1, (h7 (Or.inl e1)).2]
    simp only [if_pos e1, if_neg n2, if_neg n3]
    by_cases g : rG r < 3
    · rw [if_pos g, if_pos g]
      have a := rNum_Rd (n := rN r * 10 + fig) (g := rG r + 1) z
      exact ok_some rfl a.1 a.2.1
    · rw [if_neg g, if_neg g]
      exact ok_none rfl RdFr.refl
  · simp only [if_neg e1]
    by_cases e2 : rS r = 2
    · rw [(h7 (Or.inr (Or.inl e2))).1, (h7 (Or.inr (Or.inl e2))).2]
      simp only [if_pos e2]
      have a := rNum_Rd (n := rN r * 10 + fig) (g := rG r + 1) z
      have b := rSt_Rd (x := 3) a.1 (fun _ => a.2.2) (fun n => absurd n (by decide))
      exact ok_some rfl b.1 (a.2.1.trans b.2)
    · simp only [if_neg e2]
      by_cases e3 : rS r = 3
      · rw [(h7 (Or.inr (Or.inr e3))).1, (h7 (Or.inr (Or.inr e3))).2]
        simp only [if_pos e3]
        have a := rNum_Rd (n := rN r * 10 + fig) (g := rG r + 1) z
        have b := rAdd_Rd (x := 0) (y := rN r * 10 + fig) a.1 (show (rF r).length < 40 from hl (by unfold rPend; rw [e3]; rfl))
        have c := rSt_Rd (x := 6) b.1 st6 (fun n => absurd n (by decide))
        exact ok_some rfl c.1 (a.2.1.trans (b.2.trans c.2))
      · simp only [if_neg e3]
        exact ok_none rfl RdFr.refl
theorem rSet_1 {r : RS} {s : Int32} : rSet s r = rFH (rF (rSet s r)) (rH (rSet s r)) r := rfl
theorem sp_comma (z : Rd I rule r) (hl : (rF r).length + (rH r).length ≤ 40) (q : ∀ v J, FacOk I rule (rComma r) v J → Q (.inl (some (.int v))) (G X J L F)) : WP mX3_takesComma 0 (am_ent 2 [.ref 3]) [] (G X I L F) 0 0 Q := by
  refine k_X3_takesComma_0 (sp_settle z hl (fun J hJ fr => ?_))
  have e := rSet_sz (s := 1) (r := r)
  have h1 : J 3 3 = nI (rH (rSet 1 r)).length := hJ.1
  have h2 : StkP J 7 8 (rH (rSet 1 r)) := hJ.2.1
  unfold rComma at q
  refine k_X3_takesComma_5 ?_
  rw [h1]
  cases hh : rH (rSet 1 r) with
  | nil =>
    rw [hh] at q
    exact ⟨fun _ => q 0 J (ok_none rfl fr), fun n => absurd (by decide) n⟩
  | cons p h =>
    rw [hh] at q h2 e
    simp only [List.length_cons] at e ⊢
    have e1 : nI (h.length + 1) - 1 = nI h.length := nI_pred h.length
    have c : (nI h.length).toNatClampNeg = h.length := nI_clamp (by omega)
    have lt := nI_lt40 (n := h.length) (by omega)
    have h8 : J 8 h.length = p.2 := h2.2.1
    rw [e1, c, h8]
    refine ⟨fun n => absurd n lt.1, fun _ => ⟨fun n => absurd n lt.2.1, fun _ => ⟨fun n => ?_, fun n => ?_⟩⟩⟩
    · refine q 0 J ?_
      dsimp only
      rw [if_pos n]
      exact ok_none rfl fr
    · refine q 1 _ ?_
      dsimp only
      rw [if_neg n]
      obtain ⟨k1, k2, k3, k4, k5, k6, k7, k8, k9, k10⟩ := hJ
      refine ok_some rfl ⟨?_, ?_, ?_, ?_, am_u_eq, ?_, ?_, ?_, ?_, ?_⟩ (fr.trans (RdFr_u (by decide) (by decide) (RdFr_u (by decide) (by decide) RdFr.refl)))
      · rw [am_u_ne (by omega), am_u_ne (by omega), k1, hh]; rfl
      · refine StkP_ne (by decide) (by decide) ⟨?_, am_u_eq, ?_⟩
        · rw [am_u_ne (by omega)]; exact h2.1
        · exact StkP_ge (Nat.le_refl _) h2.2.2
      · rw [am_u_ne (by omega), am_u_ne (by omega)]; exact k3
      · exact StkP_ne (by decide) (by decide) (StkP_ne (by decide) (by decide) k4)
      · rw [am_u_ne (by omega), am_u_ne (by omega)]; exact k6
      · exact nst (by show (0 : Int32) ≠ 1; decide) (by show (0 : Int32) ≠ 2; decide) (by show (0 : Int32) ≠ 3; decide)
      · exact fun n => absurd (show (0 : Int32) = 4 from n) (by decide)
      · rw [am_u_ne (by omega), am_u_ne (by omega)]; exact k9
      · rw [am_u_ne (by omega), am_u_ne (by omega)]; exact k10
theorem sp_brack (z : Rd I rule r) (hl : (rF r).length + (rH r).length ≤ 40) (q : ∀ v J, FacOk I rule (rBrack r) v J → Q (.inl (some (.int v))) (G X J L F)) : WP mX3_takesBracket 0 (am_ent 2 [.ref 3]) [] (G X I L F) 0 0 Q := by
  refine k_X3_takesBracket_0 (sp_settle z hl (fun J hJ fr => ?_))
  have e := rSet_sz (s := 1) (r := r)
  have h1 : J 3 3 = nI (rH (rSet 1 r)).length := hJ.1
  have h2 : StkP J 7 8 (rH (rSet 1 r)) := hJ.2.1
  unfold rBrack at q
  refine k_X3_takesBracket_5 ?_
  rw [h1]
  cases hh : rH (rSet 1 r) with
  | nil =>
    rw [hh] at q
    exact ⟨fun _ => q 0 J (ok_none rfl fr), fun n => absurd (by decide) n⟩
  | cons p h =>
    have hJ2 : Rd J rule (rF (rSet 1 r), p :: h, r.2.2) := by
      rw [← hh]; exact hJ
    rw [hh] at q h2 e h1
    simp only [List.length_cons] at e h1 ⊢
    have e1 : nI (h.length + 1) - 1 = nI h.length := nI_pred h.length
    have c : (nI h.length).toNatClampNeg = h.length := nI_clamp (by omega)
    have lt := nI_lt40 (n := h.length) (by omega)
    have h8 : J 8 h.length = p.2 := h2.2.1
    have h7 : J 7 h.length = p.1 := h2.1
    have pp := rPop_Rd hJ2 (by omega)
    rw [h1] at pp
    rw [e1] at pp ⊢
    rw [c, h8, h7]
    refine ⟨fun n => absurd n lt.1, fun _ => ⟨fun n => absurd n lt.2.1, fun _ => ⟨fun n I58 eI => ?_, fun n => ?_⟩⟩⟩
    · refine q 1 _ ?_
      dsimp only
      rw [if_pos n]
      by_cases k12 : p.1 = 12
      · rw [if_pos k12] at eI ⊢
        subst eI
        exact ok_some rfl pp.1 (fr.trans pp.2)
      · rw [if_neg k12] at eI ⊢
        subst eI
        have a := rAdd_Rd (x := p.1) (y := 0) pp.1 (show (rF (rSet 1 r)).length < 40 by omega)
        exact ok_some rfl a.1 (fr.trans (pp.2.trans a.2))
    · refine q 0 J ?_
      dsimp only
      rw [if_neg n]
      exact ok_none rfl fr
end RT
