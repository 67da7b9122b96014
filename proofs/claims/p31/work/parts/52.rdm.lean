/-! own: the reader's methods show the function -/
set_option maxRecDepth 100000
section RM
variable {X : Nat × (Nat × (Nat → Int32))} {I J : Nat → Nat → Int32} {L : Nat → Nat → Int64} {F : Nat → Nat → UInt32} {Q : AQ} {rule : Int32} {r : RS}
theorem rPop_Rd {f h : FM} {p : Int32 × Int32} {t : Int32 × Int32 × Int32 × Int32 × Int32 × Int32 × Int32} (z : Rd I rule (f, p :: h, t)) (hl : h.length < 40) : Rd (am_u I 3 3 (I 3 3 - 1)) rule (f, h, t) ∧ RdFr I (am_u I 3 3 (I 3 3 - 1)) := by
  obtain ⟨h1, h2, h3, h4, h5, h6, h7, h8, h9, h10⟩ := z
  refine ⟨⟨?_, ?_, ?_, ?_, ?_, ?_, ?_, ?_, ?_, ?_⟩, RdFr_u (by decide) (by decide) RdFr.refl⟩
  · rw [am_u_eq, h1]; exact nI_pred h.length
  · exact StkP_ne (by decide) (by decide) h2.2.2
  · rw [am_u_ne (by omega)]; exact h3
  · exact StkP_ne (by decide) (by decide) h4
  · rw [am_u_ne (by omega)]; exact h5
  · rw [am_u_ne (by omega)]; exact h6
  · intro z; rw [am_u_ne (by omega), am_u_ne (by omega)]; exact h7 z
  · intro z; rw [am_u_ne (by omega), am_u_ne (by omega)]; exact h8 z
  · rw [am_u_ne (by omega)]; exact h9
  · rw [am_u_ne (by omega)]; exact h10
theorem nI_le0 {n : Nat} (h : n < 2 ^ 31) : nI n ≤ 0 ↔ n = 0 := (nI_leI (b := 0) h (by decide)).trans Nat.le_zero
theorem sp_settle0 {s : Int32} {t : Int32 × Int32 × Int32 × Int32 × Int32 × Int32 × Int32} : ∀ (h f : FM) (I : Nat → Nat → Int32), Rd I rule (f, h, t) → f.length + h.length ≤ 40 → (∀ J, Rd J rule ((rSettle s h f).1, (rSettle s h f).2, t) → RdFr I J → Q (.inl none) (G X J L F)) → WP mX3_settle 0 [some (.ref 3), some (.int s)] [] (G X I L F) 0 0 Q
  | [], f, I, z, hl, q => by
    have e : I 3 3 = nI 0 := z.1
    exact k_X3_settle_0 ⟨fun _ => q I z RdFr.refl, fun n => absurd (by rw [e]; decide) n⟩
  | p :: h, f, I, z, hl, q => by
    have e : I 3 3 = nI (h.length + 1) := z.1
    simp only [List.length_cons] at hl
    have e1 : I 3 3 - 1 = nI h.length := by rw [e]; exact nI_pred h.length
    have c : (nI h.length).toNatClampNeg = h.length := nI_clamp (by omega)
    have hp : I 7 h.length = p.1 := z.2.1.1
    have hin : vp_in (I 3 3 - 1) 40 := by rw [e1]; exact nI_in (by omega) (by decide)
    refine k_X3_settle_0 ⟨fun n => ?_, fun _ => ⟨fun n => ?_, fun _ => ⟨hin, ?_⟩⟩⟩
    · rw [e, nI_le0 (by omega)] at n; omega
    · rw [e] at n; exact absurd ((nI_ltI (a := 40) (by decide) (by omega)).mp n) (by omega)
    · rw [e1, c, hp]
      refine ⟨fun n => ?_, fun n => ⟨by rw [← e1]; exact hin, ?_⟩⟩
      · have q2 := q I
        unfold rSettle at q2
        rw [if_pos n] at q2
        exact q2 z RdFr.refl
      · have a := rAdd_Rd (x := p.1) (y := 0) z (show f.length < 40 by omega)
        have b := rPop_Rd (f := (p.1, 0) :: f) (h := h) (p := p) (t := t) a.1 (by omega)
        refine sp_settle0 h ((p.1, 0) :: f) _ b.1 (by simp only [List.length_cons]; omega) (fun J hJ fr => ?_)
        have q2 := q J
        unfold rSettle at q2
        rw [if_neg n] at q2
        exact q2 hJ (a.2.trans (b.2.trans fr))
theorem sp_settle {s : Int32} (z : Rd I rule r) (hl : (rF r).length + (rH r).length ≤ 40) (q : ∀ J, Rd J rule (rSet s r) → RdFr I J → Q (.inl none) (G X J L F)) : WP mX3_settle 0 (am_ent 2 [.ref 3, .int s]) [] (G X I L F) 0 0 Q :=
  sp_settle0 (rH r) (rF r) I z hl q
theorem rSet_sz {s : Int32} : (rF (rSet s r)).length + (rH (rSet s r)).length = (rF r).length + (rH r).length := rSettle_sz (rH r) (rF r)
theorem sp_operates {k s : Int32} (z : Rd I rule r) (hl : (rF r).length + (rH r).length < 40) (q : ∀ J, Rd J rule (rHold k 0 (rSt 0 (rSet s r))) → RdFr I J → Q (.inl (some (.int 1))) (G X J L F)) : WP mX3_operates 0 (am_ent 3 [.ref 3, .int k, .int s]) [] (G X I L F) 0 0 Q := by
  refine k_X3_operates_0 (sp_settle z (by omega) (fun J hJ fr => ?_))
  have e := rSet_sz (s := s) (r := r)
  have a := rSt_Rd (x := 0) hJ (fun n => by rcases n with n | n | n <;> exact absurd n (by decide)) (fun n => absurd n (by decide))
  have b := rHold_Rd (x := k) (y := 0) a.1 (show (rH (rSet s r)).length < 40 by omega)
  refine k_X3_operates_5 ?_
  rw [b.2.2]
  exact q _ b.1 (fr.trans (a.2.trans b.2.1))
theorem addName_eq {o : Nat} {slot : Int32} : fI_X2_addName o slot I = if 0 ≤ slot ∧ slot < 3 then am_u (fI_X2_add o 1 slot I) o 4 (((fI_X2_add o 1 slot I) o 4) ||| ((1 : Int32) <<< ((slot - 0) &&& 31))) else if 3 ≤ slot ∧ slot < 9 then am_u (fI_X2_add o 1 slot I) o 3 (((fI_X2_add o 1 slot I) o 3) ||| ((1 : Int32) <<< ((slot - 3) &&& 31))) else if 9 ≤ slot ∧ slot < 15 then am_u (fI_X2_add o 1 slot I) o 3 (((fI_X2_add o 1 slot I) o 3) ||| ((1 : Int32) <<< ((slot - 9) &&& 31))) else fI_X2_add o 1 slot I := by
  unfold fI_X2_addName
  have e0 : (0 : Int32).toInt = 0 := by decide
  have e3 : (3 : Int32).toInt = 3 := by decide
  have e9 : (9 : Int32).toInt = 9 := by decide
  have e15 : (15 : Int32).toInt = 15 := by decide
  simp only [Int32.lt_iff_toInt_lt, Int32.le_iff_toInt_le, e0, e3, e9, e15]
  repeat' split
  all_goals first | rfl | omega
theorem rName_Rd {slot : Int32} (z : Rd I rule r) (hl : (rF r).length < 40) : Rd (fI_X3_endsName slot I) rule (rName slot r) ∧ RdFr I (fI_X3_endsName slot I) := by
  have a := rAdd_Rd (x := 1) (y := slot) z hl
  have h9 : fI_X2_add 4 1 slot I 4 3 = rM r := a.1.2.2.2.2.2.2.2.2.1
  have h10 : fI_X2_add 4 1 slot I 4 4 = rA r := a.1.2.2.2.2.2.2.2.2.2
  have b : Rd (fI_X2_addName 4 slot I) rule (rMG (rMod slot (rM r)) (rGau slot (rA r)) (rAdd 1 slot r)) ∧ RdFr I (fI_X2_addName 4 slot I) := by
    rw [addName_eq, h9, h10]
    unfold rMod rGau
    have e0 : (0 : Int32).toInt = 0 := by decide
    have e3 : (3 : Int32).toInt = 3 := by decide
    have e9 : (9 : Int32).toInt = 9 := by decide
    have e15 : (15 : Int32).toInt = 15 := by decide
    have k3 := rM_Rd (m := rM r ||| ((1 : Int32) <<< ((slot - 3) &&& 31))) a.1
    have k9 := rM_Rd (m := rM r ||| ((1 : Int32) <<< ((slot - 9) &&& 31))) a.1
    have k0 := rA_Rd (m := rA r ||| ((1 : Int32) <<< ((slot - 0) &&& 31))) a.1
    simp only [Int32.lt_iff_toInt_lt, Int32.le_iff_toInt_le, e0, e3, e9, e15]
    repeat' split
    all_goals first
      | exact ⟨k0.1, a.2.trans k0.2⟩
      | exact ⟨k3.1, a.2.trans k3.2⟩
      | exact ⟨k9.1, a.2.trans k9.2⟩
      | exact a
      | omega
  have c := rSt_Rd (x := 6) b.1 (fun n => by rcases n with n | n | n <;> exact absurd n (by decide)) (fun n => absurd n (by decide))
  exact ⟨c.1, b.2.trans c.2⟩
theorem st6 {I : Nat → Nat → Int32} {r : RS} : (6 : Int32) = 1 ∨ (6 : Int32) = 2 ∨ (6 : Int32) = 3 → I 3 6 = rN r ∧ I 3 7 = rG r := fun n => by rcases n with n | n | n <;> exact absurd n (by decide)
theorem rEnd_Rd (z : Rd I rule r) (hl : rPend r = 1 → (rF r).length < 40) : Rd (fI_X3_endNumber I) rule (rEnd r) ∧ RdFr I (fI_X3_endNumber I) := by
  have h5 : I 3 4 = rS r := z.2.2.2.2.1
  have h7 := z.2.2.2.2.2.2.1
  unfold fI_X3_endNumber rEnd
  rw [h5]
  by_cases e1 : rS r = 1
  · rw [if_pos e1, if_pos e1, (h7 (Or.inl e1)).1]
    have a := rAdd_Rd (x := 0) (y := rN r * 100) z (hl (by unfold rPend; rw [if_pos e1]))
    have c := rSt_Rd (x := 6) a.1 st6 (fun n => absurd n (by decide))
    exact ⟨c.1, a.2.trans c.2⟩
  · rw [if_neg e1, if_neg e1]
    by_cases e3 : rS r = 3
    · rw [if_pos e3, if_pos e3, (h7 (Or.inr (Or.inr e3))).1]
      have a := rAdd_Rd (x := 0) (y := rN r * 10) z (hl (by unfold rPend; rw [e3]; rfl))
      have c := rSt_Rd (x := 6) a.1 st6 (fun n => absurd n (by decide))
      exact ⟨c.1, a.2.trans c.2⟩
    · rw [if_neg e3, if_neg e3]
      exact ⟨z, RdFr.refl⟩
end RM
