/-! own: what hours leave as the law asks -/
set_option maxRecDepth 100000
/-- the state that hours leave -/
def PV (I : Nat → Nat → Int32) (sc : Nat) (A : Nat → Nat → Int32) (B : Nat → Nat → UInt32) : Prop :=
  (∀ x, x < sc → (∃ f, f < 4 ∧ A 1000535 x = nI f) ∧ (I 1000535 x ≠ 0 → A 1000535 x = I 1000535 x)) ∧
  ∀ d, d < 3 → 0 < fk (B 1000530 d) ∧ (∃ k, k ≤ 10000 * cntB (jdg A) sc ∧ A 1000531 d = nI k) ∧ (I 1000517 d = 0 → B 1000520 d = 0 ∧ B 1000530 d = 1065353216 ∧ A 1000531 d = 0)
section PVS
variable {I I0 A : Nat → Nat → Int32} {F F0 B : Nat → Nat → UInt32} {s : AS} {d t x sc j n r rc T o : Nat} {L : Nat → Nat → Int64}
/-- what is asked of sirens -/
def SrO (I : Nat → Nat → Int32) (sc : Nat) : Prop := sc ≤ 12 ∧ ∀ x, x < sc → (∃ d, d < 3 ∧ I 1000532 x = nI d ∧ I 1000517 d ≠ 0) ∧ ∃ w, w ≤ 10000 ∧ I 1000536 x = nI w
theorem PV.dam (hd : d < 3) (z : PV I sc A B) : PV I sc A (vDam s I F0 d t B) := by
  refine ⟨z.1, fun e he => ?_⟩
  obtain ⟨a, b, c⟩ := z.2 e he
  refine ⟨by rw [vDam_o (by decide) (by decide)]; exact a, b, fun h => ?_⟩
  obtain ⟨c1, c2, c3⟩ := c h
  refine ⟨?_, by rw [vDam_o (by decide) (by decide)]; exact c2, c3⟩
  by_cases ed : e = d
  · subst ed
    have eq : vDam s I F0 e t B = B := if_pos h
    rw [eq]; exact c1
  · rw [vDam_lev_ne ed]; exact c1
theorem PV.ds (z : PV I sc A B) : ∀ j, j ≤ 3 → PV I sc A (vDs s I F0 t B j)
  | 0, _ => z
  | j + 1, h => PV.dam (by omega) (PV.ds z j (by omega))
theorem jdg_mono {A2 : Nat → Nat → Int32} (h : ∀ k, k < sc → A 1000535 k ≠ 0 → A2 1000535 k ≠ 0) : cntB (jdg A) sc ≤ cntB (jdg A2) sc :=
  cntB_mono sc (fun k hk e => decide_eq_true (h k hk (of_decide_eq_true e)))
theorem jdg_lt {A2 : Nat → Nat → Int32} (hx : x < sc) (e1 : A 1000535 x = 0) (e2 : A2 1000535 x ≠ 0) (h : ∀ k, k < sc → A 1000535 k ≠ 0 → A2 1000535 k ≠ 0) : cntB (jdg A) sc + 1 ≤ cntB (jdg A2) sc :=
  cntB_lt (j := x) (decide_eq_true e2) (decide_eq_false (fun n => n e1)) sc hx (fun k hk e => decide_eq_true (h k hk (of_decide_eq_true e)))
/-- a siren is judged -/
theorem PV.sir (so : SrO I sc) (va : VAf I A) (hx : x < sc) (tr : ∀ d, d < 3 → TrOk (B 1000530 d)) (z : PV I sc A B) : PV I sc (vSI A B x t) (vSF A B x t) := by
  unfold vSI vSF
  by_cases a0 : A 1000535 x = 0
  · rw [if_pos a0, if_pos a0]
    obtain ⟨⟨d, hd, ed, bd⟩, w, hw, ew⟩ := so.2 x hx
    have l12 := so.1
    have cn : cntB (jdg A) sc ≤ sc := cntB_le _ _
    have e532 : (A 1000532 x).toNatClampNeg = d := by rw [va 1000532 (by decide) (by decide), ed, nI_clamp (by omega)]
    have e536 : A 1000536 x = nI w := by rw [va 1000536 (by decide) (by decide)]; exact ew
    rw [e532]
    generalize (A 1000533 x).toNatClampNeg = r
    -- fates
    have fat : ∀ (f : Nat) (A2 : Nat → Nat → Int32), f < 4 → (∀ k, A2 1000535 k = if k = x then nI f else A 1000535 k) → ∀ y, y < sc → (∃ f, f < 4 ∧ A2 1000535 y = nI f) ∧ (I 1000535 y ≠ 0 → A2 1000535 y = I 1000535 y) := fun f A2 hf h y hy => by
      obtain ⟨u1, u2⟩ := z.1 y hy
      rw [h y]
      by_cases e : y = x
      · rw [if_pos e]
        refine ⟨⟨f, hf, rfl⟩, fun nz => ?_⟩
        have := u2 nz
        rw [e] at this nz
        rw [a0] at this
        exact absurd this.symm nz
      · rw [if_neg e]
        exact ⟨u1, u2⟩
    have mono : ∀ (f : Nat) (A2 : Nat → Nat → Int32), nI f ≠ 0 → (∀ k, A2 1000535 k = if k = x then nI f else A 1000535 k) → cntB (jdg A) sc + 1 ≤ cntB (jdg A2) sc := fun f A2 hf h => jdg_lt hx a0 (by rw [h x, if_pos rfl]; exact hf) (fun k hk nz => by
      rw [h k]
      by_cases e : k = x
      · rw [if_pos e]; exact hf
      · rw [if_neg e]; exact nz)
    -- trust
    have tru : ∀ y, 0 < fk y → ∀ e, e < 3 → 0 < fk (am_u B 1000530 d y 1000530 e) := fun y hy e he => by
      by_cases ee : e = d
      · rw [ee, am_u_eq]; exact hy
      · rw [am_u_ne (by omega)]; exact (z.2 e he).1
    have ub : ∀ y e, e < 3 → I 1000517 e = 0 → am_u B 1000530 d y 1000520 e = 0 ∧ am_u B 1000530 d y 1000530 e = 1065353216 ∧ A 1000531 e = 0 := fun y e he h => by
      obtain ⟨c1, c2, c3⟩ := (z.2 e he).2.2 h
      have ne : e ≠ d := fun x => bd (by rw [← x]; exact h)
      exact ⟨by rw [am_u_ne (by omega)]; exact c1, by rw [am_u_ne (by omega)]; exact c2, c3⟩
    have sav : ∀ (A2 : Nat → Nat → Int32), cntB (jdg A) sc ≤ cntB (jdg A2) sc → (∀ k, A2 1000531 k = A 1000531 k) → ∀ e, e < 3 → ∃ k, k ≤ 10000 * cntB (jdg A2) sc ∧ A2 1000531 e = nI k := fun A2 hc h e he => by
      obtain ⟨k, k1, k2⟩ := (z.2 e he).2.1
      exact ⟨k, by omega, by rw [h]; exact k2⟩
    have hit : ∀ f, ∀ k, am_u A 1000535 x (nI f) 1000535 k = if k = x then nI f else A 1000535 k := fun f k => by
      by_cases e : k = x
      · rw [if_pos e, e, am_u_eq]
      · rw [if_neg e, am_u_ne (by omega)]
    have tp := (z.2 d hd).1
    have td := tr d hd
    unfold mjI mjF
    by_cases c1 : f_X9_reasonAgainst (nI r) A = 0
    · rw [if_pos c1, if_pos c1]
      by_cases c2 : Op.cmpValue (FP.fcmp (B 1000525 (201 * d + t)) (FP.i2f (A 1000528 d))) .l < 0
      · rw [if_pos c2, if_pos c2]
        by_cases c3 : nI t < A 1000513 r
        · rw [if_pos c3, if_pos c3]; exact z
        · rw [if_neg c3, if_neg c3]
          have m := mono 2 _ (by decide) (hit 2)
          exact ⟨fat 2 _ (by decide) (hit 2), fun e he => ⟨tru _ (pos_075 td tp) e he, sav _ (Nat.le_of_succ_le m) (fun k => am_u_ne (by omega)) e he, fun h => by
            obtain ⟨u1, u2, u3⟩ := ub (FP.fmul (B 1000530 d) 1061158912) e he h
            exact ⟨u1, u2, (am_u_ne (by omega)).trans u3⟩⟩⟩
      · rw [if_neg c2, if_neg c2]
        have hit1 : ∀ y k, am_u (am_u A 1000535 x 1) 1000531 d y 1000535 k = if k = x then nI 1 else A 1000535 k := fun y k => by
          rw [am_u_ne (by omega)]; exact hit 1 k
        have hv : ∃ k, k ≤ 10000 * cntB (jdg A) sc + 10000 ∧ A 1000531 d + (if nI t - A 1000534 x < A 1000529 d then 0 else A 1000536 x) = nI k := by
          obtain ⟨k, k1, k2⟩ := (z.2 d hd).2.1
          rw [k2, e536]
          split
          · exact ⟨k, by omega, Int32.add_zero _⟩
          · exact ⟨k + w, by omega, nI_add k w⟩
        generalize A 1000531 d + (if nI t - A 1000534 x < A 1000529 d then 0 else A 1000536 x) = y at hv
        have m := mono 1 _ (by decide) (hit1 y)
        refine ⟨fat 1 _ (by decide) (hit1 y), fun e he => ⟨tru _ (pos_rise td tp) e he, ?_, fun h => ?_⟩⟩
        · by_cases ee : e = d
          · rw [ee, am_u_eq]
            obtain ⟨k, k1, k2⟩ := hv
            exact ⟨k, by omega, k2⟩
          · rw [am_u_ne (by omega), am_u_ne (by omega)]
            obtain ⟨k, k1, k2⟩ := (z.2 e he).2.1
            exact ⟨k, by omega, k2⟩
        · obtain ⟨u1, u2, u3⟩ := ub (FP.fadd (B 1000530 d) (FP.fmul (FP.fsub 1065353216 (B 1000530 d)) 1056964608)) e he h
          have ne : e ≠ d := fun x => bd (by rw [← x]; exact h)
          exact ⟨u1, u2, (am_u_ne (by omega)).trans ((am_u_ne (by omega)).trans u3)⟩
    · rw [if_neg c1, if_neg c1]
      have m := mono 3 _ (by decide) (hit 3)
      exact ⟨fat 3 _ (by decide) (hit 3), fun e he => ⟨tru _ (pos_09 td tp) e he, sav _ (Nat.le_of_succ_le m) (fun k => am_u_ne (by omega)) e he, fun h => by
        obtain ⟨u1, u2, u3⟩ := ub (FP.fmul (B 1000530 d) 1063675494) e he h
        exact ⟨u1, u2, (am_u_ne (by omega)).trans u3⟩⟩⟩
  · rw [if_neg a0, if_neg a0]; exact z
theorem PV.sirs (so : SrO I sc) (va : VAf I A) (vb : VBk B t j) (z : PV I sc A B) : ∀ n, n ≤ sc → PV I sc (vSs A B t n).1 (vSs A B t n).2
  | 0, _ => z
  | n + 1, h => by
    have hd : ∀ x, x < sc → ∃ d, d < 3 ∧ I 1000532 x = nI d := fun x hx => by
      obtain ⟨⟨d, a, b, _⟩, _⟩ := so.2 x hx
      exact ⟨d, a, b⟩
    exact PV.sir so (vSs_f va n) (by omega) (fun d hd2 => (vSs_ok hd va vb n (by omega) d hd2).2.2.1) (PV.sirs so va vb z n (by omega))
theorem PV.hrs (so : SrO I sc) (ds : ∀ d, d < 3 → DamS I rc d) (vb : VBk F t 0) (z : PV I sc I F) : ∀ n, t + n ≤ 201 → PV I sc (vHs s I F sc t n).1 (vHs s I F sc t n).2
  | 0, _ => z
  | n + 1, h => by
    have hd : ∀ x, x < sc → ∃ d, d < 3 ∧ I 1000532 x = nI d := fun x hx => by
      obtain ⟨⟨d, a, b, _⟩, _⟩ := so.2 x hx
      exact ⟨d, a, b⟩
    have vb2 := vHs_ok (s := s) hd ds vb n (by omega)
    exact PV.sirs so (vHs_f n) (VBk.ds (s := s) (F0 := F) (by omega) ds vb2 3 (Nat.le_refl 3)) (PV.ds (PV.hrs so ds vb z n (by omega)) 3 (Nat.le_refl 3)) sc (Nat.le_refl sc)
end PVS
