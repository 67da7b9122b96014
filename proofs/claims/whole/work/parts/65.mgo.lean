/-! own: a letter behind a factor: the model's values and the reader's state -/
set_option maxRecDepth 100000
def Open (nm : Nat → UInt32) (f h : FM) : Prop := HK h ∧ NN h ∧ (evalR nm f).length = Wt h
theorem hk_com : ∀ p ∈ hkL, p.2 ≠ 0 → (p.1, p.2 - 1) ∈ hkL ∧ ar (p.1, p.2 - 1) = ar p + 1 ∧ f_X3_strengthOf p.1 < 1 := by decide
theorem hk_12 : ∀ p ∈ hkL, p.1 = 12 → ar p = 0 := by decide
/-- behind a letter over a factor: over again (a bracket), or not -/
def Went (I : Nat → Nat → Int32) (F : Nat → Nat → UInt32) (nm : Nat → UInt32) (ch : Int32) (r2 : RS) (v : Int32) (J : Nat → Nat → Int32) (H : Nat → Nat → UInt32) : Prop := MIF I J ∧ MFF F H ∧
  ((v = 1 ∧ rS r2 = 6 ∧ Full nm (rF r2) (rH r2) ∧ MR J H nm (rSettle 3 (rH r2) (rF r2)).1 (rSettle 3 (rH r2) (rF r2)).2) ∨
   (v = 0 ∧ rS r2 = 0 ∧ Open nm (rF r2) (rH r2) ∧ MR J H nm (rF r2) (rH r2)))
abbrev GoTail (X : Nat × (Nat → Int32)) (L : Nat → Nat → Int64) (Q : AQ) (ch x2 : Int32) (J : Nat → Nat → Int32) (H : Nat → Nat → UInt32) : Prop := ((f_X10_isSign ch) = 0 → (ch = 44 → Q (.inl (some (.int 0))) (G X J L H)) ∧ (¬ ch = 44 → vp_in ((J 498 50) - 1) 48 ∧ (((¬ (J 539 (Int32.toNatClampNeg ((J 498 50) - 1))) = 40 → (p_X10_applies J H) ∧ (True))) ∧ (∀ I68 : Nat → Nat → Int32, I68 = (if (J 539 (Int32.toNatClampNeg ((J 498 50) - 1))) = 40 then (am_u J 498 50 ((J 498 50) - 1)) else (fI_X10_applies J H) : Nat → Nat → Int32) → ∀ F68 : Nat → Nat → UInt32, F68 = (if (J 539 (Int32.toNatClampNeg ((J 498 50) - 1))) = 40 then H else (fF_X10_applies J H) : Nat → Nat → UInt32) → (WP mX10_closes 0 (am_ent 1 [.ref 498]) [] (G X I68 L F68) 0 0 (am_kq mX10_goesOn 89 [some (.ref 498), some (.int ch), some (.int x2)] [] (0 + am_bc mX10_closes) (0 + am_bs mX10_closes) Q)))))) ∧ (¬ (f_X10_isSign ch) = 0 → (p_X10_waitsOn ch J) ∧ (Q (.inl (some (.int 0))) (G X (fI_X10_waitsOn ch J) L H)))
section MO
variable {X : Nat × (Nat → Int32)} {I J : Nat → Nat → Int32} {L : Nat → Nat → Int64} {F H : Nat → Nat → UInt32} {Q : AQ} {nm : Nat → UInt32} {p : Int32 × Int32} {f h : FM} {ch : Int32} {r2 : RS}
theorem mr_push {k : Int32} (m : MR I F nm f h) (hl : h.length < 40) : p_X10_waitsOn (kl k) I ∧ MR (fI_X10_waitsOn (kl k) I) F nm f ((k, 0) :: h) ∧ MIF I (fI_X10_waitsOn (kl k) I) := by
  have a := mwait_ok (v := kl k) m.2 (by rw [List.length_map]; exact hl)
  exact ⟨a.1, ⟨a.2.2.2 F _ m.1, a.2.1⟩, a.2.2.1⟩
theorem settle_len {s : Int32} (h f : FM) : (rSettle s h f).2.length ≤ h.length := by
  have e := rSettle_sz (s := s) h f
  have g : f.length ≤ (rSettle s h f).1.length := by
    clear e
    induction h generalizing f with
    | nil => exact Nat.le_refl _
    | cons p h ih =>
      unfold rSettle
      split
      · exact Nat.le_refl _
      · have := ih ((p.1, 0) :: f)
        simp only [List.length_cons] at this
        omega
  omega
theorem went_op {re : RS} {k s : Int32} (h6 : rS re = 6) (z : Full nm (rF re) (rH re)) (hb : (rH re).length < 40) (hk : (k, 0) ∈ hkL) (hb2 : ar (k, 0) = 1) (s1 : 1 ≤ s) (s3 : s ≤ 3) (m : MR J H nm (rSettle s (rH re) (rF re)).1 (rSettle s (rH re) (rF re)).2) (i1 : MIF I J) (i2 : MFF F H) (hr : rOp k s re = some r2) : p_X10_waitsOn (kl k) J ∧ Went I F nm ch r2 0 (fI_X10_waitsOn (kl k) J) H := by
  cases hr
  have fu := settle_full (nm := nm) s1 (rH re) (rF re) z
  have sl := settle_len (s := s) (rH re) (rF re)
  have a := mr_push (k := k) m (by omega)
  refine ⟨a.1, i1.trans a.2.2, i2, Or.inr ⟨rfl, rfl, ⟨⟨hk, fu.1⟩, ⟨fun _ => settle_nt s3 (rH re) (rF re) z.1, fu.2.1⟩, ?_⟩, a.2.1⟩⟩
  show (evalR nm (rSettle s (rH re) (rF re)).1).length = ar (k, 0) + Wt (rSettle s (rH re) (rF re)).2
  rw [fu.2.2, hb2]; omega
theorem sp_mgoes {re : RS} (h6 : rS re = 6) (z : Full nm (rF re) (rH re)) (hb : (rH re).length < 40) (m : MR I F nm (rSettle 3 (rH re) (rF re)).1 (rSettle 3 (rH re) (rF re)).2) (hr : rSign ch re = some r2) (q : ∀ v J H, Went I F nm ch r2 v J H → Q (.inl (some (.int v))) (G X J L H)) : WP mX10_goesOn 0 (am_ent 3 [.ref 498, .int ch]) [] (G X I L F) 0 0 Q := by
  refine k_X10_goesOn_0 (fun s3 es => ?_)
  have z3 := settle_full (nm := nm) (s := 3) (by decide) (rH re) (rF re) z
  have t3 := settle_nt (s := 3) (by decide) (rH re) (rF re) z.1
  have run : ∀ (x2 s : Int32), s3 = x2 → ((x2 = 1 ∧ s = 2) ∨ (x2 = 0 ∧ s = 1)) → (∀ J H, MR J H nm (rSettle s (rH re) (rF re)).1 (rSettle s (rH re) (rF re)).2 → MIF I J → MFF F H → GoTail X L Q ch x2 J H) → WP mX10_goesOn 18 [some (.ref 498), some (.int ch), some (.int s3)] [] (G X I L F) 0 0 Q := fun x2 s e hs qq => by
    rw [e]
    exact sp_goes18 (X := X) (L := L) (Q := Q) (ch := ch) hs _ _ I F z3 t3 m (fun J H mm i1 i2 => by
      rw [settle_comp (by rcases hs with ⟨a, b⟩ | ⟨a, b⟩ <;> rw [b] <;> decide)] at mm
      exact qq J H mm i1 i2)
  unfold rSign at hr
  rw [if_pos h6] at hr
  by_cases c41 : ch = 41
  · subst c41
    rw [if_pos rfl] at hr
    rw [if_neg (by decide), if_neg (by decide)] at es
    refine run 0 1 es (Or.inr ⟨rfl, rfl⟩) (fun J H mm i1 i2 => ⟨fun _ => ⟨fun c => absurd c (by decide), fun _ => ?_⟩, fun c => absurd (by decide) c⟩)
    have fu := settle_full (nm := nm) (s := 1) (by decide) (rH re) (rF re) z
    unfold rBrack at hr
    have e1 : rH (rSet 1 re) = (rSettle 1 (rH re) (rF re)).2 := rfl
    have e2 : rF (rSet 1 re) = (rSettle 1 (rH re) (rF re)).1 := rfl
    rw [e1, e2] at hr
    generalize (rSettle 1 (rH re) (rF re)).1 = f1 at hr fu mm
    cases hh : (rSettle 1 (rH re) (rF re)).2 with
    | nil => rw [hh] at hr; cases hr
    | cons p t =>
      rw [hh] at hr fu mm
      dsimp only at hr
      obtain ⟨te, tl, hin, top⟩ := mr_top mm
      have hg := hk_neg p fu.1.1
      rw [top]
      by_cases p0 : p.2 = 0
      · rw [if_pos p0] at hr
        by_cases p12 : p.1 = 12
        · rw [if_pos p12] at hr
          cases hr
          have k40 : kl p.1 = 40 := hg.2.2.mpr p12
          have tt := mtop mm.2 mm.1
          refine ⟨hin, fun n => absurd k40 n, fun I2 eI F2 eF => ?_⟩
          rw [if_pos k40] at eI eF
          subst eI eF
          have fu2 : Full nm f1 t := ⟨fu.1.2, fu.2.1.2, by
            have : (evalR nm f1).length = ar p + Wt t + 1 := fu.2.2
            have a0 : ar p = 0 := hk_12 p fu.1.1 p12
            omega⟩
          exact sp_closes t f1 _ _ fu2 ⟨tt.2.2.2, tt.2.2.1⟩ (fun J2 H2 m2 j1 j2 => k_X10_goesOn_92 (q 1 J2 H2 ⟨i1.trans (MIF_50.trans j1), i2.trans j2, Or.inl ⟨rfl, h6, fu2, m2⟩⟩))
        · rw [if_neg p12] at hr
          cases hr
          have k40 : ¬ kl p.1 = 40 := fun n => p12 (hg.2.2.mp n)
          have ap := mr_apply fu p12 p0 mm
          have fp := full_pop fu p12 p0
          refine ⟨hin, fun _ => ⟨ap.1, trivial⟩, fun I2 eI F2 eF => ?_⟩
          rw [if_neg k40] at eI eF
          subst eI eF
          exact sp_closes t ((p.1, 0) :: f1) _ _ fp.1 ap.2.1 (fun J2 H2 m2 j1 j2 => k_X10_goesOn_92 (q 1 J2 H2 ⟨i1.trans (ap.2.2.1.trans j1), i2.trans (ap.2.2.2.trans j2), Or.inl ⟨rfl, h6, fp.1, m2⟩⟩))
      · rw [if_neg p0] at hr; cases hr
  rw [if_neg c41] at hr
  by_cases c42 : ch = 42
  · subst c42
    rw [if_pos rfl] at hr es
    refine run 1 2 es (Or.inl ⟨rfl, rfl⟩) (fun J H mm i1 i2 => ⟨fun c => absurd c (by decide), fun _ => ?_⟩)
    have a := went_op (ch := 42) h6 z hb (by decide) (by decide) (by decide) (by decide) mm i1 i2 hr
    exact ⟨a.1, q 0 _ _ a.2⟩
  rw [if_neg c42] at hr es
  by_cases c43 : ch = 43
  · subst c43
    rw [if_pos rfl] at hr
    rw [if_neg (by decide)] at es
    refine run 0 1 es (Or.inr ⟨rfl, rfl⟩) (fun J H mm i1 i2 => ⟨fun c => absurd c (by decide), fun _ => ?_⟩)
    have a := went_op (ch := 43) h6 z hb (by decide) (by decide) (by decide) (by decide) mm i1 i2 hr
    exact ⟨a.1, q 0 _ _ a.2⟩
  rw [if_neg c43] at hr
  by_cases c44 : ch = 44
  · subst c44
    rw [if_pos rfl] at hr
    rw [if_neg (by decide)] at es
    refine run 0 1 es (Or.inr ⟨rfl, rfl⟩) (fun J H mm i1 i2 => ⟨fun _ => ⟨fun _ => ?_, fun c => absurd rfl c⟩, fun c => absurd (by decide) c⟩)
    have fu := settle_full (nm := nm) (s := 1) (by decide) (rH re) (rF re) z
    unfold rComma at hr
    have e1 : rH (rSet 1 re) = (rSettle 1 (rH re) (rF re)).2 := rfl
    have e2 : rF (rSet 1 re) = (rSettle 1 (rH re) (rF re)).1 := rfl
    rw [e1, e2] at hr
    generalize (rSettle 1 (rH re) (rF re)).1 = f1 at hr fu mm
    cases hh : (rSettle 1 (rH re) (rF re)).2 with
    | nil => rw [hh] at hr; cases hr
    | cons p t =>
      rw [hh] at hr fu mm
      dsimp only at hr
      by_cases p0 : p.2 = 0
      · rw [if_pos p0] at hr; cases hr
      · rw [if_neg p0] at hr
        cases hr
        have c := hk_com p fu.1.1 p0
        refine q 0 J H ⟨i1, i2, Or.inr ⟨rfl, rfl, ⟨⟨c.1, fu.1.2⟩, ⟨fu.2.1.1, fu.2.1.2⟩, ?_⟩, mm⟩⟩
        have : (evalR nm f1).length = ar p + Wt t + 1 := fu.2.2
        show (evalR nm f1).length = ar (p.1, p.2 - 1) + Wt t
        rw [c.2.1]; omega
  rw [if_neg c44] at hr
  by_cases c45 : ch = 45
  · subst c45
    rw [if_pos rfl] at hr
    rw [if_neg (by decide)] at es
    refine run 0 1 es (Or.inr ⟨rfl, rfl⟩) (fun J H mm i1 i2 => ⟨fun c => absurd c (by decide), fun _ => ?_⟩)
    have a := went_op (ch := 45) h6 z hb (by decide) (by decide) (by decide) (by decide) mm i1 i2 hr
    exact ⟨a.1, q 0 _ _ a.2⟩
  rw [if_neg c45] at hr
  by_cases c47 : ch = 47
  · subst c47
    rw [if_pos rfl] at hr es
    refine run 1 2 es (Or.inl ⟨rfl, rfl⟩) (fun J H mm i1 i2 => ⟨fun c => absurd c (by decide), fun _ => ?_⟩)
    have a := went_op (ch := 47) h6 z hb (by decide) (by decide) (by decide) (by decide) mm i1 i2 hr
    exact ⟨a.1, q 0 _ _ a.2⟩
  rw [if_neg c47] at hr
  cases hr
end MO
