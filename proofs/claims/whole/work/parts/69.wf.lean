/-! own: a letter where a factor begins; whole texts -/
set_option maxRecDepth 100000
section WF2
variable {X : Nat × (Nat → Int32)} {I : Nat → Nat → Int32} {L : Nat → Nat → Int64} {F : Nat → Nat → UInt32} {Q : AQ} {nm : Nat → UInt32} {rule ver hour : Int32}
theorem step_fac {ch : Int32} {r r2 : RS} (h0 : rS r = 0) (hf : f_X10_isFigure ch = 0) (h : rStep rule ch r = some r2) : rFac rule ch r = some r2 := by
  unfold rStep at h
  rw [if_pos h0, if_pos (figs_not.mpr hf)] at h
  exact h
theorem step_nam {ch : Int32} {r r2 : RS} (h4 : rS r = 4) (h : rStep rule ch r = some r2) : ¬ rFig ch = -1 ∧ ¬ rC r ≤ rFig ch ∧ r2 = rName (rL r + rFig ch) r := by
  unfold rStep at h
  rw [if_neg (by rw [h4]; decide), if_pos h4] at h
  split at h
  · cases h
  · split at h
    · cases h
    · cases h; exact ⟨‹_›, ‹_›, rfl⟩
theorem step_brk {ch : Int32} {r r2 : RS} (h5 : rS r = 5) (h : rStep rule ch r = some r2) : r2 = rSt 0 r := by
  unfold rStep at h
  rw [if_neg (by rw [h5]; decide), if_neg (by rw [h5]; decide), if_pos h5] at h
  split at h
  · cases h; rfl
  · cases h
/-- a function: its letter waits, its bracket is left out -/
theorem w_fun {n m : Nat} {R : RS} (h40 : n ≤ 40) (hR : good R) (ih : ∀ m2, m2 ≤ m → WGoal X L Q I F nm rule ver hour n R m2) {i : Nat} {r r2 : RS} {J : Nat → Nat → Int32} {H : Nat → Nat → UInt32} {d6 : Option Value} {ch k c : Int32} (hi : i + (m + 1) = n) (i1 : MIF I J) (i2 : MFF F H) (h2 : rRun rule (seg (I 537) (i + 1) m) (i + 1) r2 = .inr R) (hz : rSz r ≤ i) (sz : rSz r2 ≤ rSz r + 1)
    (h0 : rS r = 0) (op : Open nm (rF r) (rH r)) (mr : MR J H nm (rF r) (rH r)) (e2 : r2 = rHold k c (rSt 5 r)) (hk : (k, c) ∈ hkL) (ha : ar (k, c) = 0) (hst : ¬ (f_X3_strengthOf k = 1 ∨ f_X3_strengthOf k = 2)) (hkl : kl k = ch) :
    (p_X10_waitsOn ch J) ∧ (WP mX10_worth 15 [some (.ref 498), some (.int ver), some (.int hour), some (.int 0), some (.int ((nI i + 1) + 1)), some (.int ch), d6] [] (G X (fI_X10_waitsOn ch J) L H) 0 0 Q) := by
  have hp : (rF r).length + (rH r).length + rPend r ≤ i := hz
  have s5 : rS r2 = 5 := by rw [e2]; rfl
  have a := mr_push (k := k) mr (by omega)
  rw [hkl] at a
  refine ⟨a.1, ?_⟩
  rw [nI_1, nI_1]
  cases m with
  | zero =>
    have er : r2 = R := Sum.inr.inj h2
    rw [← er] at hR
    exact absurd hR (notgood (by rw [s5]; decide) (by rw [s5]; decide) (by rw [s5]; decide))
  | succ m =>
    obtain ⟨r3, h3, h4⟩ := run_cons h2
    have sz3 := step_sz h3
    have e3 := step_brk s5 h3
    refine ih m (by omega) (i + 1 + 1) 0 r3 _ H _ _ (by omega) (i1.trans a.2.2) i2 h4 (by omega) (Or.inl ⟨rfl, by rw [e3]; rfl, ?_, ?_⟩)
    · rw [e3, e2]; exact open_push op hk ha hst
    · rw [e3, e2]; exact a.2.1
/-- a name with a figure -/
theorem w_figd {n m : Nat} {R : RS} (h40 : n ≤ 40) (hR : good R) (hN : EnvOk I F nm rule ver hour (rF (rFin R))) (ih : ∀ m2, m2 ≤ m → WGoal X L Q I F nm rule ver hour n R m2) {i : Nat} {r r2 : RS} {J : Nat → Nat → Int32} {H : Nat → Nat → UInt32} {x5 : Int32} (d6 : Int32) {ch s c : Int32} (hi : i + (m + 1) = n) (i1 : MIF I J) (i2 : MFF F H) (h2 : rRun rule (seg (I 537) (i + 1) m) (i + 1) r2 = .inr R) (hz : rSz r ≤ i) (sz : rSz r2 ≤ rSz r + 1)
    (h0 : rS r = 0) (op : Open nm (rF r) (rH r)) (mr : MR J H nm (rF r) (rH r)) (e2 : r2 = rSt 4 (rNam s c r)) (hno : ∀ fig, 0 ≤ fig → fig < c → NameOk rule ch fig (s + fig)) :
    vp_in (nI i + 1) 40 ∧ ∃ fig, fig = (J 537 (Int32.toNatClampNeg (nI i + 1))) - 48 ∧
    ((p_X10_named ver hour ch fig J) ∧ ((p_X10_puts (f_X10_named ver hour ch fig J H) J) ∧ (WP mX10_closes 0 (am_ent 1 [.ref 498]) [] (G X (fI_X10_puts (f_X10_named ver hour ch fig J H) J) L (fF_X10_puts (f_X10_named ver hour ch fig J H) J H)) 0 0 (am_kq mX10_worth 191 [some (.ref 498), some (.int ver), some (.int hour), some (.int 0), some (.int (nI i + 1)), some (.int x5), some (.int d6)] [] (0 + am_bc mX10_closes) (0 + am_bs mX10_closes) Q)))) := by
  have hp : (rF r).length + (rH r).length + rPend r ≤ i := hz
  have s4 : rS r2 = 4 := by rw [e2]; rfl
  have e537 : ∀ k, J 537 k = I 537 k := fun k => i1 537 k (by omega) (by omega)
  cases m with
  | zero =>
    have er : r2 = R := Sum.inr.inj h2
    rw [← er] at hR
    exact absurd hR (notgood (by rw [s4]; decide) (by rw [s4]; decide) (by rw [s4]; decide))
  | succ m =>
    obtain ⟨r3, h3, h4⟩ := run_cons h2
    have sz3 := step_sz h3
    have e3 := step_nam s4 h3
    have fe := fig_eq e3.1
    have fz := fig_ge e3.1
    have eC : rC r2 = c := by rw [e2]; rfl
    have eL : rL r2 = s := by rw [e2]; rfl
    rw [nI_1]
    have ci : (nI (i + 1)).toNatClampNeg = i + 1 := nI_clamp (by omega)
    rw [ci, e537, ← fe]
    refine ⟨nI_in (by omega) (by decide), _, rfl, ?_⟩
    exact w_named hN (ih m (by omega)) (r := r) (r2 := r3) (slot := s + rFig (I 537 (i + 1))) (x4 := nI (i + 1)) (e := i + 1 + 1) d6 (by omega) i1 i2 h4 (by omega) (by omega) op mr (by rw [e3.2.2]; rfl) (by rw [e3.2.2, eL, e2]; rfl) (by rw [e3.2.2, e2]; rfl) (hno _ fz (by rw [← eC]; exact Int32.not_le.mp e3.2.1)) (nI_1 (i + 1))

theorem w_fac {n m : Nat} {R : RS} (hn : I 498 46 = nI n) (h40 : n ≤ 40) (hR : good R) (hv : (rule = 0 ∧ ver ≠ -1) ∨ (rule = 1 ∧ ver = -1)) (hN : EnvOk I F nm rule ver hour (rF (rFin R))) (ih : ∀ m2, m2 ≤ m → WGoal X L Q I F nm rule ver hour n R m2) {i : Nat} {r : RS} {J : Nat → Nat → Int32} {H : Nat → Nat → UInt32} (d5 d6 : Option Value) (hi : i + (m + 1) = n) (i1 : MIF I J) (i2 : MFF F H) (hr : rRun rule (seg (I 537) i (m + 1)) i r = .inr R) (hz : rSz r ≤ i)
    (h0 : rS r = 0) (op : Open nm (rF r) (rH r)) (mr : MR J H nm (rF r) (rH r)) :
    WP mX10_worth 15 [some (.ref 498), some (.int ver), some (.int hour), some (.int 0), some (.int (nI i)), d5, d6] [] (G X J L H) 0 0 Q := by
  obtain ⟨r2, h1, h2⟩ := run_cons hr
  have sz := step_sz h1
  have hp : (rF r).length + (rH r).length + rPend r ≤ i := hz
  have e46 : J 498 46 = nI n := (i1 498 46 (by omega) (by omega)).trans hn
  have e537 : ∀ k, J 537 k = I 537 k := fun k => i1 537 k (by omega) (by omega)
  have ci : (nI i).toNatClampNeg = i := nI_clamp (by omega)
  have hin : vp_in (nI i) 40 := nI_in (by omega) (by decide)
  refine k_X10_worth_15 ⟨fun c => absurd ((nI_leI (a := n) (b := i) (by omega) (by omega)).mp (by rw [← e46]; exact c)) (by omega), fun _ => ⟨hin, fun _ => ?_, fun c => absurd rfl c⟩⟩
  rw [ci, e537]
  have wnum := fun (x5 x6 : Int32) (fg : ¬ f_X10_isFigure (I 537 i) = 0) => w_num (x5 := x5) (x6 := x6) hn h40 hR ih hi i1 i2 hr hz h0 fg op mr
  generalize hch : I 537 i = ch at h1 wnum
  refine ⟨fun c45 => ?_, fun c45 => ⟨fun c40 => ?_, fun c40 => ⟨fun cin s104 e104 => ?_, fun cin => ?_⟩⟩⟩
  · subst c45
    have f1 := step_fac h0 (by decide) h1
    unfold rFac at f1
    rw [if_neg (by decide), if_pos rfl] at f1
    have e2 : r2 = rHold 6 0 r := (Option.some.inj f1).symm
    have a := mr_push (k := 6) mr (by omega)
    rw [show kl 6 = 126 from by decide] at a
    refine ⟨a.1, ?_⟩
    rw [nI_1]
    refine ih m (Nat.le_refl _) (i + 1) 0 r2 _ H _ _ (by omega) (i1.trans a.2.2) i2 h2 (by omega) (Or.inl ⟨rfl, by rw [e2]; exact h0, ?_, ?_⟩)
    · rw [e2]; exact open_push op (by decide) (by decide) (by decide)
    · rw [e2]; exact a.2.1
  · subst c40
    have f1 := step_fac h0 (by decide) h1
    unfold rFac at f1
    rw [if_pos rfl] at f1
    have e2 : r2 = rHold 12 0 r := (Option.some.inj f1).symm
    have a := mr_push (k := 12) mr (by omega)
    rw [show kl 12 = 40 from by decide] at a
    refine ⟨a.1, ?_⟩
    rw [nI_1]
    refine ih m (Nat.le_refl _) (i + 1) 0 r2 _ H _ _ (by omega) (i1.trans a.2.2) i2 h2 (by omega) (Or.inl ⟨rfl, by rw [e2]; exact h0, ?_, ?_⟩)
    · rw [e2]; exact open_push op (by decide) (by decide) (by decide)
    · rw [e2]; exact a.2.1
  · refine ⟨fun nf => ?_, fun fg => wnum ch s104 fg⟩
    have f1 := step_fac h0 nf h1
    have c97 : ¬ ch = 97 := fun e => absurd cin (by rw [e]; decide)
    have c105 : ¬ ch = 105 := fun e => absurd cin (by rw [e]; decide)
    have c110 : ¬ ch = 110 := fun e => absurd cin (by rw [e]; decide)
    have c116 : ¬ ch = 116 := fun e => absurd cin (by rw [e]; decide)
    have c120 : ¬ ch = 120 := fun e => absurd cin (by rw [e]; decide)
    have plain : ∀ slot, s104 = 0 → r2 = rName slot r → NameOk rule ch 0 slot → _ := fun slot e1 e2 no => w_named (X := X) (L := L) (Q := Q) hN (ih m (Nat.le_refl _)) (r := r) (r2 := r2) (ch := ch) (fig := 0) (slot := slot) (x4 := nI i + 0) (x5 := ch) (e := i + 1) s104 (by omega) i1 i2 h2 (by omega) (by omega) op mr (by rw [e2]; rfl) (by rw [e2]; rfl) (by rw [e2]; rfl) no (by rw [Int32.add_zero]; exact nI_1 i)
    have fin1 : ∀ slot, s104 = 0 → r2 = rName slot r → NameOk rule ch 0 slot → ((¬ s104 = 0 → vp_in (nI i + 1) 40 ∧ (True))) ∧ (∀ s150_5 : Int32, s150_5 = (if s104 = 0 then 0 else ((J 537 (Int32.toNatClampNeg (nI i + 1))) - 48) : Int32) → ((p_X10_named ver hour ch s150_5 J) ∧ ((p_X10_puts (f_X10_named ver hour ch s150_5 J H) J) ∧ (∀ s179_1 : Int32, s179_1 = (if s104 = 0 then 0 else 1 : Int32) → (WP mX10_closes 0 (am_ent 1 [.ref 498]) [] (G X (fI_X10_puts (f_X10_named ver hour ch s150_5 J H) J) L (fF_X10_puts (f_X10_named ver hour ch s150_5 J H) J H)) 0 0 (am_kq mX10_worth 191 [some (.ref 498), some (.int ver), some (.int hour), some (.int 0), some (.int (nI i + s179_1)), some (.int ch), some (.int s104)] [] (0 + am_bc mX10_closes) (0 + am_bs mX10_closes) Q)))))) := by
      intro slot e1 e2 no
      have a := plain slot e1 e2 no
      refine ⟨fun n => absurd e1 n, fun s150 e150 => ?_⟩
      rw [if_pos e1] at e150
      subst e150
      refine ⟨a.1, a.2.1, fun s179 e179 => ?_⟩
      rw [if_pos e1] at e179
      subst e179
      exact a.2.2
    have fin2 : ∀ s c, ¬ s104 = 0 → r2 = rSt 4 (rNam s c r) → (∀ fig, 0 ≤ fig → fig < c → NameOk rule ch fig (s + fig)) → ((¬ s104 = 0 → vp_in (nI i + 1) 40 ∧ (True))) ∧ (∀ s150_5 : Int32, s150_5 = (if s104 = 0 then 0 else ((J 537 (Int32.toNatClampNeg (nI i + 1))) - 48) : Int32) → ((p_X10_named ver hour ch s150_5 J) ∧ ((p_X10_puts (f_X10_named ver hour ch s150_5 J H) J) ∧ (∀ s179_1 : Int32, s179_1 = (if s104 = 0 then 0 else 1 : Int32) → (WP mX10_closes 0 (am_ent 1 [.ref 498]) [] (G X (fI_X10_puts (f_X10_named ver hour ch s150_5 J H) J) L (fF_X10_puts (f_X10_named ver hour ch s150_5 J H) J H)) 0 0 (am_kq mX10_worth 191 [some (.ref 498), some (.int ver), some (.int hour), some (.int 0), some (.int (nI i + s179_1)), some (.int ch), some (.int s104)] [] (0 + am_bc mX10_closes) (0 + am_bs mX10_closes) Q)))))) := by
      intro s c e1 e2 no
      obtain ⟨a1, fig, ef, a2⟩ := w_figd (X := X) (L := L) (Q := Q) (x5 := ch) h40 hR hN ih s104 hi i1 i2 h2 hz sz h0 op mr e2 no
      refine ⟨fun _ => ⟨a1, trivial⟩, fun s150 e150 => ?_⟩
      rw [if_neg e1, ← ef] at e150
      subst e150
      refine ⟨a2.1, a2.2.1, fun s179 e179 => ?_⟩
      rw [if_neg e1] at e179
      subst e179
      exact a2.2.2
    unfold rFac at f1
    rw [if_neg c40, if_neg c45, if_neg c97] at f1
    by_cases c102 : ch = 102
    · rw [if_pos c102] at f1
      rcases hv with ⟨v, _⟩ | ⟨v, vv⟩
      · rw [if_pos v] at f1; cases f1
      · rw [if_neg (by rw [v]; decide)] at f1
        have z : s104 = 0 := by rw [e104, if_pos vv]
        exact fin1 18 z (Option.some.inj f1).symm (Or.inr (Or.inr (Or.inl ⟨v, rfl, Or.inr (Or.inl ⟨c102, rfl⟩)⟩)))
    rw [if_neg c102] at f1
    by_cases c103 : ch = 103
    · rw [if_pos c103] at f1
      rcases hv with ⟨v, vv⟩ | ⟨v, vv⟩
      · rw [if_pos v] at f1
        have z : ¬ s104 = 0 := by rw [e104, if_neg vv, if_neg (by rw [c103]; decide)]; decide
        exact fin2 0 3 z (Option.some.inj f1).symm (fun fig ge lt => Or.inr (Or.inr (Or.inr ⟨v, ge, Or.inl ⟨c103, lt, rfl⟩⟩)))
      · rw [if_neg (by rw [v]; decide)] at f1; cases f1
    rw [if_neg c103] at f1
    by_cases c104 : ch = 104
    · rw [if_pos c104] at f1
      subst c104
      have z : s104 = 0 := by
        rw [e104]
        split
        · rfl
        · rw [if_pos (show f_X10_figures 104 0 ≤ 0 by decide)]
      exact fin1 16 z (Option.some.inj f1).symm (Or.inl ⟨rfl, rfl, rfl⟩)
    rw [if_neg c104] at f1
    rw [if_neg c105] at f1
    by_cases c108 : ch = 108
    · rw [if_pos c108] at f1
      rcases hv with ⟨v, _⟩ | ⟨v, vv⟩
      · rw [if_pos v] at f1; cases f1
      · rw [if_neg (by rw [v]; decide)] at f1
        have z : s104 = 0 := by rw [e104, if_pos vv]
        exact fin1 17 z (Option.some.inj f1).symm (Or.inr (Or.inr (Or.inl ⟨v, rfl, Or.inl ⟨c108, rfl⟩⟩)))
    rw [if_neg c108] at f1
    by_cases c109 : ch = 109
    · rw [if_pos c109] at f1
      rcases hv with ⟨v, vv⟩ | ⟨v, vv⟩
      · rw [if_pos v] at f1
        have z : ¬ s104 = 0 := by rw [e104, if_neg vv, if_neg (by rw [c109]; decide)]; decide
        exact fin2 3 6 z (Option.some.inj f1).symm (fun fig ge lt => Or.inr (Or.inr (Or.inr ⟨v, ge, Or.inr (Or.inl ⟨c109, lt, rfl⟩)⟩)))
      · rw [if_neg (by rw [v]; decide)] at f1; cases f1
    rw [if_neg c109] at f1
    rw [if_neg c110] at f1
    by_cases c112 : ch = 112
    · rw [if_pos c112] at f1
      rcases hv with ⟨v, vv⟩ | ⟨v, vv⟩
      · rw [if_pos v] at f1
        have z : s104 = 0 := by rw [e104, if_neg vv, if_pos (by rw [c112]; decide)]
        exact fin1 15 z (Option.some.inj f1).symm (Or.inr (Or.inl ⟨v, c112, rfl, rfl⟩))
      · rw [if_neg (by rw [v]; decide)] at f1; cases f1
    rw [if_neg c112] at f1
    by_cases c113 : ch = 113
    · rw [if_pos c113] at f1
      rcases hv with ⟨v, vv⟩ | ⟨v, vv⟩
      · rw [if_pos v] at f1
        have z : ¬ s104 = 0 := by rw [e104, if_neg vv, if_neg (by rw [c113]; decide)]; decide
        exact fin2 9 6 z (Option.some.inj f1).symm (fun fig ge lt => Or.inr (Or.inr (Or.inr ⟨v, ge, Or.inr (Or.inr ⟨c113, lt, rfl⟩)⟩)))
      · rw [if_neg (by rw [v]; decide)] at f1; cases f1
    rw [if_neg c113] at f1
    by_cases c114 : ch = 114
    · rw [if_pos c114] at f1
      rcases hv with ⟨v, _⟩ | ⟨v, vv⟩
      · rw [if_pos v] at f1; cases f1
      · rw [if_neg (by rw [v]; decide)] at f1
        have z : s104 = 0 := by rw [e104, if_pos vv]
        exact fin1 19 z (Option.some.inj f1).symm (Or.inr (Or.inr (Or.inl ⟨v, rfl, Or.inr (Or.inr ⟨c114, rfl⟩)⟩)))
    rw [if_neg c114] at f1
    rw [if_neg c116] at f1
    rw [if_neg c120] at f1
    cases f1
  · have nf : f_X10_isFigure ch = 0 := by
      unfold f_X10_inputs at cin
      by_cases a : ch = 120
      · rw [a]; decide
      rw [if_neg a] at cin
      by_cases a : ch = 110
      · rw [a]; decide
      rw [if_neg a] at cin
      by_cases a : ch = 105
      · rw [a]; decide
      rw [if_neg a] at cin
      by_cases a : ch = 116
      · rw [a]; decide
      rw [if_neg a] at cin
      by_cases a : ch = 97
      · rw [a]; decide
      rw [if_neg a] at cin
      exact absurd (by decide) cin
    have f1 := step_fac h0 nf h1
    have go : ∀ k c, r2 = rHold k c (rSt 5 r) → (k, c) ∈ hkL → ar (k, c) = 0 → ¬ (f_X3_strengthOf k = 1 ∨ f_X3_strengthOf k = 2) → kl k = ch → (p_X10_waitsOn ch J) ∧ (WP mX10_worth 15 [some (.ref 498), some (.int ver), some (.int hour), some (.int 0), some (.int ((nI i + 1) + 1)), some (.int ch), d6] [] (G X (fI_X10_waitsOn ch J) L H) 0 0 Q) := fun k c e2 k1 k2 k3 k4 => w_fun h40 hR ih hi i1 i2 h2 hz sz h0 op mr e2 k1 k2 k3 k4
    unfold rFac at f1
    rw [if_neg c40, if_neg c45] at f1
    by_cases c97 : ch = 97
    · rw [if_pos c97] at f1
      exact go 11 0 (Option.some.inj f1).symm (by decide) (by decide) (by decide) (by rw [c97]; decide)
    rw [if_neg c97] at f1
    have c102 : ¬ ch = 102 := fun e => cin (by rw [e]; decide)
    rw [if_neg c102] at f1
    have c103 : ¬ ch = 103 := fun e => cin (by rw [e]; decide)
    rw [if_neg c103] at f1
    have c104 : ¬ ch = 104 := fun e => cin (by rw [e]; decide)
    rw [if_neg c104] at f1
    by_cases c105 : ch = 105
    · rw [if_pos c105] at f1
      exact go 9 2 (Option.some.inj f1).symm (by decide) (by decide) (by decide) (by rw [c105]; decide)
    rw [if_neg c105] at f1
    have c108 : ¬ ch = 108 := fun e => cin (by rw [e]; decide)
    rw [if_neg c108] at f1
    have c109 : ¬ ch = 109 := fun e => cin (by rw [e]; decide)
    rw [if_neg c109] at f1
    by_cases c110 : ch = 110
    · rw [if_pos c110] at f1
      exact go 8 1 (Option.some.inj f1).symm (by decide) (by decide) (by decide) (by rw [c110]; decide)
    rw [if_neg c110] at f1
    have c112 : ¬ ch = 112 := fun e => cin (by rw [e]; decide)
    rw [if_neg c112] at f1
    have c113 : ¬ ch = 113 := fun e => cin (by rw [e]; decide)
    rw [if_neg c113] at f1
    have c114 : ¬ ch = 114 := fun e => cin (by rw [e]; decide)
    rw [if_neg c114] at f1
    by_cases c116 : ch = 116
    · rw [if_pos c116] at f1
      exact go 10 0 (Option.some.inj f1).symm (by decide) (by decide) (by decide) (by rw [c116]; decide)
    rw [if_neg c116] at f1
    by_cases c120 : ch = 120
    · rw [if_pos c120] at f1
      exact go 7 1 (Option.some.inj f1).symm (by decide) (by decide) (by decide) (by rw [c120]; decide)
    rw [if_neg c120] at f1
    cases f1
theorem w_all {n : Nat} {R : RS} (hn : I 498 46 = nI n) (h40 : n ≤ 40) (hR : good R) (hv : (rule = 0 ∧ ver ≠ -1) ∨ (rule = 1 ∧ ver = -1)) (hN : EnvOk I F nm rule ver hour (rF (rFin R))) (q : ∀ J H, MIF I J → MFF F H → Q (.inl (some (.float (hdF (evalR nm (rF (rFin R))))))) (G X J L H)) : ∀ M m, m ≤ M → WGoal X L Q I F nm rule ver hour n R m
  | 0, m, hm => by
    have e : m = 0 := by omega
    subst e
    exact w_end hn h40 hR q
  | M + 1, m, hm => by
    cases m with
    | zero => exact w_end hn h40 hR q
    | succ m =>
      have ih : ∀ m2, m2 ≤ m → WGoal X L Q I F nm rule ver hour n R m2 := fun m2 h => w_all hn h40 hR hv hN q M m2 (by omega)
      intro i over r J H d5 d6 hi i1 i2 hr hz st
      rcases st with ⟨e, a, b, c⟩ | ⟨e, a, b, c⟩
      · subst e
        exact w_fac hn h40 hR hv hN ih d5 d6 hi i1 i2 hr hz a b c
      · subst e
        have e46 : J 498 46 = nI n := (i1 498 46 (by omega) (by omega)).trans hn
        have e537 : ∀ k, J 537 k = I 537 k := fun k => i1 537 k (by omega) (by omega)
        have ci : (nI i).toNatClampNeg = i := nI_clamp (by omega)
        refine k_X10_worth_15 ⟨fun c => absurd ((nI_leI (a := n) (b := i) (by omega) (by omega)).mp (by rw [← e46]; exact c)) (by omega), fun _ => ⟨nI_in (by omega) (by decide), fun c => absurd c (by decide), fun _ => ?_⟩⟩
        rw [ci, e537]
        exact w_over hn h40 (ih m (Nat.le_refl _)) d5 d6 hi i1 i2 hr hz a b c
/-- a text without a fault, worked out by the model -/
theorem sp_worth {n : Nat} {R : RS} (hn : I 498 46 = nI n) (h40 : n ≤ 40) (hr : rRun rule (seg (I 537) 0 n) 0 r0 = .inr R) (hR : good R) (hv : (rule = 0 ∧ ver ≠ -1) ∨ (rule = 1 ∧ ver = -1)) (hN : EnvOk I F nm rule ver hour (rF (rFin R))) (q : ∀ J H, MIF I J → MFF F H → Q (.inl (some (.float (hdF (evalR nm (rF (rFin R))))))) (G X J L H)) : WP mX10_worth 0 (am_ent 7 [.ref 498, .int ver, .int hour]) [] (G X I L F) 0 0 Q := by
  refine k_X10_worth_0 ?_
  have op : Open nm (rF r0) (rH r0) := ⟨trivial, trivial, rfl⟩
  refine w_all hn h40 hR hv hN q n n (Nat.le_refl _) 0 0 r0 _ F none none (by omega) (MIF_48.trans MIF_50) MFF.refl hr (Nat.le_refl _) (Or.inl ⟨rfl, rfl, op, ⟨?_, trivial, trivial, Nat.zero_le _⟩, ⟨am_u_eq, trivial, Nat.zero_le _⟩⟩)
  rw [am_u_ne (by decide), am_u_eq]; rfl
end WF2
