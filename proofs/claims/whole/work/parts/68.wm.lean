/-! own: the model works a whole text out -/
set_option maxRecDepth 100000
def EnvOk (I : Nat → Nat → Int32) (F : Nat → Nat → UInt32) (nm : Nat → UInt32) (rule ver hour : Int32) (f : FM) : Prop := ∀ J H, MIF I J → MFF F H → ∀ ch fig slot, NameOk rule ch fig slot → (1, slot) ∈ f → p_X10_named ver hour ch fig J ∧ nn (f_X10_named ver hour ch fig J H) ∧ f_X10_named ver hour ch fig J H = ename nm slot
/-- the reader's state and the model's cells at a letter -/
def WSt (I : Nat → Nat → Int32) (J : Nat → Nat → Int32) (H : Nat → Nat → UInt32) (nm : Nat → UInt32) (r : RS) (over : Int32) (i m : Nat) : Prop :=
  (over = 0 ∧ rS r = 0 ∧ Open nm (rF r) (rH r) ∧ MR J H nm (rF r) (rH r)) ∨
  (over = 1 ∧ (rS r = 6 ∨ ((rS r = 1 ∨ rS r = 3) ∧ NoNum I i m)) ∧ Full nm (rF (rEnd r)) (rH r) ∧ MR J H nm (rSettle 3 (rH r) (rF (rEnd r))).1 (rSettle 3 (rH r) (rF (rEnd r))).2)
theorem settle_sub {s : Int32} {x : Int32 × Int32} : ∀ (h f : FM), x ∈ f → x ∈ (rSettle s h f).1
  | [], f, m => m
  | p :: h, f, m => by
    unfold rSettle
    split
    · exact m
    · exact settle_sub h _ (List.mem_cons_of_mem _ m)
theorem rEnd_sub {r : RS} {x : Int32 × Int32} (m : x ∈ rF r) : x ∈ rF (rEnd r) := by
  unfold rEnd
  split
  · exact List.mem_cons_of_mem _ m
  · split
    · exact List.mem_cons_of_mem _ m
    · exact m
theorem step_sub {rule ch : Int32} {r r2 : RS} {x : Int32 × Int32} (h : rStep rule ch r = some r2) (m : x ∈ rF r) : x ∈ rF r2 := by
  have sg : ∀ y : RS, x ∈ rF y → rSign ch y = some r2 → x ∈ rF r2 := fun y my e => by
    have st : ∀ s, x ∈ (rSettle s (rH y) (rF y)).1 := fun s => settle_sub _ _ my
    have op : ∀ k s, rOp k s y = some r2 → x ∈ rF r2 := fun k s e => by cases e; exact st s
    unfold rSign at e
    split at e
    · split at e
      · unfold rBrack at e
        have e2 : rF (rSet 1 y) = (rSettle 1 (rH y) (rF y)).1 := rfl
        rw [e2] at e
        split at e
        · cases e
        · split at e
          · split at e
            · cases e; exact st 1
            · cases e; exact List.mem_cons_of_mem _ (st 1)
          · cases e
      · split at e
        · exact op _ _ e
        · split at e
          · exact op _ _ e
          · split at e
            · unfold rComma at e
              have e2 : rF (rSet 1 y) = (rSettle 1 (rH y) (rF y)).1 := rfl
              rw [e2] at e
              split at e
              · cases e
              · split at e
                · cases e
                · cases e; exact st 1
            · split at e
              · exact op _ _ e
              · split at e
                · exact op _ _ e
                · cases e
    · cases e
  unfold rStep at h
  split at h
  · split at h
    · have f1 := h
      unfold rFac at f1
      have ho : ∀ k c, some (rHold k c r) = some r2 → x ∈ rF r2 := fun k c e => by cases e; exact m
      have hf : ∀ k c, some (rHold k c (rSt 5 r)) = some r2 → x ∈ rF r2 := fun k c e => by cases e; exact m
      have na : ∀ s, some (rName s r) = some r2 → x ∈ rF r2 := fun s e => by cases e; exact List.mem_cons_of_mem _ m
      have nf : ∀ s c, some (rSt 4 (rNam s c r)) = some r2 → x ∈ rF r2 := fun s c e => by cases e; exact m
      by_cases c40 : ch = 40
      · rw [if_pos c40] at f1
        exact ho _ _ f1
      rw [if_neg c40] at f1
      by_cases c45 : ch = 45
      · rw [if_pos c45] at f1
        exact ho _ _ f1
      rw [if_neg c45] at f1
      by_cases c97 : ch = 97
      · rw [if_pos c97] at f1
        exact hf _ _ f1
      rw [if_neg c97] at f1
      by_cases c102 : ch = 102
      · rw [if_pos c102] at f1
        by_cases rr : rule = 0
        · rw [if_pos rr] at f1; cases f1
        · rw [if_neg rr] at f1; exact na _ f1
      rw [if_neg c102] at f1
      by_cases c103 : ch = 103
      · rw [if_pos c103] at f1
        by_cases rr : rule = 0
        · rw [if_pos rr] at f1; exact nf _ _ f1
        · rw [if_neg rr] at f1; cases f1
      rw [if_neg c103] at f1
      by_cases c104 : ch = 104
      · rw [if_pos c104] at f1
        exact na _ f1
      rw [if_neg c104] at f1
      by_cases c105 : ch = 105
      · rw [if_pos c105] at f1
        exact hf _ _ f1
      rw [if_neg c105] at f1
      by_cases c108 : ch = 108
      · rw [if_pos c108] at f1
        by_cases rr : rule = 0
        · rw [if_pos rr] at f1; cases f1
        · rw [if_neg rr] at f1; exact na _ f1
      rw [if_neg c108] at f1
      by_cases c109 : ch = 109
      · rw [if_pos c109] at f1
        by_cases rr : rule = 0
        · rw [if_pos rr] at f1; exact nf _ _ f1
        · rw [if_neg rr] at f1; cases f1
      rw [if_neg c109] at f1
      by_cases c110 : ch = 110
      · rw [if_pos c110] at f1
        exact hf _ _ f1
      rw [if_neg c110] at f1
      by_cases c112 : ch = 112
      · rw [if_pos c112] at f1
        by_cases rr : rule = 0
        · rw [if_pos rr] at f1; exact na _ f1
        · rw [if_neg rr] at f1; cases f1
      rw [if_neg c112] at f1
      by_cases c113 : ch = 113
      · rw [if_pos c113] at f1
        by_cases rr : rule = 0
        · rw [if_pos rr] at f1; exact nf _ _ f1
        · rw [if_neg rr] at f1; cases f1
      rw [if_neg c113] at f1
      by_cases c114 : ch = 114
      · rw [if_pos c114] at f1
        by_cases rr : rule = 0
        · rw [if_pos rr] at f1; cases f1
        · rw [if_neg rr] at f1; exact na _ f1
      rw [if_neg c114] at f1
      by_cases c116 : ch = 116
      · rw [if_pos c116] at f1
        exact hf _ _ f1
      rw [if_neg c116] at f1
      by_cases c120 : ch = 120
      · rw [if_pos c120] at f1
        exact hf _ _ f1
      rw [if_neg c120] at f1
      cases f1
    · cases h; exact m
  · split at h
    · split at h
      · cases h
      · split at h
        · cases h
        · cases h; exact List.mem_cons_of_mem _ m
    · split at h
      · split at h
        · cases h; exact m
        · cases h
      · split at h
        · unfold rGo at h
          split at h
          · split at h
            · cases h; exact m
            · exact sg _ (rEnd_sub m) h
          · exact sg _ (rEnd_sub m) h
        · unfold rFigs at h
          split at h
          · split at h
            · cases h; exact m
            · cases h
          · split at h
            · cases h; exact m
            · split at h
              · cases h; exact List.mem_cons_of_mem _ m
              · cases h
theorem run_sub {rule : Int32} {x : Int32 × Int32} : ∀ {l : List Int32} {i : Nat} {r R : RS}, rRun rule l i r = .inr R → x ∈ rF r → x ∈ rF R
  | [], i, r, R, h, m => by cases h; exact m
  | ch :: l, i, r, R, h, m => by
    unfold rRun at h
    cases hs : rStep rule ch r with
    | none => rw [hs] at h; cases h
    | some r2 => rw [hs] at h; exact run_sub h (step_sub hs m)
theorem run_fin {rule : Int32} {x : Int32 × Int32} {l : List Int32} {i : Nat} {r R : RS} (h : rRun rule l i r = .inr R) (m : x ∈ rF r) : x ∈ rF (rFin R) := settle_sub _ _ (rEnd_sub (run_sub h m))
section WM
variable {X : Nat × (Nat → Int32)} {I : Nat → Nat → Int32} {L : Nat → Nat → Int64} {F : Nat → Nat → UInt32} {Q : AQ} {nm : Nat → UInt32} {rule ver hour : Int32}
def WGoal (X : Nat × (Nat → Int32)) (L : Nat → Nat → Int64) (Q : AQ) (I : Nat → Nat → Int32) (F : Nat → Nat → UInt32) (nm : Nat → UInt32) (rule ver hour : Int32) (n : Nat) (R : RS) (m : Nat) : Prop :=
  ∀ (i : Nat) (over : Int32) (r : RS) (J : Nat → Nat → Int32) (H : Nat → Nat → UInt32) (d5 d6 : Option Value), i + m = n → MIF I J → MFF F H → rRun rule (seg (I 537) i m) i r = .inr R → rSz r ≤ i → WSt I J H nm r over i m →
    WP mX10_worth 15 [some (.ref 498), some (.int ver), some (.int hour), some (.int over), some (.int (nI i)), d5, d6] [] (G X J L H) 0 0 Q
theorem w_end {n : Nat} {R : RS} (hn : I 498 46 = nI n) (h40 : n ≤ 40) (hR : good R) (q : ∀ J H, MIF I J → MFF F H → Q (.inl (some (.float (hdF (evalR nm (rF (rFin R))))))) (G X J L H)) : WGoal X L Q I F nm rule ver hour n R 0 := by
  intro i over r J H d5 d6 hi i1 i2 hr hz st
  have e46 : J 498 46 = nI n := (i1 498 46 (by omega) (by omega)).trans hn
  have er : r = R := Sum.inr.inj hr
  subst er
  refine k_X10_worth_15 ⟨fun _ => ?_, fun c => absurd (by rw [e46, nI_leI (by omega) (by omega)]; omega) c⟩
  rcases st with ⟨_, a, _⟩ | ⟨_, a, b, c⟩
  · exact absurd hR (notgood (by rw [a]; decide) (by rw [a]; decide) (by rw [a]; decide))
  · have z3 := settle_full (s := 3) (by decide) (rH r) (rF (rEnd r)) b
    have sc := settle_comp (s := 1) (by decide) (rH r) (rF (rEnd r))
    have e1 : rFin r = rFH (rSettle 1 (rH r) (rF (rEnd r))).1 (rSettle 1 (rH r) (rF (rEnd r))).2 (rEnd r) := by
      unfold rFin rSet
      rw [rEnd_H]
    refine sp_202 _ _ J H z3 c ?_ (fun J2 H2 j1 j2 => ?_)
    · rw [sc]
      have := hR.2
      rw [e1] at this
      exact this
    · rw [sc]
      have := q J2 H2 (i1.trans j1) (i2.trans j2)
      rw [e1] at this
      exact this
/-- over a factor: what the next letter does -/
theorem w_over {n m : Nat} {R : RS} (hn : I 498 46 = nI n) (h40 : n ≤ 40) (ih : WGoal X L Q I F nm rule ver hour n R m) {i : Nat} {r : RS} {J : Nat → Nat → Int32} {H : Nat → Nat → UInt32} (d5 d6 : Option Value) (hi : i + (m + 1) = n) (i1 : MIF I J) (i2 : MFF F H) (hr : rRun rule (seg (I 537) i (m + 1)) i r = .inr R) (hz : rSz r ≤ i)
    (a : rS r = 6 ∨ ((rS r = 1 ∨ rS r = 3) ∧ NoNum I i (m + 1))) (b : Full nm (rF (rEnd r)) (rH r)) (c : MR J H nm (rSettle 3 (rH r) (rF (rEnd r))).1 (rSettle 3 (rH r) (rF (rEnd r))).2) :
    WP mX10_goesOn 0 (am_ent 3 [.ref 498, .int (I 537 i)]) [] (G X J L H) 0 0 (am_kq mX10_worth 40 [some (.ref 498), some (.int ver), some (.int hour), some (.int 1), some (.int (nI i)), some (.int (I 537 i)), d6] [] (0 + am_bc mX10_goesOn) (0 + am_bs mX10_goesOn) Q) := by
  obtain ⟨r2, h1, h2⟩ := run_cons hr
  have sz := step_sz h1
  have hp : (rF r).length + (rH r).length + rPend r ≤ i := hz
  have sg := step_sign h1 (by
    rcases a with a | ⟨a, nn2⟩
    · exact Or.inl a
    · exact Or.inr ⟨a, nn2 (by omega)⟩)
  have s6 : rS (rEnd r) = 6 := rEnd_6 (by
    rcases a with a | ⟨a | a, _⟩
    · exact Or.inr (Or.inr a)
    · exact Or.inl a
    · exact Or.inr (Or.inl a))
  refine sp_mgoes (re := rEnd r) s6 (by rw [rEnd_H]; exact b) (by rw [rEnd_H]; omega) (by rw [rEnd_H]; exact c) sg (fun v J2 H2 went => k_X10_worth_43 ?_)
  obtain ⟨j1, j2, went⟩ := went
  rw [nI_1]
  refine ih (i + 1) v r2 J2 H2 _ _ (by omega) (i1.trans j1) (i2.trans j2) h2 (by omega) ?_
  rcases went with ⟨e, e6, fu, mr⟩ | ⟨e, e0, op, mr⟩
  · refine Or.inr ⟨e, Or.inl e6, ?_, ?_⟩
    · rw [rEnd_id6 e6]; exact fu
    · rw [rEnd_id6 e6]; exact mr
  · exact Or.inl ⟨e, e0, op, mr⟩
/-- a name is put, and what is ahead of it worked out -/
theorem w_named {n m : Nat} {R : RS} (hN : EnvOk I F nm rule ver hour (rF (rFin R))) (ih : WGoal X L Q I F nm rule ver hour n R m) {e : Nat} {r r2 : RS} {J : Nat → Nat → Int32} {H : Nat → Nat → UInt32} {ch fig slot x4 x5 : Int32} (d6 : Int32) (he : e + m = n) (i1 : MIF I J) (i2 : MFF F H) (h2 : rRun rule (seg (I 537) e m) e r2 = .inr R) (hz : (rF r).length + (rH r).length < 40) (hz2 : rSz r2 ≤ e)
    (op : Open nm (rF r) (rH r)) (mr : MR J H nm (rF r) (rH r)) (hs : rS r2 = 6) (hf : rF r2 = (1, slot) :: rF r) (hh : rH r2 = rH r) (no : NameOk rule ch fig slot) (hx : x4 + 1 = nI e) :
    (p_X10_named ver hour ch fig J) ∧ ((p_X10_puts (f_X10_named ver hour ch fig J H) J) ∧ (WP mX10_closes 0 (am_ent 1 [.ref 498]) [] (G X (fI_X10_puts (f_X10_named ver hour ch fig J H) J) L (fF_X10_puts (f_X10_named ver hour ch fig J H) J H)) 0 0 (am_kq mX10_worth 191 [some (.ref 498), some (.int ver), some (.int hour), some (.int 0), some (.int x4), some (.int x5), some (.int d6)] [] (0 + am_bc mX10_closes) (0 + am_bs mX10_closes) Q))) := by
  have nz := hN J H i1 i2 ch fig slot no (run_fin h2 (by rw [hf]; exact List.mem_cons_self))
  have el := evalR_len (nm := nm) (rF r)
  have pt := mput_ok mr.1 (by omega) nz.2.1
  have fn := full_nam (v := slot) op
  refine ⟨nz.1, pt.1, sp_closes (rH r) ((1, slot) :: rF r) _ _ fn.1 ⟨?_, mput_W mr.2⟩ (fun J2 H2 m2 j1 j2 => k_X10_worth_194 ?_)⟩
  · rw [fn.2, ← nz.2.2]; exact pt.2.1
  · rw [hx]
    refine ih e 1 r2 J2 H2 _ _ he (i1.trans (pt.2.2.1.trans j1)) (i2.trans (pt.2.2.2.trans j2)) h2 hz2 (Or.inr ⟨rfl, Or.inl hs, ?_, ?_⟩)
    · rw [rEnd_id6 hs, hf, hh]; exact fn.1
    · rw [rEnd_id6 hs, hf, hh]; exact m2
/-- a number -/
theorem w_num {n m : Nat} {R : RS} (hn : I 498 46 = nI n) (h40 : n ≤ 40) (hR : good R) (ih : ∀ m2, m2 ≤ m → WGoal X L Q I F nm rule ver hour n R m2) {i : Nat} {r : RS} {J : Nat → Nat → Int32} {H : Nat → Nat → UInt32} {x5 x6 : Int32} (hi : i + (m + 1) = n) (i1 : MIF I J) (i2 : MFF F H) (hr : rRun rule (seg (I 537) i (m + 1)) i r = .inr R) (hz : rSz r ≤ i)
    (h0 : rS r = 0) (fg : ¬ f_X10_isFigure (I 537 i) = 0) (op : Open nm (rF r) (rH r)) (mr : MR J H nm (rF r) (rH r)) :
    WP mX10_putsNumber 0 (am_ent 6 [.ref 498, .int (nI i)]) [] (G X J L H) 0 0 (am_kq mX10_worth 134 [some (.ref 498), some (.int ver), some (.int hour), some (.int 0), some (.int (nI i)), some (.int x5), some (.int x6)] [] (0 + am_bc mX10_putsNumber) (0 + am_bs mX10_putsNumber) Q) := by
  obtain ⟨r2, h1, h2⟩ := run_cons hr
  have sz := step_sz h1
  have hp : (rF r).length + (rH r).length + rPend r ≤ i := hz
  have el := evalR_len (nm := nm) (rF r)
  have e46 : J 498 46 = nI n := (i1 498 46 (by omega) (by omega)).trans hn
  have e537 : ∀ k, J 537 k = I 537 k := fun k => i1 537 k (by omega) (by omega)
  have sJ : seg (J 537) = seg (I 537) := by rw [show J 537 = I 537 from funext e537]
  have g : ¬ rFig (I 537 i) = -1 := fun c => fg (figs_not.mp c)
  have ci : (nI i).toNatClampNeg = i := nI_clamp (by omega)
  have hin : vp_in (nI i) 40 := nI_in (by omega) (by decide)
  have er2 : r2 = rSt 1 (rNum (rFig (I 537 i)) 1 r) := by
    unfold rStep at h1
    rw [if_pos h0, if_neg g] at h1
    cases h1; rfl
  refine k_X10_putsNumber_0 (k_X10_putsNumber_7 ⟨fun c => absurd ((nI_leI (a := n) (b := i) (by omega) (by omega)).mp (by rw [← e46]; exact c)) (by omega), fun _ => ⟨hin, ?_⟩⟩)
  rw [ci, e537]
  refine ⟨fun c => absurd c fg, fun _ => ⟨hin, fun s50 e50 => ?_⟩⟩
  rw [if_neg (isfig_46 fg)] at e50
  subst e50
  refine ⟨fun _ => ⟨hin, trivial⟩, fun s62 e62 s87 e87 => ?_⟩
  rw [if_pos rfl] at e62 e87
  rw [if_pos (by decide)] at e87
  have e62b : s62 = rN r2 := by
    rw [e62, er2, fig_add, Int32.zero_mul, Int32.zero_add, ← fig_eq g]; rfl
  rw [nI_1]
  refine sp_num7 (rule := rule) (R := R) (f0 := rF r) (h0 := rH r) (i0 := i + 1) (s := evalR nm (rF r)) (w := (rH r).map (fun p => kl p.1)) e46 h40 hR mr.1 mr.2 (by omega) (fun e re v hge ne pp => ?_) m (i + 1) r2 s62 s87 _ (Nat.le_refl _) (by omega) (by rw [sJ]; exact h2) (by omega) (by rw [er2]; rfl) (Or.inl ⟨by rw [er2]; rfl, e87, e62b, by rw [er2]; rfl⟩)
  obtain ⟨n1, n2, n3, n4, n5, n6, n7⟩ := ne
  have fn := full_num (v := v) op
  have pt := mput_ok mr.1 (by omega) (nn_num (v := v))
  refine k_X10_worth_137 (sp_closes (rH r) ((0, v) :: rF r) _ _ fn.1 ⟨?_, mput_W mr.2⟩ (fun J2 H2 m2 j1 j2 => k_X10_worth_194 ?_))
  · rw [fn.2]; exact pt.2.1
  · rw [Int32.sub_add_cancel]
    refine ih (n - e) (by omega) e 1 re J2 H2 _ _ (by omega) (i1.trans (pt.2.2.1.trans j1)) (i2.trans (pt.2.2.2.trans j2)) (by rw [← sJ]; exact n2) n3 (Or.inr ⟨rfl, ?_, ?_, ?_⟩)
    · have nn2 : NoNum I e (n - e) := fun c => by
        have := n7 c
        rw [e537] at this
        exact this
      rcases n6 with c | c | c
      · exact Or.inr ⟨Or.inl c, nn2⟩
      · exact Or.inr ⟨Or.inr c, nn2⟩
      · exact Or.inl c
    · rw [n4, n5]; exact fn.1
    · rw [n4, n5]; exact m2
end WM
