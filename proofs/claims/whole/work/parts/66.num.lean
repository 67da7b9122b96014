/-! own: a number in a text: the model's and the reader's -/
set_option maxRecDepth 100000
section NU
variable {X : Nat × (Nat → Int32)} {I J : Nat → Nat → Int32} {L : Nat → Nat → Int64} {F H : Nat → Nat → UInt32} {Q : AQ} {nm : Nat → UInt32} {rule : Int32}
/-- the letter that comes next, if one comes, is of no number -/
def NoNum (I : Nat → Nat → Int32) (i m : Nat) : Prop := m ≠ 0 → f_X10_isFigure (I 537 i) = 0 ∧ I 537 i ≠ 46
def good (R : RS) : Prop := rS (rFin R) = 6 ∧ (rH (rFin R)).length = 0
theorem run_cons {g : Nat → Int32} {i m : Nat} {r R : RS} (h : rRun rule (seg g i (m + 1)) i r = .inr R) : ∃ r2, rStep rule (g i) r = some r2 ∧ rRun rule (seg g (i + 1) m) (i + 1) r2 = .inr R := by
  have u : rRun rule (seg g i (m + 1)) i r = match rStep rule (g i) r with
      | none => .inl i
      | some r2 => rRun rule (seg g (i + 1) m) (i + 1) r2 := rfl
  rw [u] at h
  cases hs : rStep rule (g i) r with
  | none => rw [hs] at h; cases h
  | some r2 => rw [hs] at h; exact ⟨r2, rfl, h⟩
theorem fig_add {x c : Int32} : 10 * x + c - 48 = x * 10 + (c - 48) := by
  rw [Int32.mul_comm 10 x, Int32.sub_eq_add_neg, Int32.sub_eq_add_neg, Int32.add_assoc]
theorem isfig_46 {c : Int32} (h : ¬ f_X10_isFigure c = 0) : ¬ c = 46 := fun n => h (by rw [n]; decide)
/-- the end of a number: what it gives -/
def NumEnd (rule : Int32) (I : Nat → Nat → Int32) (n : Nat) (R : RS) (f0 h0 : FM) (e : Nat) (re : RS) (v : Int32) : Prop :=
  e ≤ n ∧ rRun rule (seg (I 537) e (n - e)) e re = .inr R ∧ rSz re ≤ e ∧ rH re = h0 ∧ rF (rEnd re) = (0, v) :: f0 ∧ (rS re = 1 ∨ rS re = 3 ∨ rS re = 6) ∧ NoNum I e (n - e)
theorem sp_num7 {n i0 : Nat} {R : RS} {f0 h0 : FM} {x1 : Int32} {s : List UInt32} {w : List Int32} (hn : I 498 46 = nI n) (h40 : n ≤ 40) (hR : good R) (mv : MV I F s) (mw : MW I w) (hs : s.length < 40)
    (q : ∀ e re v, i0 ≤ e → NumEnd rule I n R f0 h0 e re v → p_X10_puts (enum v) I → Q (.inl (some (.int (nI e - 1)))) (G X (fI_X10_puts (enum v) I) L (fF_X10_puts (enum v) I F))) :
    ∀ (m i : Nat) (r : RS) (N sc : Int32) (d5 : Option Value), i0 ≤ i → i + m = n → rRun rule (seg (I 537) i m) i r = .inr R → rSz r ≤ i → rH r = h0 →
      ((rS r = 1 ∧ sc = 0 ∧ N = rN r ∧ rF r = f0) ∨ (rS r = 2 ∧ sc = 1 ∧ N = rN r ∧ rF r = f0) ∨ (rS r = 3 ∧ sc = 2 ∧ N = rN r ∧ rF r = f0) ∨ (rS r = 6 ∧ sc = 3 ∧ rF r = (0, N) :: f0)) →
      WP mX10_putsNumber 7 [some (.ref 498), some (.int x1), some (.int N), some (.int sc), some (.int (nI i)), d5] [] (G X I L F) 0 0 Q := by
  have stop : ∀ (m i : Nat) (r : RS) (N sc : Int32), i0 ≤ i → i + m = n → rRun rule (seg (I 537) i m) i r = .inr R → rSz r ≤ i → rH r = h0 → NoNum I i m →
      ((rS r = 1 ∧ sc = 0 ∧ N = rN r ∧ rF r = f0) ∨ (rS r = 2 ∧ sc = 1 ∧ N = rN r ∧ rF r = f0) ∨ (rS r = 3 ∧ sc = 2 ∧ N = rN r ∧ rF r = f0) ∨ (rS r = 6 ∧ sc = 3 ∧ rF r = (0, N) :: f0)) →
      ∀ s115 : Int32, s115 = (if sc = 3 then 1 else (if sc = 2 then 10 else 100 : Int32) : Int32) → (vf_n32 (FP.fdiv (FP.i2f (N * s115)) 1120403456) ∧ ((p_X10_puts (FP.fdiv (FP.i2f (N * s115)) 1120403456) I) ∧ (Q (.inl (some (.int (nI i - 1)))) (G X (fI_X10_puts (FP.fdiv (FP.i2f (N * s115)) 1120403456) I) L (fF_X10_puts (FP.fdiv (FP.i2f (N * s115)) 1120403456) I F))))) := by
    intro m i r N sc h0i hi hr hz hh nn2 c s115 es
    have em : n - i = m := by omega
    have pp : p_X10_puts (enum (N * s115)) I := (mput_ok mv hs nn_num).1
    refine ⟨nn_vf.mpr (nn_num (v := N * s115)), pp, q i r (N * s115) h0i ?_ pp⟩
    rw [← em] at hr nn2
    refine ⟨by omega, hr, hz, hh, ?_, ?_, nn2⟩
    · rcases c with ⟨a, b, c, d⟩ | ⟨a, b, c, d⟩ | ⟨a, b, c, d⟩ | ⟨a, b, c⟩
      · unfold rEnd
        rw [if_pos a, es, b, if_neg (by decide), if_neg (by decide), c, ← d]; rfl
      · exfalso
        have st : ∀ x : RS, rS x = 2 → ¬ rS (rEnd x) = 6 := fun x y => by unfold rEnd; rw [if_neg (by rw [y]; decide), if_neg (by rw [y]; decide), y]; decide
        rw [em] at hr nn2
        cases m with
        | zero => cases hr; exact st _ a hR.1
        | succ m =>
          obtain ⟨r2, h1, h2⟩ := run_cons hr
          have nf := nn2 (by omega)
          have g := (figs_not (ch := I 537 i)).mpr nf.1
          unfold rStep at h1
          rw [if_neg (by rw [a]; decide), if_neg (by rw [a]; decide), if_neg (by rw [a]; decide), if_pos g] at h1
          unfold rGo at h1
          rw [if_neg (by rw [a]; decide)] at h1
          unfold rSign at h1
          rw [if_neg (st _ a)] at h1
          cases h1
      · unfold rEnd
        rw [if_neg (by rw [a]; decide), if_pos a, es, b, if_neg (by decide), if_pos rfl, c, ← d]; rfl
      · unfold rEnd
        rw [if_neg (by rw [a]; decide), if_neg (by rw [a]; decide), es, b, if_pos rfl, c, Int32.mul_one]
    · rcases c with ⟨a, b, c, d⟩ | ⟨a, b, c, d⟩ | ⟨a, b, c, d⟩ | ⟨a, b, c⟩
      · exact Or.inl a
      · exfalso
        have st : ∀ x : RS, rS x = 2 → ¬ rS (rEnd x) = 6 := fun x y => by unfold rEnd; rw [if_neg (by rw [y]; decide), if_neg (by rw [y]; decide), y]; decide
        rw [em] at hr nn2
        cases m with
        | zero => cases hr; exact st _ a hR.1
        | succ m =>
          obtain ⟨r2, h1, h2⟩ := run_cons hr
          have nf := nn2 (by omega)
          have g := (figs_not (ch := I 537 i)).mpr nf.1
          unfold rStep at h1
          rw [if_neg (by rw [a]; decide), if_neg (by rw [a]; decide), if_neg (by rw [a]; decide), if_pos g] at h1
          unfold rGo at h1
          rw [if_neg (by rw [a]; decide)] at h1
          unfold rSign at h1
          rw [if_neg (st _ a)] at h1
          cases h1
      · exact Or.inr (Or.inl a)
      · exact Or.inr (Or.inr a)
  intro m
  induction m with
  | zero =>
    intro i r N sc d5 h0i hi hr hz hh c
    refine k_X10_putsNumber_7 ⟨fun _ => stop 0 i r N sc h0i hi hr hz hh (fun n => absurd rfl n) c, fun n => absurd (by rw [hn, nI_leI (by omega) (by omega)]; omega) n⟩
  | succ m ih =>
    intro i r N sc d5 h0i hi hr hz hh c
    have ci : (nI i).toNatClampNeg = i := nI_clamp (by omega)
    have hin : vp_in (nI i) 40 := nI_in (by omega) (by decide)
    refine k_X10_putsNumber_7 ⟨fun c => absurd ((nI_leI (a := n) (b := i) (by omega) (by omega)).mp (by rw [← hn]; exact c)) (by omega), fun _ => ⟨hin, ?_⟩⟩
    rw [ci]
    obtain ⟨r2, h1, h2⟩ := run_cons hr
    have sz := step_sz h1
    refine ⟨fun nf => ⟨hin, fun c46 => ⟨hin, ?_⟩, fun n46 => stop (m + 1) i r N sc h0i hi hr hz hh (fun _ => ⟨nf, n46⟩) c⟩, fun fg => ⟨hin, fun s50 e50 => ?_⟩⟩
    · -- the point
      have g := (figs_not (ch := I 537 i)).mpr nf
      rcases c with ⟨a, b, c, d⟩ | ⟨a, b, c, d⟩ | ⟨a, b, c, d⟩ | ⟨a, b, c⟩
      · unfold rStep at h1
        rw [if_neg (by rw [a]; decide), if_neg (by rw [a]; decide), if_neg (by rw [a]; decide), if_pos g] at h1
        unfold rGo at h1
        rw [if_pos a, if_pos c46] at h1
        cases h1
        rw [nI_1]
        exact ih (i + 1) _ N 1 _ (by omega) (by omega) h2 (by omega) hh (Or.inr (Or.inl ⟨rfl, rfl, c, d⟩))
      all_goals
        exfalso
        unfold rStep at h1
        rw [if_neg (by rw [a]; decide), if_neg (by rw [a]; decide), if_neg (by rw [a]; decide), if_pos g] at h1
        unfold rGo at h1
        rw [if_neg (by rw [a]; decide), c46] at h1
        unfold rSign at h1
        rw [if_neg (show ¬ (46 : Int32) = 41 by decide), if_neg (show ¬ (46 : Int32) = 42 by decide), if_neg (show ¬ (46 : Int32) = 43 by decide), if_neg (show ¬ (46 : Int32) = 44 by decide), if_neg (show ¬ (46 : Int32) = 45 by decide), if_neg (show ¬ (46 : Int32) = 47 by decide)] at h1
        split at h1 <;> cases h1
    · rw [if_neg (isfig_46 fg)] at e50
      subst e50
      refine ⟨fun _ => ⟨hin, trivial⟩, fun s62 e62 s87 e87 => ?_⟩
      rw [if_pos rfl] at e62 e87
      have g : ¬ rFig (I 537 i) = -1 := fun n => fg ((figs_not (ch := I 537 i)).mp n)
      have fe := fig_eq g
      have e62b : s62 = N * 10 + rFig (I 537 i) := by rw [e62, fig_add, fe]
      rw [nI_1]
      rcases c with ⟨a, b, c, d⟩ | ⟨a, b, c, d⟩ | ⟨a, b, c, d⟩ | ⟨a, b, c⟩
      · unfold rStep at h1
        rw [if_neg (by rw [a]; decide), if_neg (by rw [a]; decide), if_neg (by rw [a]; decide), if_neg g] at h1
        unfold rFigs at h1
        rw [if_pos a] at h1
        split at h1
        · cases h1
          rw [b, if_pos (by decide)] at e87
          exact ih (i + 1) _ s62 s87 _ (by omega) (by omega) h2 (by omega) hh (Or.inl ⟨a, e87, by rw [e62b, c]; rfl, d⟩)
        · cases h1
      · unfold rStep at h1
        rw [if_neg (by rw [a]; decide), if_neg (by rw [a]; decide), if_neg (by rw [a]; decide), if_neg g] at h1
        unfold rFigs at h1
        rw [if_neg (by rw [a]; decide), if_pos a] at h1
        cases h1
        rw [b, if_neg (by decide)] at e87
        exact ih (i + 1) _ s62 s87 _ (by omega) (by omega) h2 (by omega) hh (Or.inr (Or.inr (Or.inl ⟨rfl, e87.trans (by decide), by rw [e62b, c]; rfl, d⟩)))
      · unfold rStep at h1
        rw [if_neg (by rw [a]; decide), if_neg (by rw [a]; decide), if_neg (by rw [a]; decide), if_neg g] at h1
        unfold rFigs at h1
        rw [if_neg (by rw [a]; decide), if_neg (by rw [a]; decide), if_pos a] at h1
        cases h1
        rw [b, if_neg (by decide)] at e87
        refine ih (i + 1) _ s62 s87 _ (by omega) (by omega) h2 (by omega) hh (Or.inr (Or.inr (Or.inr ⟨rfl, e87.trans (by decide), ?_⟩)))
        rw [e62b, c, ← d]; rfl
      · exfalso
        unfold rStep at h1
        rw [if_neg (by rw [a]; decide), if_neg (by rw [a]; decide), if_neg (by rw [a]; decide), if_neg g] at h1
        unfold rFigs at h1
        rw [if_neg (by rw [a]; decide), if_neg (by rw [a]; decide), if_neg (by rw [a]; decide)] at h1
        cases h1
end NU
