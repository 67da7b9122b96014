/-! own: a text that is made letter by letter, and published -/
set_option maxRecDepth 100000
/-- the law's row of what is left in the brackets that are open -/
def OpR (I : Nat → Nat → Int32) (oo : Nat) : List Nat → Prop
  | [] => True
  | o :: l => I oo l.length = nI o ∧ 1 ≤ o ∧ o ≤ 3 ∧ OpR I oo l
def brks : List Nat → List Int32
  | [] => []
  | o :: l => nI (o - 1) :: brks l
def pot : List Nat → Nat
  | [] => 0
  | o :: l => 3 * (o - 1) + 1 + pot l
section OPR
variable {I J : Nat → Nat → Int32} {oo o : Nat}
theorem OpR.fr : ∀ {l : List Nat}, (∀ k, k < l.length → J oo k = I oo k) → OpR I oo l → OpR J oo l
  | [], _, _ => trivial
  | o :: l, h, ⟨a, b, c, d⟩ => ⟨(h _ (by simp only [List.length_cons]; omega)).trans a, b, c, OpR.fr (fun k hk => h k (by simp only [List.length_cons]; omega)) d⟩
theorem OpR.push {l : List Nat} (h1 : 1 ≤ o) (h3 : o ≤ 3) (z : OpR I oo l) : OpR (am_u I oo l.length (nI o)) oo (o :: l) :=
  ⟨am_u_eq, h1, h3, OpR.fr (fun k hk => am_u_ne (by omega)) z⟩
theorem pot_le : ∀ {l : List Nat}, OpR I oo l → pot l ≤ 7 * l.length
  | [], _ => Nat.le_refl _
  | o :: l, ⟨_, b, c, d⟩ => by
    have := pot_le d
    show 3 * (o - 1) + 1 + pot l ≤ 7 * (l.length + 1)
    omega
theorem fun_ok : ∀ j, j < 5 → ∃ ch cm, (ch < 256 ∧ isLb ch = true ∧ cm ≤ 2) ∧ (if nI j = 0 then (120 : Int32) else (if nI j = 1 then 110 else (if nI j = 2 then 105 else (if nI j = 3 then 116 else 97)))) = nI ch ∧ f_L_inputs (nI j) = nI (cm + 1) ∧ ∀ P b, GoOn P b kAt (nI ch) (nI cm :: b) kFu := fun j hj => by
  have : j = 0 ∨ j = 1 ∨ j = 2 ∨ j = 3 ∨ j = 4 := by omega
  rcases this with e | e | e | e | e <;> subst e
  · exact ⟨120, 1, by decide, by decide, by decide, fun P b => go_fx⟩
  · exact ⟨110, 1, by decide, by decide, by decide, fun P b => go_fn⟩
  · exact ⟨105, 2, by decide, by decide, by decide, fun P b => go_fi⟩
  · exact ⟨116, 0, by decide, by decide, by decide, fun P b => go_ft⟩
  · exact ⟨97, 0, by decide, by decide, by decide, fun P b => go_fa⟩
theorem sig_ok : ∀ j, j < 4 → ∃ ch, (ch < 256 ∧ isLb ch = true) ∧ (if nI j = 0 then (43 : Int32) else (if nI j = 1 then 45 else (if nI j = 2 then 42 else 47))) = nI ch ∧ ∀ P b, GoOn P b kBe (nI ch) b kAt := fun j hj => by
  have : j = 0 ∨ j = 1 ∨ j = 2 ∨ j = 3 := by omega
  rcases this with e | e | e | e <;> subst e
  · exact ⟨43, by decide, by decide, fun P b => go_add⟩
  · exact ⟨45, by decide, by decide, fun P b => go_sub⟩
  · exact ⟨42, by decide, by decide, fun P b => go_mul⟩
  · exact ⟨47, by decide, by decide, fun P b => go_div⟩
/-- which kind of factor the law takes -/
theorem kind_ok {n wh len : Nat} {y z : Int32} (hn : n < 2147483648) (hl : len < 2147483648) (ey : y = if nI n ≤ 10 then 0 else 1) (ez : z = (if y = 0 then (if nI len = 3 then (if nI (wh % 9) ≤ 4 then nI (wh % 9) else (if 8 ≤ nI (wh % 9) then nI (wh % 9) else nI (wh % 3))) else nI (wh % 9)) else nI (wh % 3))) :
    ∃ kd, kd < 9 ∧ z = nI kd ∧ (¬ n ≤ 10 → kd < 3) ∧ (len = 3 → ¬ (kd = 5 ∨ kd = 6 ∨ kd = 7)) := by
  have l9 := Nat.mod_lt wh (show 0 < 9 by decide)
  have l3 := Nat.mod_lt wh (show 0 < 3 by decide)
  by_cases h : n ≤ 10
  · have y0 : y = 0 := by rw [ey, if_pos (show nI n ≤ (10 : Int32) from (nI_leI (b := 10) hn (by decide)).mpr h)]
    rw [if_pos y0] at ez
    by_cases h3 : len = 3
    · rw [if_pos (show nI len = (3 : Int32) by rw [h3]; rfl)] at ez
      by_cases a : wh % 9 ≤ 4
      · rw [if_pos (show nI (wh % 9) ≤ (4 : Int32) from (nI_leI (b := 4) (by omega) (by decide)).mpr a)] at ez
        exact ⟨wh % 9, l9, ez, fun n => absurd h n, fun _ => by omega⟩
      · rw [if_neg (show ¬ nI (wh % 9) ≤ (4 : Int32) from fun z => a ((nI_leI (b := 4) (by omega) (by decide)).mp z))] at ez
        by_cases c : 8 ≤ wh % 9
        · rw [if_pos (show (8 : Int32) ≤ nI (wh % 9) from (nI_leI (a := 8) (by decide) (by omega)).mpr c)] at ez
          exact ⟨wh % 9, l9, ez, fun n => absurd h n, fun _ => by omega⟩
        · rw [if_neg (show ¬ (8 : Int32) ≤ nI (wh % 9) from fun z => c ((nI_leI (a := 8) (by decide) (by omega)).mp z))] at ez
          exact ⟨wh % 3, by omega, ez, fun n => absurd h n, fun _ => by omega⟩
    · rw [if_neg (show ¬ nI len = (3 : Int32) from fun z => h3 ((nI_eq (b := 3) hl (by decide)).mp z))] at ez
      exact ⟨wh % 9, l9, ez, fun n => absurd h n, fun e => absurd e h3⟩
  · have y0 : y = 1 := by rw [ey, if_neg (show ¬ nI n ≤ (10 : Int32) from fun z => h ((nI_leI (b := 10) hn (by decide)).mp z))]
    rw [if_neg (by rw [y0]; decide)] at ez
    exact ⟨wh % 3, by omega, ez, fun _ => l3, fun _ => by omega⟩
end OPR
section LTX
variable {X : Nat × (Nat × (Nat → Int32))} {I0 : Nat → Nat → Int32} {L : Nat → Nat → Int64} {F : Nat → Nat → UInt32} {Q : AQ} {N T rc sc t m on oo : Nat} {s : AS}
theorem sp_tx54 {x4 : Int32} (hT : isT X on 1) (hO : isT X oo 8) (ne : on ≠ oo) (h6 : on < 1000000) (h7 : oo < 1000000) (hX : X.1 ≤ 400000) (hm : m < 6) (h50 : aC s ≤ 50)
    (q : ∀ (s2 : AS) n2 K M, Al s2 T rc sc t n2 N K M F → Q (.inl (some (.int 1))) (G X K M F)) :
    ∀ (f : Nat) (I : Nat → Nat → Int32) (n a : Nat) (op : List Nat) (x9 : Int32) (d11 d12 d13 d14 d15 d16 : Option Value) (c0 s0 : Nat), 41 ≤ n + f → Al s T rc sc t n N I L F → I on 0 = nI n → op.length ≤ 3 → OpR I oo op → a < 60013 →
      ((x9 = 0 ∧ DT I n (fun k => k < m ∧ aL s k ≠ -1) (brks op) kAt ∧ (n ≤ 10 ∨ n + (2 + pot op + (if n ≤ 11 then 3 else 0)) ≤ 40)) ∨ (x9 = 1 ∧ DT I n (fun k => k < m ∧ aL s k ≠ -1) (brks op) kBe ∧ (n ≤ 10 ∨ n + (pot op + (if n ≤ 11 then 3 else 0)) ≤ 40))) →
      c0 ≤ 10 + 5 * n → s0 ≤ 60 + 30 * n →
      WP mL_texts 54 [some (.ref 0), some (.ref 498), some (.ref 499), some (.int (nI m)), some (.int x4), some (.ref on), some (.ref oo), some (.int (nI op.length)), some (.int (nI a)), some (.int x9), some (.int 1), d11, d12, d13, d14, d15, d16] [] (G X I L F) c0 s0 Q
  | 0, I, n, a, op, x9, d11, d12, d13, d14, d15, d16, c0, s0, hf, iv, en, l3, opr, ha, st, hc, hs => by
    have := iv.1.2.1.1
    omega
  | f + 1, I, n, a, op, x9, d11, d12, d13, d14, d15, d16, c0, s0, hf, iv, en, l3, opr, ha, st, hc, hs => by
    have n40 : n ≤ 40 := iv.1.2.1.1
    have pl := pot_le opr
    have h5 : 502 ≤ oo := hO.2.1
    have one : ¬ (1 : Int32) = 0 := by decide
    have el : (nI a * 31 + 17 * nI n + 11) - (nI a * 31 + 17 * nI n + 11) / 60013 * 60013 = nI ((a * 31 + 17 * n + 11) % 60013) := by
      have e : nI a * 31 + 17 * nI n + 11 = nI (a * 31 + 17 * n + 11) := by
        rw [show (31 : Int32) = nI 31 from rfl, show (17 : Int32) = nI 17 from rfl, show (11 : Int32) = nI 11 from rfl, nI_mul, nI_mul, nI_add, nI_add]
      rw [e]
      exact rem_n (d := 60013) (by omega) (by decide) (by decide)
    have lb := Nat.mod_lt (a * 31 + 17 * n + 11) (show 0 < 60013 by decide)
    generalize hb : (a * 31 + 17 * n + 11) % 60013 = b at el lb
    have dw : nI b / 7 = nI (b / 7) := pk_div (d := 7) (by omega) (by decide) (by decide)
    generalize hwh : b / 7 = wh at dw
    have lw : wh < 2 ^ 31 := by omega
    have r9 : nI wh - nI wh / 9 * 9 = nI (wh % 9) := rem_n (d := 9) lw (by decide) (by decide)
    have r3 : nI wh - nI wh / 3 * 3 = nI (wh % 3) := rem_n (d := 3) lw (by decide) (by decide)
    have d9 : nI wh / 9 = nI (wh / 9) := pk_div (d := 9) lw (by decide) (by decide)
    have r5 : nI (wh / 9) - nI (wh / 9) / 5 * 5 = nI (wh / 9 % 5) := rem_n (d := 5) (by omega) (by decide) (by decide)
    have d2 : nI wh / 2 = nI (wh / 2) := pk_div (d := 2) lw (by decide) (by decide)
    have r4 : nI (wh / 2) - nI (wh / 2) / 4 * 4 = nI (wh / 2 % 4) := rem_n (d := 4) (by omega) (by decide) (by decide)
    have x7in : vp_in (nI op.length) 8 := nI_in (by omega) (by decide)
    have x7c : (nI op.length).toNatClampNeg = op.length := nI_clamp (by omega)
    have alr : ∀ (J : Nat → Nat → Int32) (n2 k : Nat) (y : Int32), Al s T rc sc t n2 N J L F → Al s T rc sc t n2 N (am_u J oo k y) L F := fun J n2 k y z => z.row (fun o j h => am_u_ne (by omega))
    have tfo : ∀ J, TFn on I J → ∀ k, J oo k = I oo k := fun J h k => h oo k h5 h7 (Ne.symm ne)
    have dtr : ∀ (J : Nat → Nat → Int32) (n2 k : Nat) (y : Int32) (b : List Int32) (K : RS → Prop), DT J n2 (fun k => k < m ∧ aL s k ≠ -1) b K → DT (am_u J oo k y) n2 (fun k => k < m ∧ aL s k ≠ -1) b K := fun J n2 k y b K z => z.fr (fun j _ => am_u_ne (by omega))
    refine k_L_texts_54 hT hO ⟨fun z => absurd z one, fun _ => ⟨fun x90 => ?_, fun x91 => ?_⟩⟩
    · -- a factor is asked
      obtain ⟨_, dt, hp⟩ := st.resolve_right (fun z => absurd x90 (by rw [z.1]; exact one))
      rw [en, el, dw, r9, r3, d9, r5]
      intro y ey z ez u eu
      obtain ⟨kd, k9, ek, kl, kb⟩ := kind_ok (by omega) (by omega) ey ez
      have ekn : ∀ j : Nat, j < 100 → z = nI j → kd = j := fun j hj e => (nI_eq (by omega) (by omega)).mp (ek.symm.trans e)
      have hn37 : kd < 3 → n ≤ 38 := fun h => by
        rcases hp with h | h <;> omega
      refine ⟨fun z5 => ?_, fun z5 => ⟨fun z6 => ?_, fun z6 => ⟨fun z7 => ?_, fun z7 => ?_⟩⟩⟩
      · -- a bracket
        have k5 := ekn 5 (by decide) z5
        intro w ew
        rw [if_neg (by rw [z5]; decide)] at ew
        subst ew
        have nl : n ≤ 10 := Classical.byContradiction fun h => by have := kl h; omega
        have len : op.length ≤ 2 := by
          have : op.length ≠ 3 := fun h => kb h (Or.inl k5)
          omega
        refine ⟨by omega, sp_ty (c := 40) (w := 0) hT h6 hX iv (by omega) en (by decide) (by decide) dt go_brk (fl_0 (fun J z => z.at)) (fun J a1 f1 e1 t1 => k_L_texts_298 hT hO ⟨fun z => absurd z one, fun _ => ⟨fun z6 => absurd z6 (by rw [z5]; decide), fun _ => ⟨⟨fun z7 => absurd z7 (by rw [z5]; decide), fun _ h => absurd z5 h⟩, fun v ev => ⟨x7in, fun v2 ev2 => ?_⟩⟩⟩⟩)⟩
        rw [if_neg (by rw [z5]; decide), if_pos z5] at ev
        rw [if_neg (by rw [z5]; decide)] at ev2
        rw [ev, ev2, x7c, nI_1, x90]
        refine sp_tx54 hT hO ne h6 h7 hX hm h50 q f _ (n + 1) b (1 :: op) 0 _ _ _ _ _ _ _ _ (by omega) (alr _ _ _ _ a1) ((am_u_ne (by omega)).trans e1) (by simp only [List.length_cons]; omega) (OpR.push (o := 1) (by decide) (by decide) (opr.fr (fun k _ => tfo J f1 k))) lb (Or.inl ⟨rfl, dtr _ _ _ _ _ _ t1, ?_⟩) (by omega) (by omega)
        have : pot (1 :: op) = 1 + pot op := rfl
        rw [this]
        right
        split <;> omega
      · -- a function
        have k6 := ekn 6 (by decide) z6
        intro w ew
        rw [if_neg (by rw [z6]; decide)] at ew
        have nl : n ≤ 10 := Classical.byContradiction fun h => by have := kl h; omega
        have len : op.length ≤ 2 := by
          have : op.length ≠ 3 := fun h => kb h (Or.inr (Or.inl k6))
          omega
        obtain ⟨ch, cm, ⟨c1, c2, c3⟩, c4, c5, c6⟩ := fun_ok (wh / 9 % 5) (Nat.mod_lt _ (by decide))
        rw [c4] at ew
        subst ew
        refine ⟨by omega, sp_ty (c := ch) (w := 0) hT h6 hX iv (by omega) en c1 c2 dt (c6 _ _) (fl_0 (fun J z => z.fu)) (fun J a1 f1 e1 t1 => k_L_texts_298 hT hO ⟨fun z => absurd z one, fun _ => ⟨fun _ => ⟨by omega, ?_⟩, fun h => absurd z6 h⟩⟩)⟩
        refine sp_ty (c := 40) (w := 0) hT h6 hX a1 (by omega) e1 (by decide) (by decide) t1 go_par (fl_0 (fun J z => z.at)) (fun J2 a2 f2 e2 t2 => k_L_texts_317 hT hO (fun g eg => ⟨⟨fun z7 => absurd z7 (by rw [z6]; decide), fun _ _ => ⟨by omega, trivial⟩⟩, fun v ev => ⟨x7in, fun v2 ev2 => ?_⟩⟩))
        rw [if_neg (by rw [z6]; decide), if_neg (by rw [z6]; decide), c5] at ev
        rw [if_neg (by rw [z6]; decide)] at ev2
        rw [if_neg one] at eg
        rw [ev, ev2, x7c, nI_1, x90, eg]
        refine sp_tx54 hT hO ne h6 h7 hX hm h50 q f _ (n + 1 + 1) b ((cm + 1) :: op) 0 _ _ _ _ _ _ _ _ (by omega) (alr _ _ _ _ a2) ((am_u_ne (by omega)).trans e2) (by simp only [List.length_cons]; omega) (OpR.push (o := cm + 1) (by omega) (by omega) (opr.fr (fun k _ => tfo J2 (f1.trans f2) k))) lb (Or.inl ⟨rfl, dtr _ _ _ _ _ _ t2, ?_⟩) (by omega) (by omega)
        have : pot ((cm + 1) :: op) = 3 * cm + 1 + pot op := rfl
        rw [this]
        right
        split <;> omega
      · -- a sign ahead
        have k7 := ekn 7 (by decide) z7
        have nl : n ≤ 10 := Classical.byContradiction fun h => by have := kl h; omega
        refine ⟨by omega, sp_ty (c := 45) (w := 0) hT h6 hX iv (by omega) en (by decide) (by decide) dt go_neg (fl_0 (fun J z => z.at)) (fun J a1 f1 e1 t1 => k_L_texts_298 hT hO ⟨fun z => absurd z one, fun _ => ⟨fun h => absurd h z6, fun _ => ⟨⟨fun _ => ⟨x7in, trivial⟩, fun h => absurd z7 h⟩, fun v ev => ⟨x7in, fun v2 ev2 => ?_⟩⟩⟩⟩)⟩
        rw [if_pos z7] at ev2
        rw [ev2, x7c, x90, Int32.add_zero]
        refine sp_tx54 hT hO ne h6 h7 hX hm h50 q f _ (n + 1) b op 0 _ _ _ _ _ _ _ _ (by omega) (alr _ _ _ _ a1) ((am_u_ne (by omega)).trans e1) l3 (opr.fr (fun k hk => (am_u_ne (by omega)).trans (tfo J f1 k))) lb (Or.inl ⟨rfl, dtr _ _ _ _ _ _ t1, ?_⟩) (by omega) (by omega)
        right
        split <;> omega
      · -- a factor
        have nk : kd ≠ 5 ∧ kd ≠ 6 ∧ kd ≠ 7 := ⟨fun e => z5 (by rw [ek, e]; rfl), fun e => z6 (by rw [ek, e]; rfl), fun e => z7 (by rw [ek, e]; rfl)⟩
        have hw : Whl (brks op) u := by
          cases op with
          | nil => exact ⟨fun _ => by rw [eu]; decide, fun h => absurd rfl h⟩
          | cons o l =>
            refine ⟨fun h => (by cases h), fun _ => ?_⟩
            rw [eu, if_neg (fun z => by have := (nI_eq (b := 0) (by omega) (by decide)).mp z; simp only [List.length_cons] at this; omega)]
        rw [ek]
        refine ⟨by omega, sp_fac hT h6 hX iv en hm k9 (show wh / 9 < 2 ^ 31 by omega) ?_ dt hw nk (fun J n2 a1 g1 g2 f1 e1 t1 => k_L_texts_399 hT hO ?_)⟩
        · by_cases k3 : kd < 3
          · rw [if_pos k3]; exact hn37 k3
          · rw [if_neg k3]
            have : n ≤ 10 := Classical.byContradiction fun h => k3 (kl h)
            omega
        · have n2b : n2 ≤ 40 := a1.1.2.1.1
          refine sp_tx54 hT hO ne h6 h7 hX hm h50 q f J n2 b op 1 _ _ _ _ _ _ _ _ (by omega) a1 e1 l3 (opr.fr (fun k hk => tfo J f1 k)) lb (Or.inr ⟨rfl, t1, ?_⟩) (by omega) (by omega)
          by_cases nl : n ≤ 10
          · right
            have g3 : n2 ≤ n + 4 := by
              by_cases k3 : kd < 3
              · rw [if_pos k3] at g2; omega
              · rw [if_neg k3] at g2; exact g2
            split <;> omega
          · right
            rw [if_pos (kl nl)] at g2
            have h2 := hp.resolve_left nl
            rw [if_neg (by omega)]
            split at h2 <;> omega
    · -- behind a factor
      obtain ⟨e9, dt, hp⟩ := st.resolve_left (fun z => x91 z.1)
      have sgn : n < 40 → (n ≤ 10 ∨ (n + 1) + (2 + pot op + (if n + 1 ≤ 11 then 3 else 0)) ≤ 40) → ∀ (w : Int32) (e11 e12 e13 e14 e15 e16 : Option Value), w = (if nI (wh / 2 % 4) = 0 then (43 : Int32) else (if nI (wh / 2 % 4) = 1 then 45 else (if nI (wh / 2 % 4) = 2 then 42 else 47))) → ∀ (y1 y2 y3 : Int32) , (c0 + 1 ≤ 400 ∧ s0 + 6 ≤ 2500) ∧ WP mL_types 0 (am_ent 4 [.ref 0, .ref on, .int w, .int 0]) [] (G X I L F) 0 0 (am_kq mL_texts 540 [some (.ref 0), some (.ref 498), some (.ref 499), some (.int (nI m)), some (.int x4), some (.ref on), some (.ref oo), some (.int (nI op.length)), some (.int (nI b)), some (.int x9), some (.int 1), some (.int y1), some (.int y2), some (.int y3), e14, e15, e16] [] (c0 + 1) (s0 + 6) Q) := fun l40 hq w e11 e12 e13 e14 e15 e16 ew y1 y2 y3 => by
        obtain ⟨ch, ⟨c1, c2⟩, c4, c6⟩ := sig_ok (wh / 2 % 4) (Nat.mod_lt _ (by decide))
        rw [c4] at ew
        subst ew
        refine ⟨by omega, sp_ty (c := ch) (w := 0) hT h6 hX iv l40 en c1 c2 dt (c6 _ _) (fl_0 (fun J z => z.at)) (fun J a1 f1 e1 t1 => k_L_texts_543 hT hO ?_)⟩
        refine sp_tx54 hT hO ne h6 h7 hX hm h50 q f J (n + 1) b op 0 _ _ _ _ _ _ _ _ (by omega) a1 e1 l3 (opr.fr (fun k hk => tfo J f1 k)) lb (Or.inl ⟨rfl, t1, ?_⟩) (by omega) (by omega)
        rcases hq with h | h
        · right
          split <;> omega
        · exact Or.inr h
      cases op with
      | nil =>
        have pb : ∀ (e11 e12 e13 e14 e15 e16 : Option Value), (c0 + 100 ≤ 400 ∧ s0 + 600 ≤ 2500) ∧ WP mL_publishes 0 (am_ent 11 [.ref 0, .ref 498, .ref 499, .int (nI m)]) [] (G X I L F) 0 0 (am_kq mL_texts 560 [some (.ref 0), some (.ref 498), some (.ref 499), some (.int (nI m)), some (.int x4), some (.ref on), some (.ref oo), some (.int (nI ([] : List Nat).length)), some (.int (nI a)), some (.int x9), some (.int 1), e11, e12, e13, e14, e15, e16] [] (c0 + 100) (s0 + 600) Q) := fun e11 e12 e13 e14 e15 e16 => by
          obtain ⟨tx, tn⟩ := DT.txt dt n40
          refine ⟨by omega, sp_pubs hX iv hm h50 tx tn (fun s2 K M a2 => k_L_texts_563 hT hO (fun y ey => ?_))⟩
          rw [if_neg one] at ey
          rw [ey]
          exact ⟨Or.inr rfl, q s2 n K M a2⟩
        refine ⟨fun h => absurd h (by decide), fun _ => ⟨fun _ => pb _ _ _ _ _ _, fun n12 => ⟨fun _ => pb _ _ _ _ _ _, fun _ => ?_⟩⟩⟩
        rw [en] at n12
        have n11 : n ≤ 11 := by
          have : ¬ 12 ≤ n := fun z => n12 ((nI_leI (a := 12) (by decide) (by omega)).mpr z)
          omega
        rw [en, el, dw, d2, r4]
        intro y ey
        refine ⟨fun _ w ew => sgn (by omega) ?_ w none none none _ _ _ ew _ _ _, fun h => absurd (show nI ([] : List Nat).length ≤ (0 : Int32) by decide) h⟩
        show n ≤ 10 ∨ n + 1 + (2 + 0 + _) ≤ 40
        right
        split <;> omega
      | cons o l =>
        obtain ⟨eo, o1, o3, opr2⟩ := opr
        have ll : l.length ≤ 2 := by simp only [List.length_cons] at l3; omega
        have pc : pot (o :: l) = 3 * (o - 1) + 1 + pot l := rfl
        have pl2 := pot_le opr2
        have l0 : (nI (o :: l).length) - 1 = nI l.length := nI_pred l.length
        have lm : (nI (o :: l).length) + (-1) = nI l.length := by rw [← l0, Int32.sub_eq_add_neg]
        have inl : vp_in (nI l.length) 8 := nI_in (by omega) (by decide)
        have cl : (nI l.length).toNatClampNeg = l.length := nI_clamp (by omega)
        -- a bracket is closed
        have clo : o = 1 → ∀ (w : Int32), w = (if nI l.length = 0 then (1 : Int32) else 0) → ∀ (y1 y2 : Int32) (e13 e14 e15 e16 : Option Value), (c0 + 1 ≤ 400 ∧ s0 + 6 ≤ 2500) ∧ WP mL_types 0 (am_ent 4 [.ref 0, .ref on, .int 41, .int w]) [] (G X I L F) 0 0 (am_kq mL_texts 486 [some (.ref 0), some (.ref 498), some (.ref 499), some (.int (nI m)), some (.int x4), some (.ref on), some (.ref oo), some (.int (nI l.length)), some (.int (nI b)), some (.int x9), some (.int 1), some (.int y1), some (.int y2), e13, e14, e15, e16] [] (c0 + 1) (s0 + 6) Q) := fun oe w ew y1 y2 e13 e14 e15 e16 => by
          subst oe
          have hw : Whl (brks l) w := by
            cases l with
            | nil => exact ⟨fun _ => by rw [ew]; decide, fun h => absurd rfl h⟩
            | cons o l =>
              refine ⟨fun h => (by cases h), fun _ => ?_⟩
              rw [ew, if_neg (fun z => by have := (nI_eq (b := 0) (by omega) (by decide)).mp z; simp only [List.length_cons] at this; omega)]
          have l40 : n < 40 := by rcases hp with h | h <;> omega
          refine ⟨by omega, sp_ty (c := 41) (w := w) hT h6 hX iv l40 en (by decide) (by decide) dt (go_clo (b := brks l)) (fl_be hw (fun r h => h)) (fun J a1 f1 e1 t1 => k_L_texts_489 hT hO ?_)⟩
          rw [e9]
          refine sp_tx54 hT hO ne h6 h7 hX hm h50 q f J (n + 1) b l 1 _ _ _ _ _ _ _ _ (by omega) a1 e1 (by omega) (opr2.fr (fun k hk => tfo J f1 k)) lb (Or.inr ⟨rfl, t1, ?_⟩) (by omega) (by omega)
          rw [pc] at hp
          rcases hp with h | h
          · right
            split <;> omega
          · right
            split at h <;> split <;> omega
        rw [en, el, dw, d2, r4, l0, lm, cl, eo]
        refine ⟨fun _ y ey => ⟨fun h => absurd ((nI_leI (b := 0) (by omega) (by decide)).mp h) (by simp only [List.length_cons]; omega), fun _ => ⟨inl, fun h1 => ⟨fun y0 => ⟨fun _ w ew => ?_, fun _ w ew => ?_⟩, fun _ w ew => ?_⟩, fun h1 => ?_⟩⟩, fun h => absurd ((nI_ltI (a := 0) (by decide) (by omega)).mpr (by simp only [List.length_cons]; omega)) h⟩
        · exact clo (by have := (nI_leI (b := 1) (by omega) (by decide)).mp h1; omega) w ew _ _ _ _ _ _
        · have nl : n ≤ 10 := Classical.byContradiction fun h => by
            rw [if_neg (show ¬ nI n ≤ (10 : Int32) from fun z => h ((nI_leI (b := 10) (by omega) (by decide)).mp z))] at ey
            rw [ey] at y0; exact absurd y0 one
          exact sgn (by omega) (Or.inl nl) w none none none _ _ _ ew _ _ _
        · exact clo (by have := (nI_leI (b := 1) (by omega) (by decide)).mp h1; omega) w ew _ _ _ _ _ _
        · -- a comma
          have o2 : 2 ≤ o := by
            have : ¬ o ≤ 1 := fun z => h1 ((nI_leI (b := 1) (by omega) (by decide)).mpr z)
            omega
          have g : GoOn (fun k => k < m ∧ aL s k ≠ -1) (brks (o :: l)) kBe (nI 44) (brks ((o - 1) :: l)) kAt := by
            have e : brks ((o - 1) :: l) = (nI (o - 1) - 1) :: brks l := by
              show nI (o - 1 - 1) :: brks l = _
              rw [show o - 1 = o - 1 - 1 + 1 by omega, nI_pred, Nat.add_sub_cancel]
            rw [e]
            exact go_com (fun z => by have := (nI_eq (b := 0) (by omega) (by decide)).mp z; omega)
          have l40 : n < 40 := by rcases hp with h | h <;> omega
          refine ⟨by omega, sp_ty (c := 44) (w := 0) hT h6 hX iv l40 en (by decide) (by decide) dt g (fl_0 (fun J z => z.at)) (fun J a1 f1 e1 t1 => k_L_texts_432 hT hO ?_)⟩
          rw [l0, cl, tfo J f1 l.length, eo]
          refine ⟨inl, inl, ?_⟩
          have ep : nI o - 1 = nI (o - 1) := by rw [show o = o - 1 + 1 by omega, nI_pred, Nat.add_sub_cancel]
          rw [ep]
          have opr3 : OpR (am_u J oo l.length (nI (o - 1))) oo ((o - 1) :: l) := OpR.push (by omega) (by omega) (opr2.fr (fun k hk => tfo J f1 k))
          refine sp_tx54 hT hO ne h6 h7 hX hm h50 q f _ (n + 1) b ((o - 1) :: l) 0 _ _ _ _ _ _ _ _ (by omega) (alr _ _ _ _ a1) ((am_u_ne (by omega)).trans e1) l3 opr3 lb (Or.inl ⟨rfl, dtr _ _ _ _ _ _ t1, ?_⟩) (by omega) (by omega)
          have pd : pot ((o - 1) :: l) = 3 * (o - 1 - 1) + 1 + pot l := rfl
          rw [pd]
          rw [pc] at hp
          rcases hp with h | h
          · right
            split <;> omega
          · right
            split at h <;> split <;> omega
end LTX
