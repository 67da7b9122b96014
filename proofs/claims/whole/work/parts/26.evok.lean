/-! own: the run on lists, and that WP follows from it -/
def am_nlB (L : List (Option Value)) : Nat → Bool
  | 0 => true
  | i + 1 => match am_nth L i with
    | some (.long _) => false
    | some (.double _) => false
    | _ => true
theorem am_nlB_ok {L : List (Option Value)} {j : Nat} (h : am_nlB L j = true) : am_nl L j := by
  cases j with
  | zero => trivial
  | succ i =>
    dsimp only [am_nlB] at h
    dsimp only [am_nl]
    cases hx : am_nth L i with
    | none => trivial
    | some v => rw [hx] at h; cases v <;> first | trivial | cases h
def am_oneB (v : Value) : Bool := match v with
  | .int _ => true
  | .float _ => true
  | .ref _ => true
  | _ => false
theorem am_oneB_ok {v : Value} (h : am_oneB v = true) : am_one v := by cases v <;> first | trivial | cases h
theorem am_onesB_ok : ∀ {l : List Value}, l.all am_oneB = true → am_ones l
  | [], _ => trivial
  | v :: l, h => by
    rw [List.all_cons, Bool.and_eq_true] at h
    exact ⟨am_oneB_ok h.1, am_onesB_ok h.2⟩
def ercv (C : EC) (y : Nat) (as : List Value) : Bool := match as with
  | .ref o :: _ => Nat.blt o C.length && Nat.beq (eg C o).1 (am_oc y) && !(Nat.beq (am_oc y) 15) && !(Nat.beq (am_st y) 1)
  | _ => false
theorem ercv_ok {X : Nat × (Nat → Int32)} {C : EC} {y : Nat} {as : List Value} (h : ercv C y as = true) : am_rcv (ec X C) y as := by
  unfold ercv at h
  split at h
  · rename_i o r
    simp only [Bool.and_eq_true, Bool.not_eq_true'] at h
    obtain ⟨⟨⟨h1, h2⟩, h3⟩, h4⟩ := h
    have h5 : am_is (ec X C) o (am_oc y) := ⟨Nat.blt_eq.mp h1, Nat.eq_of_beq_eq_true h2⟩
    unfold am_rcv
    split
    · trivial
    · show (match am_oc y with
        | 15 => o = 1000001
        | c => am_is (ec X C) o c)
      split
      · rename_i e; rw [e] at h3; cases h3
      · exact h5
  · cases h
def ev : Nat → Nat → Nat → List (Option Value) → List Value → EC → Nat → Nat → Option (Option Value × EC)
  | 0, _, _, _, _, _, _, _ => none
  | n + 1, k, pc, L, st, C, c, s => match am_rw k pc with
    | none => none
    | some (i, _, a, b) => match i with
      | .aload_n j => (match am_nth L j with
        | some (.ref x) => ev n k (pc + 1) L (.ref x :: st) C c s
        | _ => none)
      | .iload_n j => (match am_nth L j with
        | some (.int x) => ev n k (pc + 1) L (.int x :: st) C c s
        | _ => none)
      | .istore_n j => (match st with
        | .int x :: r => if Nat.blt j (am_ml k) = true ∧ am_nlB L j = true then ev n k (pc + 1) (am_set L j (some (.int x))) r C c s else none
        | _ => none)
      | .iinc j d => (match am_nth L j with
        | some (.int x) => if Nat.blt j (am_ml k) = true ∧ am_nlB L j = true then ev n k (pc + 3) (am_set L j (some (.int (x + Int32.ofInt d)))) st C c s else none
        | _ => none)
      | .iconst _ => ev n k (pc + 1) L (.int (am_kc a b) :: st) C c s
      | .bipush _ => ev n k (pc + 2) L (.int (am_kc a b) :: st) C c s
      | .sipush _ => ev n k (pc + 3) L (.int (am_kc a b) :: st) C c s
      | .lconst j => ev n k (pc + 1) L (.long (lN j) :: st) C c s
      | .fconst j => ev n k (pc + 1) L (.float (am_fc j) :: st) C c s
      | .dup => (match st with
        | v :: r => if am_oneB v = true then ev n k (pc + 1) L (v :: v :: r) C c s else none
        | [] => none)
      | .goto _ => ev n k a L st C c s
      | .if_icmp cd _ => (match cd, st with
        | .ge, .int y :: .int x :: r => if y ≤ x then ev n k a L r C c s else ev n k (pc + 3) L r C c s
        | _, _ => none)
      | .getfield _ => (match st with
        | .ref o :: r => if Nat.beq a 20 = false ∧ am_ft a b = 3 ∧ o < C.length ∧ (eg C o).1 = a then (match am_nt (eg C o).2.2.2.2 b none with
            | some x => ev n k (pc + 3) L (.ref x :: r) C c s
            | none => none) else none
        | _ => none)
      | .putfield _ => (match st with
        | .int x :: .ref o :: r => if am_ft a b = 0 ∧ (am_fz a b = 0 ∨ x = 0 ∨ x = 1) ∧ o < C.length ∧ (eg C o).1 = a then ev n k (pc + 3) L r (esI C o b x) c s else none
        | .long x :: .ref o :: r => if am_ft a b = 1 ∧ x = 0 ∧ o < C.length ∧ (eg C o).1 = a then ev n k (pc + 3) L r C c s else none
        | .float x :: .ref o :: r => if am_ft a b = 2 ∧ o < C.length ∧ (eg C o).1 = a then ev n k (pc + 3) L r (esF C o b x) c s else none
        | .ref x :: .ref o :: r => if am_ft a b = 3 ∧ x < C.length ∧ o < C.length ∧ (eg C o).1 = a then ev n k (pc + 3) L r (esR C o b (some x)) c s else none
        | _ => none)
      | .new _ => if C.length + 4 ≤ 1000000 ∧ c + 1 ≤ am_bc k ∧ s + am_nf a ≤ am_bs k then ev n k (pc + 3) L (.ref C.length :: st) (enw C a 0) (c + 1) (s + am_nf a) else none
      | .newarray _ => (match st with
        | .int x :: r => if ¬ x < 0 ∧ x.toNatClampNeg ≤ 20000 ∧ C.length + 4 ≤ 1000000 ∧ c + 1 ≤ am_bc k ∧ s + x.toNatClampNeg ≤ am_bs k then ev n k (pc + 2) L (.ref C.length :: r) (enw C a x.toNatClampNeg) (c + 1) (s + x.toNatClampNeg) else none
        | _ => none)
      | .anewarray _ => (match st with
        | .int x :: r => if ¬ x < 0 ∧ x.toNatClampNeg ≤ 20000 ∧ C.length + 4 ≤ 1000000 ∧ c + 1 ≤ am_bc k ∧ s + x.toNatClampNeg ≤ am_bs k then ev n k (pc + 3) L (.ref C.length :: r) (enw C a x.toNatClampNeg) (c + 1) (s + x.toNatClampNeg) else none
        | _ => none)
      | .multianewarray _ _ => (match st with
        | .int x :: .int m :: r => if m = 3 ∧ ¬ x < 0 ∧ x.toNatClampNeg ≤ 20000 ∧ C.length + 4 ≤ 1000000 ∧ c + 4 ≤ am_bc k ∧ s + (3 + 3 * x.toNatClampNeg) ≤ am_bs k then ev n k (pc + 4) L (.ref C.length :: r) (egr C x.toNatClampNeg) (c + 4) (s + (3 + 3 * x.toNatClampNeg)) else none
        | _ => none)
      | .arraylength => (match st with
        | .ref o :: r => if a = 0 ∧ o < C.length ∧ 20 ≤ (eg C o).1 then ev n k (pc + 1) L (.int (nI (eg C o).2.1) :: r) C c s else none
        | _ => none)
      | .iastore => (match st with
        | .int x :: .int j :: .ref o :: r => if o < C.length ∧ (eg C o).1 = 20 ∧ ¬ (j < 0 ∨ (eg C o).2.1 ≤ j.toNatClampNeg) then ev n k (pc + 1) L r (esI C o j.toNatClampNeg x) c s else none
        | _ => none)
      | .fastore => (match st with
        | .float x :: .int j :: .ref o :: r => if o < C.length ∧ (eg C o).1 = 22 ∧ ¬ (j < 0 ∨ (eg C o).2.1 ≤ j.toNatClampNeg) then ev n k (pc + 1) L r (esF C o j.toNatClampNeg x) c s else none
        | _ => none)
      | .aastore => (match st with
        | .ref x :: .int j :: .ref o :: r => if (o < C.length ∧ 30 ≤ (eg C o).1 ∧ (eg C o).1 ≤ 33 ∧ ¬ (j < 0 ∨ (eg C o).2.1 ≤ j.toNatClampNeg)) ∧ x < C.length ∧ (eg C x).1 = am_el (eg C o).1 then ev n k (pc + 1) L r (esR C o j.toNatClampNeg (some x)) c s else none
        | _ => none)
      | .invokespecial _ => (match Nat.beq a 999 with
        | true => (match st with
          | .ref _ :: r => if am_cats r ≤ 8 then ev n k (pc + 3) L r C c s else none
          | _ => none)
        | false => (match am_popf b st [] with
          | none => none
          | some (as, r) => if Nat.beq a 998 = false ∧ am_cats r ≤ 8 ∧ as.all am_oneB = true ∧ ercv C a as = true ∧ c + am_bc a ≤ am_bc k ∧ s + am_bs a ≤ am_bs k then (match ev n a 0 (am_ent (am_ml a) as) [] C 0 0 with
              | some (none, C1) => ev n k (pc + 3) L r C1 (c + am_bc a) (s + am_bs a)
              | _ => none) else none))
      | .return_ => (match st with
        | [] => some (none, C)
        | _ => none)
      | _ => none
set_option maxHeartbeats 4000000 in
theorem ev_ok (X : Nat × (Nat → Int32)) : ∀ (n k pc : Nat) (L : List (Option Value)) (st : List Value) (C : EC) (c s : Nat) (v : Option Value) (C' : EC), ev n k pc L st C c s = some (v, C') → ∀ Q : AQ, Q (.inl v) (ec X C') → WP k pc L st (ec X C) c s Q := by
  intro n
  induction n with
  | zero => intro k pc L st C c s v C' h; cases h
  | succ n ih =>
    intro k pc L st C c s v C' h Q hQ
    unfold ev at h
    cases hr : am_rw k pc with
    | none => rw [hr] at h; cases h
    | some w =>
      rw [hr] at h
      obtain ⟨i, len, a, b⟩ := w
      refine WP.go hr ?_
      dsimp only at h
      cases i with
      | aload_n j =>
        dsimp only at h
        split at h
        · rename_i x e
          show am_oref _ _
          rw [e]
          exact ih _ _ _ _ _ _ _ _ _ h Q hQ
        · cases h
      | iload_n j =>
        dsimp only at h
        split at h
        · rename_i x e
          show am_oint _ _
          rw [e]
          exact ih _ _ _ _ _ _ _ _ _ h Q hQ
        · cases h
      | istore_n j =>
        dsimp only at h
        split at h
        · split at h
          · rename_i e
            exact ⟨Nat.blt_eq.mp e.1, am_nlB_ok e.2, ih _ _ _ _ _ _ _ _ _ h Q hQ⟩
          · cases h
        · cases h
      | iinc j d =>
        dsimp only at h
        split at h
        · rename_i x e0
          split at h
          · rename_i e
            show am_oint _ _
            rw [e0]
            exact ⟨Nat.blt_eq.mp e.1, am_nlB_ok e.2, ih _ _ _ _ _ _ _ _ _ h Q hQ⟩
          · cases h
        · cases h
      | iconst _ => exact ih _ _ _ _ _ _ _ _ _ h Q hQ
      | bipush _ => exact ih _ _ _ _ _ _ _ _ _ h Q hQ
      | sipush _ => exact ih _ _ _ _ _ _ _ _ _ h Q hQ
      | lconst _ => exact ih _ _ _ _ _ _ _ _ _ h Q hQ
      | fconst j =>
        have q : WP k (pc + 1) L (.float (am_fc j) :: st) (ec X C) c s Q := ih _ _ _ _ _ _ _ _ _ h Q hQ
        exact q
      | dup =>
        dsimp only at h
        split at h
        · split at h
          · rename_i e
            exact ⟨am_oneB_ok e, ih _ _ _ _ _ _ _ _ _ h Q hQ⟩
          · cases h
        · cases h
      | goto _ => exact ih _ _ _ _ _ _ _ _ _ h Q hQ
      | if_icmp cd _ =>
        dsimp only at h
        split at h
        · rename_i y x r
          split at h
          · rename_i e
            exact ⟨fun _ => ih _ _ _ _ _ _ _ _ _ h Q hQ, fun q => absurd e q⟩
          · rename_i e
            exact ⟨fun q => absurd q e, fun _ => ih _ _ _ _ _ _ _ _ _ h Q hQ⟩
        · cases h
      | getfield _ =>
        dsimp only at h
        split at h
        · split at h
          · rename_i o r e
            obtain ⟨e1, e2, e3, e4⟩ := e
            split at h
            · rename_i x e5
              dsimp only [am_x, am_r1]
              split
              · cases e1
              · exact ⟨⟨e3, e4⟩, by rw [e2]; exact ⟨x, e5, ih _ _ _ _ _ _ _ _ _ h Q hQ⟩⟩
            · cases h
          · cases h
        · cases h
      | putfield _ =>
        dsimp only at h
        dsimp only [am_x, am_vr]
        split at h
        · split at h
          · rename_i x o r e
            obtain ⟨e1, e2, e3, e4⟩ := e
            refine ⟨⟨e3, e4⟩, ?_⟩
            rw [e1]
            refine ⟨?_, ?_⟩
            · unfold am_b01
              split
              · trivial
              · rename_i z
                rcases e2 with e2 | e2 | e2
                · exact absurd e2 z
                · exact Or.inl e2
                · exact Or.inr e2
            · rw [ec_sI e3]
              exact ih _ _ _ _ _ _ _ _ _ h Q hQ
          · cases h
        · split at h
          · rename_i x o r e
            obtain ⟨e1, e2, e3, e4⟩ := e
            refine ⟨⟨e3, e4⟩, ?_⟩
            rw [e1]
            subst e2
            have q : WP k (pc + 3) L r (sL (ec X C) o b 0) c s Q := by
              rw [ec_sL]
              exact ih _ _ _ _ _ _ _ _ _ h Q hQ
            exact q
          · cases h
        · split at h
          · rename_i x o r e
            obtain ⟨e1, e3, e4⟩ := e
            refine ⟨⟨e3, e4⟩, ?_⟩
            rw [e1]
            have q : WP k (pc + 3) L r (sF (ec X C) o b x) c s Q := by
              rw [ec_sF e3]
              exact ih _ _ _ _ _ _ _ _ _ h Q hQ
            exact q
          · cases h
        · split at h
          · rename_i x o r e
            obtain ⟨e1, e2, e3, e4⟩ := e
            refine ⟨⟨e3, e4⟩, ?_⟩
            rw [e1]
            have q : WP k (pc + 3) L r (sR (ec X C) o b (some x)) c s Q := by
              rw [ec_sR e3]
              exact ih _ _ _ _ _ _ _ _ _ h Q hQ
            exact ⟨e2, q⟩
          · cases h
        · cases h
      | new _ =>
        dsimp only at h
        split at h
        · rename_i e
          refine ⟨e, ?_⟩
          rw [ec_new]
          exact ih _ _ _ _ _ _ _ _ _ h Q hQ
        · cases h
      | newarray _ =>
        dsimp only at h
        split at h
        · split at h
          · rename_i e
            refine ⟨e.1, e.2.1, e.2.2, ?_⟩
            rw [ec_new]
            exact ih _ _ _ _ _ _ _ _ _ h Q hQ
          · cases h
        · cases h
      | anewarray _ =>
        dsimp only at h
        split at h
        · split at h
          · rename_i e
            refine ⟨e.1, e.2.1, e.2.2, ?_⟩
            rw [ec_new]
            exact ih _ _ _ _ _ _ _ _ _ h Q hQ
          · cases h
        · cases h
      | multianewarray _ _ =>
        dsimp only at h
        split at h
        · split at h
          · rename_i e
            refine ⟨e.1, e.2.1, e.2.2.1, e.2.2.2, ?_⟩
            rw [ec_grid]
            exact ih _ _ _ _ _ _ _ _ _ h Q hQ
          · cases h
        · cases h
      | arraylength =>
        dsimp only at h
        split at h
        · split at h
          · rename_i e
            obtain ⟨e1, e2, e3⟩ := e
            subst e1
            exact ⟨⟨e2, e3⟩, ih _ _ _ _ _ _ _ _ _ h Q hQ⟩
          · cases h
        · cases h
      | iastore =>
        dsimp only at h
        split at h
        · split at h
          · rename_i e
            refine ⟨e, ?_⟩
            have q := ih _ _ _ _ _ _ _ _ _ h Q hQ
            rw [← ec_sI e.1] at q
            exact q
          · cases h
        · cases h
      | fastore =>
        dsimp only at h
        split at h
        · split at h
          · rename_i e
            refine ⟨e, ?_⟩
            have q := ih _ _ _ _ _ _ _ _ _ h Q hQ
            rw [← ec_sF e.1] at q
            exact q
          · cases h
        · cases h
      | aastore =>
        dsimp only at h
        split at h
        · split at h
          · rename_i e
            refine ⟨e.1, ?_⟩
            have q := ih _ _ _ _ _ _ _ _ _ h Q hQ
            rw [← ec_sR e.1.1] at q
            exact ⟨e.2, q⟩
          · cases h
        · cases h
      | invokespecial _ =>
        dsimp only at h
        split at h
        · rename_i ea
          have ea := Nat.eq_of_beq_eq_true ea
          subst ea
          split at h
          · split at h
            · rename_i e
              exact ⟨e, ih _ _ _ _ _ _ _ _ _ h Q hQ⟩
            · cases h
          · cases h
        · rename_i ea
          split at h
          · cases h
          · rename_i as r ep
            split at h
            · rename_i e
              obtain ⟨e1, e2, e3, e4, e5, e6⟩ := e
              split at h
              · rename_i C1 e7
                refine w_inv ea e1 ep e2 (am_onesB_ok e3) (ercv_ok e4) e5 e6 (ih _ _ _ _ _ _ _ _ _ e7 _ ?_)
                exact ih _ _ _ _ _ _ _ _ _ h Q hQ
              · cases h
            · cases h
      | return_ =>
        dsimp only at h
        split at h
        · cases h
          exact hQ
        · cases h
      | _ => cases h
