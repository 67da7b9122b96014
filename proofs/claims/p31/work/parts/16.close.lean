/-! own: each step of the numbered machine is one of the real one; so what WP says holds there -/
section AMCL
variable {sa1 sa2 : Nat} {dC : Nat → ClassId} {dI : Nat → Nat → Nat} {dA : Nat → ClassId} {l : Launch} {k pc a b : Nat} {L : List (Option Value)} {st : List Value} {h : AH} {c s' : Nat} {Q : AQ} {p : Program} {e : Env} {R : Room} {s : State} {m : MethodId} {args : Array Value} {below : List Frame} {meth : Method} {cd : Code} {A : Nat → Prop} {ad0 : Nat → Nat} {n0 : Nat} {X0 : Nat × (Nat → Int32)} {Qf : State → Prop} {ad : Nat → Nat} {H : Heap} {locs : List Loc} {ls : Array Slot}
theorem am_i_all {i : Instr} {len : Nat} (F : am_Fr sa1 sa2 dC dI dA l k p e R s m args below meth cd A ad0 n0 X0 Q Qf) (S : am_St dC dI dA k A s ad0 n0 X0 ad H locs ls L st h c s') (hd : decode (am_cc k) pc = .ok (i, len)) (hchk : am_chk k (pc, i, len, a, b) = true) (q : am_x (am_T sa1 sa2 dC dI dA l) k pc i a b L st h c s' Q) : W p l e R s m args below meth cd H locs c s' Qf (F0 m pc ls (st.map (am_cv ad))) := by
  cases i with
  | iload_n j =>
    have e1 : len = 1 := Nat.eq_of_beq_eq_true hchk
    subst e1
    exact am_i_iload_n F S hd q
  | iload j =>
    have e1 : len = 2 := Nat.eq_of_beq_eq_true hchk
    subst e1
    exact am_i_iload F S hd q
  | fload_n j =>
    have e1 : len = 1 := Nat.eq_of_beq_eq_true hchk
    subst e1
    exact am_i_fload_n F S hd q
  | fload j =>
    have e1 : len = 2 := Nat.eq_of_beq_eq_true hchk
    subst e1
    exact am_i_fload F S hd q
  | aload_n j =>
    have e1 : len = 1 := Nat.eq_of_beq_eq_true hchk
    subst e1
    exact am_i_aload_n F S hd q
  | aload j =>
    have e1 : len = 2 := Nat.eq_of_beq_eq_true hchk
    subst e1
    exact am_i_aload F S hd q
  | lload_n j =>
    have e1 : len = 1 := Nat.eq_of_beq_eq_true hchk
    subst e1
    exact am_i_lload_n F S hd q
  | istore_n j =>
    have e1 : len = 1 := Nat.eq_of_beq_eq_true hchk
    subst e1
    exact am_i_istore_n F S hd q
  | istore j =>
    have e1 : len = 2 := Nat.eq_of_beq_eq_true hchk
    subst e1
    exact am_i_istore F S hd q
  | fstore_n j =>
    have e1 : len = 1 := Nat.eq_of_beq_eq_true hchk
    subst e1
    exact am_i_fstore_n F S hd q
  | fstore j =>
    have e1 : len = 2 := Nat.eq_of_beq_eq_true hchk
    subst e1
    exact am_i_fstore F S hd q
  | astore_n j =>
    have e1 : len = 1 := Nat.eq_of_beq_eq_true hchk
    subst e1
    exact am_i_astore_n F S hd q
  | astore j =>
    have e1 : len = 2 := Nat.eq_of_beq_eq_true hchk
    subst e1
    exact am_i_astore F S hd q
  | lstore_n j =>
    have e1 : len = 1 := Nat.eq_of_beq_eq_true hchk
    subst e1
    exact am_i_lstore_n F S hd q
  | iinc j n =>
    have e1 : len = 3 := Nat.eq_of_beq_eq_true hchk
    subst e1
    exact am_i_iinc F S hd q
  | iconst n =>
    have h2 := hchk
    dsimp only [am_chk] at h2
    simp only [Bool.and_eq_true, decide_eq_true_eq] at h2
    have e1 : len = 1 := Nat.eq_of_beq_eq_true h2.1
    subst e1
    exact am_i_iconst F S hd h2.2 q
  | bipush n =>
    have h2 := hchk
    dsimp only [am_chk] at h2
    simp only [Bool.and_eq_true, decide_eq_true_eq] at h2
    have e1 : len = 2 := Nat.eq_of_beq_eq_true h2.1
    subst e1
    exact am_i_bipush F S hd h2.2 q
  | sipush n =>
    have h2 := hchk
    dsimp only [am_chk] at h2
    simp only [Bool.and_eq_true, decide_eq_true_eq] at h2
    have e1 : len = 3 := Nat.eq_of_beq_eq_true h2.1
    subst e1
    exact am_i_sipush F S hd h2.2 q
  | lconst j =>
    have e1 : len = 1 := Nat.eq_of_beq_eq_true hchk
    subst e1
    exact am_i_lconst F S hd q
  | fconst j =>
    have e1 : len = 1 := Nat.eq_of_beq_eq_true hchk
    subst e1
    exact am_i_fconst F S hd q
  | iadd =>
    have e1 : len = 1 := Nat.eq_of_beq_eq_true hchk
    subst e1
    exact am_i_iadd F S hd q
  | isub =>
    have e1 : len = 1 := Nat.eq_of_beq_eq_true hchk
    subst e1
    exact am_i_isub F S hd q
  | imul =>
    have e1 : len = 1 := Nat.eq_of_beq_eq_true hchk
    subst e1
    exact am_i_imul F S hd q
  | iand =>
    have e1 : len = 1 := Nat.eq_of_beq_eq_true hchk
    subst e1
    exact am_i_iand F S hd q
  | ior =>
    have e1 : len = 1 := Nat.eq_of_beq_eq_true hchk
    subst e1
    exact am_i_ior F S hd q
  | ixor =>
    have e1 : len = 1 := Nat.eq_of_beq_eq_true hchk
    subst e1
    exact am_i_ixor F S hd q
  | ishl =>
    have e1 : len = 1 := Nat.eq_of_beq_eq_true hchk
    subst e1
    exact am_i_ishl F S hd q
  | ishr =>
    have e1 : len = 1 := Nat.eq_of_beq_eq_true hchk
    subst e1
    exact am_i_ishr F S hd q
  | iushr =>
    have e1 : len = 1 := Nat.eq_of_beq_eq_true hchk
    subst e1
    exact am_i_iushr F S hd q
  | idiv =>
    have e1 : len = 1 := Nat.eq_of_beq_eq_true hchk
    subst e1
    exact am_i_idiv F S hd q
  | irem =>
    have e1 : len = 1 := Nat.eq_of_beq_eq_true hchk
    subst e1
    exact am_i_irem F S hd q
  | land =>
    have e1 : len = 1 := Nat.eq_of_beq_eq_true hchk
    subst e1
    exact am_i_land F S hd q
  | lor =>
    have e1 : len = 1 := Nat.eq_of_beq_eq_true hchk
    subst e1
    exact am_i_lor F S hd q
  | lshl =>
    have e1 : len = 1 := Nat.eq_of_beq_eq_true hchk
    subst e1
    exact am_i_lshl F S hd q
  | lshr =>
    have e1 : len = 1 := Nat.eq_of_beq_eq_true hchk
    subst e1
    exact am_i_lshr F S hd q
  | lcmp =>
    have e1 : len = 1 := Nat.eq_of_beq_eq_true hchk
    subst e1
    exact am_i_lcmp F S hd q
  | i2l =>
    have e1 : len = 1 := Nat.eq_of_beq_eq_true hchk
    subst e1
    exact am_i_i2l F S hd q
  | i2c =>
    have e1 : len = 1 := Nat.eq_of_beq_eq_true hchk
    subst e1
    exact am_i_i2c F S hd q
  | i2b =>
    have e1 : len = 1 := Nat.eq_of_beq_eq_true hchk
    subst e1
    exact am_i_i2b F S hd q
  | i2f =>
    have e1 : len = 1 := Nat.eq_of_beq_eq_true hchk
    subst e1
    exact am_i_i2f F S hd q
  | f2i =>
    have e1 : len = 1 := Nat.eq_of_beq_eq_true hchk
    subst e1
    exact am_i_f2i F S hd q
  | fneg =>
    have e1 : len = 1 := Nat.eq_of_beq_eq_true hchk
    subst e1
    exact am_i_fneg F S hd q
  | fadd =>
    have e1 : len = 1 := Nat.eq_of_beq_eq_true hchk
    subst e1
    exact am_i_fadd F S hd q
  | fsub =>
    have e1 : len = 1 := Nat.eq_of_beq_eq_true hchk
    subst e1
    exact am_i_fsub F S hd q
  | fmul =>
    have e1 : len = 1 := Nat.eq_of_beq_eq_true hchk
    subst e1
    exact am_i_fmul F S hd q
  | fdiv =>
    have e1 : len = 1 := Nat.eq_of_beq_eq_true hchk
    subst e1
    exact am_i_fdiv F S hd q
  | fcmp op =>
    have e1 : len = 1 := Nat.eq_of_beq_eq_true hchk
    subst e1
    exact am_i_fcmp F S hd q
  | dup =>
    have e1 : len = 1 := Nat.eq_of_beq_eq_true hchk
    subst e1
    exact am_i_dup F S hd q
  | dup2 =>
    have e1 : len = 1 := Nat.eq_of_beq_eq_true hchk
    subst e1
    exact am_i_dup2 F S hd q
  | pop =>
    have e1 : len = 1 := Nat.eq_of_beq_eq_true hchk
    subst e1
    exact am_i_pop F S hd q
  | ifCond cn off =>
    have h2 := hchk
    dsimp only [am_chk] at h2
    simp only [Bool.and_eq_true, decide_eq_true_eq] at h2
    have e1 : len = 3 := Nat.eq_of_beq_eq_true h2.1
    subst e1
    exact am_i_ifCond F S hd h2.2 q
  | if_icmp cn off =>
    have h2 := hchk
    dsimp only [am_chk] at h2
    simp only [Bool.and_eq_true, decide_eq_true_eq] at h2
    have e1 : len = 3 := Nat.eq_of_beq_eq_true h2.1
    subst e1
    exact am_i_if_icmp F S hd h2.2 q
  | goto off =>
    have h2 := hchk
    dsimp only [am_chk] at h2
    simp only [Bool.and_eq_true, decide_eq_true_eq] at h2
    have e1 : len = 3 := Nat.eq_of_beq_eq_true h2.1
    subst e1
    exact am_i_goto F S hd h2.2 q
  | getfield n =>
    have h2 := hchk
    dsimp only [am_chk] at h2
    simp only [Bool.and_eq_true, decide_eq_true_eq] at h2
    have e1 : len = 3 := Nat.eq_of_beq_eq_true h2.1.1
    subst e1
    exact am_i_getfield F S hd hchk q
  | putfield n =>
    have h2 := hchk
    dsimp only [am_chk] at h2
    simp only [Bool.and_eq_true, decide_eq_true_eq] at h2
    have e1 : len = 3 := Nat.eq_of_beq_eq_true h2.1.1.1
    subst e1
    exact am_i_putfield F S hd hchk q
  | faload =>
    have e1 : len = 1 := Nat.eq_of_beq_eq_true hchk
    subst e1
    exact am_i_faload F S hd q
  | caload =>
    have e1 : len = 1 := Nat.eq_of_beq_eq_true hchk
    subst e1
    exact am_i_caload F S hd q
  | iaload =>
    have e1 : len = 1 := Nat.eq_of_beq_eq_true hchk
    subst e1
    exact am_i_iaload F S hd q
  | baload =>
    have e1 : len = 1 := Nat.eq_of_beq_eq_true hchk
    subst e1
    exact am_i_baload F S hd q
  | aaload =>
    have e1 : len = 1 := Nat.eq_of_beq_eq_true hchk
    subst e1
    exact am_i_aaload F S hd q
  | iastore =>
    have e1 : len = 1 := Nat.eq_of_beq_eq_true hchk
    subst e1
    exact am_i_iastore F S hd q
  | castore =>
    have e1 : len = 1 := Nat.eq_of_beq_eq_true hchk
    subst e1
    exact am_i_castore F S hd q
  | fastore =>
    have e1 : len = 1 := Nat.eq_of_beq_eq_true hchk
    subst e1
    exact am_i_fastore F S hd q
  | aastore =>
    have e1 : len = 1 := Nat.eq_of_beq_eq_true hchk
    subst e1
    exact am_i_aastore F S hd q
  | arraylength =>
    have e1 : len = 1 := Nat.eq_of_beq_eq_true hchk
    subst e1
    exact am_i_arraylength F S hd q
  | ldc n =>
    have h2 := hchk
    dsimp only [am_chk] at h2
    simp only [Bool.and_eq_true, decide_eq_true_eq] at h2
    have e1 : len = 2 := Nat.eq_of_beq_eq_true h2.1.1
    subst e1
    exact am_i_ldc F S hd hchk q
  | ldc_w n =>
    have h2 := hchk
    dsimp only [am_chk] at h2
    simp only [Bool.and_eq_true, decide_eq_true_eq] at h2
    have e1 : len = 3 := Nat.eq_of_beq_eq_true h2.1.1
    subst e1
    exact am_i_ldc_w F S hd hchk q
  | getstatic n =>
    have h2 := hchk
    dsimp only [am_chk] at h2
    simp only [Bool.and_eq_true, decide_eq_true_eq] at h2
    have e1 : len = 3 := Nat.eq_of_beq_eq_true h2.1.1.1
    subst e1
    exact am_i_getstatic F S hd hchk q
  | tableswitch dflt lo hi offs =>
    exact am_i_tableswitch F S hd hchk q
  | lookupswitch dflt ps =>
    exact am_i_lookupswitch F S hd hchk q
  | ireturn =>
    have h2 := hchk
    dsimp only [am_chk] at h2
    simp only [Bool.and_eq_true, decide_eq_true_eq] at h2
    have e1 : len = 1 := Nat.eq_of_beq_eq_true h2.1.1
    subst e1
    exact am_i_ireturn F S hd (Nat.eq_of_beq_eq_true h2.1.2) q
  | lreturn =>
    have h2 := hchk
    dsimp only [am_chk] at h2
    simp only [Bool.and_eq_true, decide_eq_true_eq] at h2
    have e1 : len = 1 := Nat.eq_of_beq_eq_true h2.1.1
    subst e1
    exact am_i_lreturn F S hd (Nat.eq_of_beq_eq_true h2.1.2) q
  | freturn =>
    have h2 := hchk
    dsimp only [am_chk] at h2
    simp only [Bool.and_eq_true, decide_eq_true_eq] at h2
    have e1 : len = 1 := Nat.eq_of_beq_eq_true h2.1.1
    subst e1
    exact am_i_freturn F S hd (Nat.eq_of_beq_eq_true h2.1.2) q
  | return_ =>
    have h2 := hchk
    dsimp only [am_chk] at h2
    simp only [Bool.and_eq_true, decide_eq_true_eq] at h2
    have e1 : len = 1 := Nat.eq_of_beq_eq_true h2.1.1
    subst e1
    exact am_i_return_ F S hd (Nat.eq_of_beq_eq_true h2.1.2) q
  | new n =>
    have h2 := hchk
    dsimp only [am_chk] at h2
    simp only [Bool.and_eq_true, decide_eq_true_eq] at h2
    have e1 : len = 3 := Nat.eq_of_beq_eq_true h2.1.1.1
    subst e1
    exact am_i_new F S hd hchk q
  | newarray t =>
    have h2 := hchk
    dsimp only [am_chk] at h2
    simp only [Bool.and_eq_true, decide_eq_true_eq] at h2
    have e1 : len = 2 := Nat.eq_of_beq_eq_true h2.1
    subst e1
    exact am_i_newarray F S hd hchk q
  | anewarray n =>
    have h2 := hchk
    dsimp only [am_chk] at h2
    simp only [Bool.and_eq_true, decide_eq_true_eq] at h2
    have e1 : len = 3 := Nat.eq_of_beq_eq_true h2.1.1.1.1
    subst e1
    exact am_i_anewarray F S hd hchk q
  | invokestatic n =>
    have h2 := hchk
    dsimp only [am_chk] at h2
    simp only [Bool.and_eq_true, decide_eq_true_eq] at h2
    have e1 : len = 3 := Nat.eq_of_beq_eq_true h2.1
    subst e1
    exact am_i_invokestatic F S hd hchk q
  | invokevirtual n =>
    have h2 := hchk
    dsimp only [am_chk] at h2
    simp only [Bool.and_eq_true, decide_eq_true_eq] at h2
    have e1 : len = 3 := Nat.eq_of_beq_eq_true h2.1
    subst e1
    exact am_i_invokevirtual F S hd hchk q
  | invokespecial n =>
    have h2 := hchk
    dsimp only [am_chk] at h2
    simp only [Bool.and_eq_true, decide_eq_true_eq] at h2
    have e1 : len = 3 := Nat.eq_of_beq_eq_true h2.1
    subst e1
    exact am_i_invokespecial F S hd hchk q
  | multianewarray n d =>
    have h2 := hchk
    dsimp only [am_chk] at h2
    simp only [Bool.and_eq_true, decide_eq_true_eq] at h2
    have e1 : len = 4 := Nat.eq_of_beq_eq_true h2.1.1.1
    subst e1
    exact am_i_multianewarray F S hd hchk q
  | _ => exact absurd hchk Bool.false_ne_true
theorem am_closed (k pc : Nat) (L : List (Option Value)) (st : List Value) (h : AH) (c s' : Nat) (Q : AQ) (q : am_s (am_T sa1 sa2 dC dI dA l) k pc L st h c s' Q) : am_T sa1 sa2 dC dI dA l k pc L st h c s' Q := by
  intro p e R s m args below meth cd A ad0 n0 X0 Qf F ad H locs ls S
  unfold am_s at q
  cases ht : am_thx k pc with
  | some w =>
    rw [ht] at q
    exact F.2.2.2.2 w h ad H locs ls pc c s' st q.2 S.1 S.2.2.2.2.1 S.2.2.2.2.2.1 S.2.2.2.2.2.2.1 ht S.2.1.1 q.1.2.2 q.1.1 q.1.2.1
  | none =>
    rw [ht] at q
    dsimp only at q
    cases hcd : am_code k pc with
    | none =>
      rw [hcd] at q
      exact q.elim
    | some w =>
      rw [hcd] at q
      obtain ⟨i, len, a, b⟩ := w
      obtain ⟨hk, hd, hchk⟩ := am_row hcd
      exact am_i_all F S hd hchk q
/-- the numbered machine is sound -/
theorem am_sim {k pc : Nat} {L : List (Option Value)} {st : List Value} {h : AH} {c s' : Nat} {Q : AQ} (q : WP k pc L st h c s' Q) : am_T sa1 sa2 dC dI dA l k pc L st h c s' Q := q _ (fun k pc L st h c s' Q z => am_closed k pc L st h c s' Q z)
end AMCL
