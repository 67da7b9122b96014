/-! own: the run on lists, and that WP follows from it -/
def am_nlB (L : List (Option Value)) : Nat → Bool
  | 0 => true
  | i + 1 => match am_nth L i with
    | some (.long _) => false
    | some (.double _) => false
    | _ => true
theorem am_nlB_ok {L : List (Option Value)} {j : Nat} (h : am_nlB L j = true) : am_nl L j := by
  cases j with
  | zero => trivial
  | succ i =>
    dsimp only [am_nlB] at h
    dsimp only [am_nl]
    cases hx : am_nth L i with
    | none => trivial
    | some v => rw [hx] at h; cases v <;> first | trivial | cases h
def am_oneB (v : Value) : Bool := match v with
  | .int _ => true
  | .float _ => true
  | .ref _ => true
  | _ => false
theorem am_oneB_ok {v : Value} (h : am_oneB v = true) : am_one v := by cases v <;> first | trivial | cases h
theorem am_onesB_ok : ∀ {l : List Value}, l.all am_oneB = true → am_ones l
  | [], _ => trivial
  | v :: l, h => by
    rw [List.all_cons, Bool.and_eq_true] at h
    exact ⟨am_oneB_ok h.1, am_onesB_ok h.2⟩
def evL : List (Nat × List (Nat × Instr × Nat × Nat × Nat)) := [(mX8_init, [(0, .aload_n 0, 1, 0, 0), (1, .invokespecial 3, 3, 999, 1), (4, .aload_n 0, 1, 0, 0), (5, .new 9, 3, 2, 0), (8, .dup, 1, 0, 0), (9, .invokespecial 11, 3, 7, 1), (12, .putfield 12, 3, 8, 0), (15, .aload_n 0, 1, 0, 0), (16, .bipush 6, 2, 6, 0), (18, .newarray .int, 2, 20, 0), (20, .putfield 18, 3, 8, 1), (23, .aload_n 0, 1, 0, 0), (24, .sipush 201, 3, 201, 0), (27, .newarray .float, 2, 22, 0), (29, .putfield 22, 3, 8, 2), (32, .aload_n 0, 1, 0, 0), (33, .iconst (-1), 1, 1, 1), (34, .putfield 26, 3, 8, 3), (37, .aload_n 0, 1, 0, 0), (38, .iconst 0, 1, 0, 0), (39, .putfield 30, 3, 8, 4), (42, .aload_n 0, 1, 0, 0), (43, .lconst 0, 1, 0, 0), (44, .putfield 33, 3, 8, 5), (47, .aload_n 0, 1, 0, 0), (48, .iconst 0, 1, 0, 0), (49, .putfield 37, 3, 8, 6), (52, .return_, 1, 0, 0)]), (mX2_init, [(0, .aload_n 0, 1, 0, 0), (1, .invokespecial 3, 3, 999, 1), (4, .aload_n 0, 1, 0, 0), (5, .bipush 40, 2, 40, 0), (7, .newarray .int, 2, 20, 0), (9, .putfield 9, 3, 2, 0), (12, .aload_n 0, 1, 0, 0), (13, .bipush 40, 2, 40, 0), (15, .newarray .int, 2, 20, 0), (17, .putfield 15, 3, 2, 1), (20, .aload_n 0, 1, 0, 0), (21, .iconst 0, 1, 0, 0), (22, .putfield 18, 3, 2, 2), (25, .aload_n 0, 1, 0, 0), (26, .iconst 0, 1, 0, 0), (27, .putfield 22, 3, 2, 3), (30, .aload_n 0, 1, 0, 0), (31, .iconst 0, 1, 0, 0), (32, .putfield 25, 3, 2, 4), (35, .return_, 1, 0, 0)]), (mX5_init, [(0, .aload_n 0, 1, 0, 0), (1, .invokespecial 3, 3, 999, 1), (4, .aload_n 0, 1, 0, 0), (5, .iconst (-1), 1, 1, 1), (6, .putfield 9, 3, 5, 0), (9, .aload_n 0, 1, 0, 0), (10, .iconst 0, 1, 0, 0), (11, .putfield 15, 3, 5, 1), (14, .aload_n 0, 1, 0, 0), (15, .iconst 0, 1, 0, 0), (16, .putfield 18, 3, 5, 2), (19, .aload_n 0, 1, 0, 0), (20, .fconst 0, 1, 0, 0), (21, .putfield 21, 3, 5, 3), (24, .aload_n 0, 1, 0, 0), (25, .iconst 0, 1, 0, 0), (26, .putfield 25, 3, 5, 4), (29, .aload_n 0, 1, 0, 0), (30, .iconst 0, 1, 0, 0), (31, .putfield 28, 3, 5, 5), (34, .return_, 1, 0, 0)]), (mX7_init, [(0, .aload_n 0, 1, 0, 0), (1, .invokespecial 3, 3, 999, 1), (4, .aload_n 0, 1, 0, 0), (5, .iconst (-1), 1, 1, 1), (6, .putfield 9, 3, 7, 0), (9, .aload_n 0, 1, 0, 0), (10, .iconst (-1), 1, 1, 1), (11, .putfield 15, 3, 7, 1), (14, .aload_n 0, 1, 0, 0), (15, .iconst 0, 1, 0, 0), (16, .putfield 18, 3, 7, 2), (19, .aload_n 0, 1, 0, 0), (20, .iconst 0, 1, 0, 0), (21, .putfield 21, 3, 7, 3), (24, .aload_n 0, 1, 0, 0), (25, .iconst 0, 1, 0, 0), (26, .putfield 24, 3, 7, 4), (29, .return_, 1, 0, 0)]), (mX0_init, [(0, .aload_n 0, 1, 0, 0), (1, .invokespecial 3, 3, 999, 1), (4, .aload_n 0, 1, 0, 0), (5, .new 9, 3, 2, 0), (8, .dup, 1, 0, 0), (9, .invokespecial 11, 3, 7, 1), (12, .putfield 12, 3, 0, 0), (15, .aload_n 0, 1, 0, 0), (16, .sipush 201, 3, 201, 0), (19, .newarray .float, 2, 22, 0), (21, .putfield 18, 3, 0, 1), (24, .aload_n 0, 1, 0, 0), (25, .iconst 0, 1, 0, 0), (26, .putfield 22, 3, 0, 2), (29, .aload_n 0, 1, 0, 0), (30, .iconst (-1), 1, 1, 1), (31, .putfield 26, 3, 0, 3), (34, .aload_n 0, 1, 0, 0), (35, .iconst 0, 1, 0, 0), (36, .putfield 30, 3, 0, 4), (39, .aload_n 0, 1, 0, 0), (40, .fconst 0, 1, 0, 0), (41, .putfield 33, 3, 0, 5), (44, .aload_n 0, 1, 0, 0), (45, .iconst 0, 1, 0, 0), (46, .putfield 37, 3, 0, 6), (49, .aload_n 0, 1, 0, 0), (50, .iconst (-1), 1, 1, 1), (51, .putfield 40, 3, 0, 7), (54, .aload_n 0, 1, 0, 0), (55, .iconst 0, 1, 0, 0), (56, .putfield 43, 3, 0, 8), (59, .aload_n 0, 1, 0, 0), (60, .iconst 0, 1, 0, 0), (61, .putfield 46, 3, 0, 9), (64, .aload_n 0, 1, 0, 0), (65, .iconst 0, 1, 0, 0), (66, .putfield 49, 3, 0, 10), (69, .aload_n 0, 1, 0, 0), (70, .iconst 0, 1, 0, 0), (71, .putfield 52, 3, 0, 11), (74, .aload_n 0, 1, 0, 0), (75, .fconst 1, 1, 0, 0), (76, .putfield 55, 3, 0, 12), (79, .aload_n 0, 1, 0, 0), (80, .iconst 0, 1, 0, 0), (81, .putfield 58, 3, 0, 13), (84, .return_, 1, 0, 0)]), (mX6_init, [(0, .aload_n 0, 1, 0, 0), (1, .invokespecial 3, 3, 999, 1), (4, .aload_n 0, 1, 0, 0), (5, .new 9, 3, 4, 0), (8, .dup, 1, 0, 0), (9, .invokespecial 11, 3, 29, 1), (12, .putfield 12, 3, 6, 0), (15, .aload_n 0, 1, 0, 0), (16, .bipush 60, 2, 60, 0), (18, .anewarray 18, 3, 30, 0), (21, .putfield 20, 3, 6, 1), (24, .aload_n 0, 1, 0, 0), (25, .bipush 6, 2, 6, 0), (27, .newarray .int, 2, 20, 0), (29, .putfield 24, 3, 6, 2), (32, .aload_n 0, 1, 0, 0), (33, .iconst 3, 1, 3, 0), (34, .sipush 201, 3, 201, 0), (37, .multianewarray 28 2, 4, 34, 0), (41, .putfield 30, 3, 6, 3), (44, .aload_n 0, 1, 0, 0), (45, .iconst 0, 1, 0, 0), (46, .putfield 33, 3, 6, 4), (49, .iconst 0, 1, 0, 0), (50, .istore_n 1, 1, 0, 0), (51, .iload_n 1, 1, 0, 0), (52, .aload_n 0, 1, 0, 0), (53, .getfield 20, 3, 6, 1), (56, .arraylength, 1, 0, 0), (57, .if_icmp .ge 22, 3, 79, 0), (60, .aload_n 0, 1, 0, 0), (61, .getfield 20, 3, 6, 1), (64, .iload_n 1, 1, 0, 0), (65, .new 18, 3, 8, 0), (68, .dup, 1, 0, 0), (69, .invokespecial 37, 3, 58, 1), (72, .aastore, 1, 0, 0), (73, .iinc 1 1, 3, 0, 0), (76, .goto (-25), 3, 51, 0), (79, .iconst 0, 1, 0, 0), (80, .istore_n 1, 1, 0, 0), (81, .iload_n 1, 1, 0, 0), (82, .aload_n 0, 1, 0, 0), (83, .getfield 24, 3, 6, 2), (86, .arraylength, 1, 0, 0), (87, .if_icmp .ge 16, 3, 103, 0), (90, .aload_n 0, 1, 0, 0), (91, .getfield 24, 3, 6, 2), (94, .iload_n 1, 1, 0, 0), (95, .iconst (-1), 1, 1, 1), (96, .iastore, 1, 0, 0), (97, .iinc 1 1, 3, 0, 0), (100, .goto (-19), 3, 81, 0), (103, .return_, 1, 0, 0)]), (mX9_init, [(0, .aload_n 0, 1, 0, 0), (1, .invokespecial 3, 3, 999, 1), (4, .aload_n 0, 1, 0, 0), (5, .new 9, 3, 1, 0), (8, .dup, 1, 0, 0), (9, .invokespecial 11, 3, 2, 1), (12, .putfield 12, 3, 9, 0), (15, .aload_n 0, 1, 0, 0), (16, .new 16, 3, 3, 0), (19, .dup, 1, 0, 0), (20, .invokespecial 18, 3, 12, 1), (23, .putfield 19, 3, 9, 1), (26, .aload_n 0, 1, 0, 0), (27, .new 23, 3, 6, 0), (30, .dup, 1, 0, 0), (31, .invokespecial 25, 3, 37, 1), (34, .putfield 26, 3, 9, 2), (37, .aload_n 0, 1, 0, 0), (38, .bipush 40, 2, 40, 0), (40, .anewarray 30, 3, 31, 0), (43, .putfield 32, 3, 9, 3), (46, .aload_n 0, 1, 0, 0), (47, .new 30, 3, 5, 0), (50, .dup, 1, 0, 0), (51, .invokespecial 36, 3, 35, 1), (54, .putfield 37, 3, 9, 4), (57, .aload_n 0, 1, 0, 0), (58, .iconst 3, 1, 3, 0), (59, .anewarray 41, 3, 32, 0), (62, .putfield 43, 3, 9, 5), (65, .aload_n 0, 1, 0, 0), (66, .bipush 60, 2, 60, 0), (68, .anewarray 47, 3, 33, 0), (71, .putfield 49, 3, 9, 6), (74, .aload_n 0, 1, 0, 0), (75, .iconst 0, 1, 0, 0), (76, .putfield 53, 3, 9, 7), (79, .aload_n 0, 1, 0, 0), (80, .iconst 0, 1, 0, 0), (81, .putfield 57, 3, 9, 8), (84, .aload_n 0, 1, 0, 0), (85, .iconst 0, 1, 0, 0), (86, .putfield 60, 3, 9, 9), (89, .iconst 0, 1, 0, 0), (90, .istore_n 1, 1, 0, 0), (91, .iload_n 1, 1, 0, 0), (92, .aload_n 0, 1, 0, 0), (93, .getfield 32, 3, 9, 3), (96, .arraylength, 1, 0, 0), (97, .if_icmp .ge 22, 3, 119, 0), (100, .aload_n 0, 1, 0, 0), (101, .getfield 32, 3, 9, 3), (104, .iload_n 1, 1, 0, 0), (105, .new 30, 3, 5, 0), (108, .dup, 1, 0, 0), (109, .invokespecial 36, 3, 35, 1), (112, .aastore, 1, 0, 0), (113, .iinc 1 1, 3, 0, 0), (116, .goto (-25), 3, 91, 0), (119, .iconst 0, 1, 0, 0), (120, .istore_n 1, 1, 0, 0), (121, .iload_n 1, 1, 0, 0), (122, .aload_n 0, 1, 0, 0), (123, .getfield 43, 3, 9, 5), (126, .arraylength, 1, 0, 0), (127, .if_icmp .ge 22, 3, 149, 0), (130, .aload_n 0, 1, 0, 0), (131, .getfield 43, 3, 9, 5), (134, .iload_n 1, 1, 0, 0), (135, .new 41, 3, 0, 0), (138, .dup, 1, 0, 0), (139, .invokespecial 63, 3, 0, 1), (142, .aastore, 1, 0, 0), (143, .iinc 1 1, 3, 0, 0), (146, .goto (-25), 3, 121, 0), (149, .iconst 0, 1, 0, 0), (150, .istore_n 1, 1, 0, 0), (151, .iload_n 1, 1, 0, 0), (152, .aload_n 0, 1, 0, 0), (153, .getfield 49, 3, 9, 6), (156, .arraylength, 1, 0, 0), (157, .if_icmp .ge 22, 3, 179, 0), (160, .aload_n 0, 1, 0, 0), (161, .getfield 49, 3, 9, 6), (164, .iload_n 1, 1, 0, 0), (165, .new 47, 3, 7, 0), (168, .dup, 1, 0, 0), (169, .invokespecial 64, 3, 57, 1), (172, .aastore, 1, 0, 0), (173, .iinc 1 1, 3, 0, 0), (176, .goto (-25), 3, 151, 0), (179, .return_, 1, 0, 0)]), (mX1_init, [(0, .aload_n 0, 1, 0, 0), (1, .invokespecial 3, 3, 999, 1), (4, .aload_n 0, 1, 0, 0), (5, .bipush 40, 2, 40, 0), (7, .newarray .char, 2, 24, 0), (9, .putfield 9, 3, 1, 0), (12, .aload_n 0, 1, 0, 0), (13, .iconst 0, 1, 0, 0), (14, .putfield 15, 3, 1, 1), (17, .return_, 1, 0, 0)]), (mX3_init, [(0, .aload_n 0, 1, 0, 0), (1, .invokespecial 3, 3, 999, 1), (4, .aload_n 0, 1, 0, 0), (5, .new 9, 3, 2, 0), (8, .dup, 1, 0, 0), (9, .invokespecial 11, 3, 7, 1), (12, .putfield 12, 3, 3, 0), (15, .aload_n 0, 1, 0, 0), (16, .bipush 40, 2, 40, 0), (18, .newarray .int, 2, 20, 0), (20, .putfield 18, 3, 3, 1), (23, .aload_n 0, 1, 0, 0), (24, .bipush 40, 2, 40, 0), (26, .newarray .int, 2, 20, 0), (28, .putfield 22, 3, 3, 2), (31, .aload_n 0, 1, 0, 0), (32, .iconst 0, 1, 0, 0), (33, .putfield 25, 3, 3, 3), (36, .aload_n 0, 1, 0, 0), (37, .iconst 0, 1, 0, 0), (38, .putfield 29, 3, 3, 4), (41, .aload_n 0, 1, 0, 0), (42, .iconst 0, 1, 0, 0), (43, .putfield 32, 3, 3, 5), (46, .aload_n 0, 1, 0, 0), (47, .iconst 0, 1, 0, 0), (48, .putfield 36, 3, 3, 6), (51, .aload_n 0, 1, 0, 0), (52, .iconst 0, 1, 0, 0), (53, .putfield 39, 3, 3, 7), (56, .aload_n 0, 1, 0, 0), (57, .iconst 0, 1, 0, 0), (58, .putfield 42, 3, 3, 8), (61, .aload_n 0, 1, 0, 0), (62, .iconst 0, 1, 0, 0), (63, .putfield 45, 3, 3, 9), (66, .return_, 1, 0, 0)]), (mX4_init, [(0, .aload_n 0, 1, 0, 0), (1, .invokespecial 3, 3, 999, 1), (4, .aload_n 0, 1, 0, 0), (5, .bipush 20, 2, 20, 0), (7, .newarray .float, 2, 22, 0), (9, .putfield 9, 3, 4, 0), (12, .aload_n 0, 1, 0, 0), (13, .bipush 40, 2, 40, 0), (15, .newarray .float, 2, 22, 0), (17, .putfield 15, 3, 4, 1), (20, .aload_n 0, 1, 0, 0), (21, .iconst 0, 1, 0, 0), (22, .putfield 18, 3, 4, 2), (25, .return_, 1, 0, 0)])]
def evc (k pc : Nat) : Option (Instr × Nat × Nat × Nat) := (am_find evL k).bind fun l => am_find l pc
set_option maxRecDepth 100000 in
theorem evL_ok : (evL.all fun e => e.2.all fun q => decide (am_rw e.1 q.1 = some q.2)) = true := by decide +kernel
theorem evc_ok {k pc : Nat} {w : Instr × Nat × Nat × Nat} (h : evc k pc = some w) : am_rw k pc = some w := by
  unfold evc at h
  obtain ⟨l, h1, h2⟩ := Option.bind_eq_some_iff.mp h
  have h3 := List.all_eq_true.mp evL_ok (k, l) (am_find_mem h1)
  exact of_decide_eq_true (List.all_eq_true.mp h3 (pc, w) (am_find_mem h2))
def er (m : Nat) (C : EC) (o : Nat) : Nat × Nat × List Int32 × List UInt32 × List (Option Nat) := am_nt C (m - 1 - o) ecd
def erI (m : Nat) (C : EC) (o j : Nat) (v : Int32) : EC := am_lm C (m - 1 - o) fun q => (q.1, q.2.1, am_ls q.2.2.1 j 0 v, q.2.2.2.1, q.2.2.2.2)
def erF (m : Nat) (C : EC) (o j : Nat) (v : UInt32) : EC := am_lm C (m - 1 - o) fun q => (q.1, q.2.1, q.2.2.1, am_ls q.2.2.2.1 j 0 v, q.2.2.2.2)
def erR (m : Nat) (C : EC) (o j : Nat) (v : Option Nat) : EC := am_lm C (m - 1 - o) fun q => (q.1, q.2.1, q.2.2.1, q.2.2.2.1, am_ls q.2.2.2.2 j none v)
def ern (C : EC) (kd n : Nat) : EC := (kd, n, [], [], []) :: C
def erg (m : Nat) (C : EC) (n : Nat) : EC := ern (ern (ern ((34, 3, [], [], [some (m + 1), some (m + 2), some (m + 3)]) :: C) 20 n) 20 n) 20 n
theorem am_nt_appL {α : Type} : ∀ (l r : List α) (j : Nat) (d : α), am_nt (l ++ r) j d = if j < l.length then am_nt l j d else am_nt r (j - l.length) d
  | [], r, j, d => rfl
  | a :: l, r, 0, d => by rw [if_pos (by simp)]; rfl
  | a :: l, r, j + 1, d => by
    show am_nt (l ++ r) j d = _
    rw [am_nt_appL l r j d]
    by_cases e : j < l.length
    · rw [if_pos e, if_pos (by simpa using e)]; rfl
    · rw [if_neg e, if_neg (by simpa using e)]
      congr 1
      simp
theorem am_nt_rev {α : Type} : ∀ (l : List α) (j : Nat) (d : α), j < l.length → am_nt l.reverse j d = am_nt l (l.length - 1 - j) d
  | [], j, d, h => absurd h (Nat.not_lt_zero j)
  | a :: l, j, d, h => by
    rw [List.reverse_cons, am_nt_appL, List.length_reverse]
    have h : j < l.length + 1 := h
    by_cases e : j < l.length
    · rw [if_pos e, am_nt_rev l j d e]
      have e2 : (a :: l).length - 1 - j = (l.length - 1 - j) + 1 := by
        show l.length + 1 - 1 - j = _
        omega
      rw [e2]
      rfl
    · have e2 : j = l.length := by omega
      rw [if_neg e, e2]
      have e3 : (a :: l).length - 1 - l.length = 0 := by
        show l.length + 1 - 1 - l.length = 0
        omega
      rw [e3, Nat.sub_self]
      rfl
theorem am_lm_appL {α : Type} (f : α → α) : ∀ (l : List α) (r : List α) (j : Nat), j < l.length → am_lm (l ++ r) j f = am_lm l j f ++ r
  | [], r, j, h => absurd h (Nat.not_lt_zero j)
  | a :: l, r, 0, h => rfl
  | a :: l, r, j + 1, h => congrArg (List.cons a) (am_lm_appL f l r j (Nat.lt_of_succ_lt_succ h))
theorem am_lm_appR {α : Type} (f : α → α) (x : α) : ∀ (l : List α), am_lm (l ++ [x]) l.length f = l ++ [f x]
  | [] => rfl
  | a :: l => congrArg (List.cons a) (am_lm_appR f x l)
theorem am_lm_rev {α : Type} (f : α → α) : ∀ (l : List α) (j : Nat), j < l.length → am_lm l.reverse j f = (am_lm l (l.length - 1 - j) f).reverse
  | [], j, h => absurd h (Nat.not_lt_zero j)
  | a :: l, j, h => by
    have h : j < l.length + 1 := h
    rw [List.reverse_cons]
    by_cases e : j < l.length
    · have e2 : (a :: l).length - 1 - j = (l.length - 1 - j) + 1 := by
        show l.length + 1 - 1 - j = _
        omega
      rw [e2, am_lm_appL f _ _ j (by rw [List.length_reverse]; exact e), am_lm_rev f l j e]
      show _ = (a :: am_lm l (l.length - 1 - j) f).reverse
      rw [List.reverse_cons]
    · have e2 : j = l.length := by omega
      subst e2
      have e3 : (a :: l).length - 1 - l.length = 0 := by
        show l.length + 1 - 1 - l.length = 0
        omega
      rw [e3]
      have h4 := am_lm_appR f a l.reverse
      rw [List.length_reverse] at h4
      rw [h4]
      show _ = (f a :: l).reverse
      rw [List.reverse_cons]
section EVR
variable {X : Nat × (Nat → Int32)} {m : Nat} {C : EC} (hm : C.length = m)
theorem er_eq {m : Nat} {C : EC} (hm : C.length = m) {o : Nat} (ho : o < m) : eg C.reverse o = er m C o := by
  subst hm
  exact am_nt_rev C o ecd ho
theorem er_sI {m : Nat} {C : EC} (hm : C.length = m) {o j : Nat} {v : Int32} (ho : o < m) : sI (ec X C.reverse) o j v = ec X (erI m C o j v).reverse := by
  subst hm
  rw [ec_sI (by rw [List.length_reverse]; exact ho)]
  exact congrArg (ec X) (am_lm_rev _ C o ho)
theorem er_sF {m : Nat} {C : EC} (hm : C.length = m) {o j : Nat} {v : UInt32} (ho : o < m) : sF (ec X C.reverse) o j v = ec X (erF m C o j v).reverse := by
  subst hm
  rw [ec_sF (by rw [List.length_reverse]; exact ho)]
  exact congrArg (ec X) (am_lm_rev _ C o ho)
theorem er_sR {m : Nat} {C : EC} (hm : C.length = m) {o j : Nat} {v : Option Nat} (ho : o < m) : sR (ec X C.reverse) o j v = ec X (erR m C o j v).reverse := by
  subst hm
  rw [ec_sR (by rw [List.length_reverse]; exact ho)]
  exact congrArg (ec X) (am_lm_rev _ C o ho)
theorem er_new {C : EC} {kd n : Nat} : hnew (ec X C.reverse) kd n = ec X (ern C kd n).reverse := by
  rw [ec_new]
  unfold ern
  rw [List.reverse_cons]
  rfl
theorem er_hn {m : Nat} {C : EC} (hm : C.length = m) : hn (ec X C.reverse) = m := by
  rw [ec_n, List.length_reverse, hm]
end EVR
def ercv (m : Nat) (C : EC) (y : Nat) (as : List Value) : Bool := match as with
  | .ref o :: _ => Nat.blt o m && Nat.beq (er m C o).1 (am_oc y) && !(Nat.beq (am_oc y) 15) && !(Nat.beq (am_st y) 1)
  | _ => false
theorem ercv_ok {X : Nat × (Nat → Int32)} {m : Nat} {C : EC} (hm : C.length = m) {y : Nat} {as : List Value} (h : ercv m C y as = true) : am_rcv (ec X C.reverse) y as := by
  unfold ercv at h
  split at h
  · rename_i o r
    simp only [Bool.and_eq_true, Bool.not_eq_true'] at h
    obtain ⟨⟨⟨h1, h2⟩, h3⟩, h4⟩ := h
    have h5 : am_is (ec X C.reverse) o (am_oc y) := ⟨by rw [er_hn hm]; exact Nat.blt_eq.mp h1, by show (eg C.reverse o).1 = _; rw [er_eq hm (Nat.blt_eq.mp h1)]; exact Nat.eq_of_beq_eq_true h2⟩
    unfold am_rcv
    split
    · trivial
    · show (match am_oc y with
        | 15 => o = 1000001
        | c => am_is (ec X C.reverse) o c)
      split
      · rename_i e; rw [e] at h3; cases h3
      · exact h5
  · cases h
def ev : Nat → Nat → Nat → List (Option Value) → List Value → Nat → EC → Nat → Nat → Option (Option Value × Nat × EC)
  | 0, _, _, _, _, _, _, _, _ => none
  | n + 1, k, pc, L, st, m, C, c, s => match evc k pc with
    | none => none
    | some (i, _, a, b) => match i with
      | .aload_n j => (match am_nth L j with
        | some (.ref x) => ev n k (pc + 1) L (.ref x :: st) m C c s
        | _ => none)
      | .iload_n j => (match am_nth L j with
        | some (.int x) => ev n k (pc + 1) L (.int x :: st) m C c s
        | _ => none)
      | .istore_n j => (match st with
        | .int x :: r => if Nat.blt j (am_ml k) = true ∧ am_nlB L j = true then ev n k (pc + 1) (am_set L j (some (.int x))) r m C c s else none
        | _ => none)
      | .iinc j d => (match am_nth L j with
        | some (.int x) => if Nat.blt j (am_ml k) = true ∧ am_nlB L j = true then ev n k (pc + 3) (am_set L j (some (.int (x + Int32.ofInt d)))) st m C c s else none
        | _ => none)
      | .iconst _ => ev n k (pc + 1) L (.int (am_kc a b) :: st) m C c s
      | .bipush _ => ev n k (pc + 2) L (.int (am_kc a b) :: st) m C c s
      | .sipush _ => ev n k (pc + 3) L (.int (am_kc a b) :: st) m C c s
      | .lconst j => ev n k (pc + 1) L (.long (lN j) :: st) m C c s
      | .fconst j => ev n k (pc + 1) L (.float (am_fc j) :: st) m C c s
      | .dup => (match st with
        | v :: r => if am_oneB v = true then ev n k (pc + 1) L (v :: v :: r) m C c s else none
        | [] => none)
      | .goto _ => ev n k a L st m C c s
      | .if_icmp cd _ => (match cd, st with
        | .ge, .int y :: .int x :: r => if y ≤ x then ev n k a L r m C c s else ev n k (pc + 3) L r m C c s
        | _, _ => none)
      | .getfield _ => (match st with
        | .ref o :: r => if Nat.beq a 20 = false ∧ am_ft a b = 3 ∧ o < m ∧ (er m C o).1 = a then (match am_nt (er m C o).2.2.2.2 b none with
            | some x => ev n k (pc + 3) L (.ref x :: r) m C c s
            | none => none) else none
        | _ => none)
      | .putfield _ => (match st with
        | .int x :: .ref o :: r => if am_ft a b = 0 ∧ (am_fz a b = 0 ∨ x = 0 ∨ x = 1) ∧ o < m ∧ (er m C o).1 = a then ev n k (pc + 3) L r m (erI m C o b x) c s else none
        | .long x :: .ref o :: r => if am_ft a b = 1 ∧ x = 0 ∧ o < m ∧ (er m C o).1 = a then ev n k (pc + 3) L r m C c s else none
        | .float x :: .ref o :: r => if am_ft a b = 2 ∧ o < m ∧ (er m C o).1 = a then ev n k (pc + 3) L r m (erF m C o b x) c s else none
        | .ref x :: .ref o :: r => if am_ft a b = 3 ∧ x < m ∧ o < m ∧ (er m C o).1 = a then ev n k (pc + 3) L r m (erR m C o b (some x)) c s else none
        | _ => none)
      | .new _ => if m + 4 ≤ 1000000 ∧ c + 1 ≤ am_bc k ∧ s + am_nf a ≤ am_bs k then ev n k (pc + 3) L (.ref m :: st) (m + 1) (ern C a 0) (c + 1) (s + am_nf a) else none
      | .newarray _ => (match st with
        | .int x :: r => if ¬ x < 0 ∧ x.toNatClampNeg ≤ 20000 ∧ m + 4 ≤ 1000000 ∧ c + 1 ≤ am_bc k ∧ s + x.toNatClampNeg ≤ am_bs k then ev n k (pc + 2) L (.ref m :: r) (m + 1) (ern C a x.toNatClampNeg) (c + 1) (s + x.toNatClampNeg) else none
        | _ => none)
      | .anewarray _ => (match st with
        | .int x :: r => if ¬ x < 0 ∧ x.toNatClampNeg ≤ 20000 ∧ m + 4 ≤ 1000000 ∧ c + 1 ≤ am_bc k ∧ s + x.toNatClampNeg ≤ am_bs k then ev n k (pc + 3) L (.ref m :: r) (m + 1) (ern C a x.toNatClampNeg) (c + 1) (s + x.toNatClampNeg) else none
        | _ => none)
      | .multianewarray _ _ => (match st with
        | .int x :: .int y :: r => if y = 3 ∧ ¬ x < 0 ∧ x.toNatClampNeg ≤ 20000 ∧ m + 4 ≤ 1000000 ∧ c + 4 ≤ am_bc k ∧ s + (3 + 3 * x.toNatClampNeg) ≤ am_bs k then ev n k (pc + 4) L (.ref m :: r) (m + 4) (erg m C x.toNatClampNeg) (c + 4) (s + (3 + 3 * x.toNatClampNeg)) else none
        | _ => none)
      | .arraylength => (match st with
        | .ref o :: r => if a = 0 ∧ o < m ∧ 20 ≤ (er m C o).1 then ev n k (pc + 1) L (.int (nI (er m C o).2.1) :: r) m C c s else none
        | _ => none)
      | .iastore => (match st with
        | .int x :: .int j :: .ref o :: r => if o < m ∧ (er m C o).1 = 20 ∧ ¬ (j < 0 ∨ (er m C o).2.1 ≤ j.toNatClampNeg) then ev n k (pc + 1) L r m (erI m C o j.toNatClampNeg x) c s else none
        | _ => none)
      | .fastore => (match st with
        | .float x :: .int j :: .ref o :: r => if o < m ∧ (er m C o).1 = 22 ∧ ¬ (j < 0 ∨ (er m C o).2.1 ≤ j.toNatClampNeg) then ev n k (pc + 1) L r m (erF m C o j.toNatClampNeg x) c s else none
        | _ => none)
      | .aastore => (match st with
        | .ref x :: .int j :: .ref o :: r => if (o < m ∧ 30 ≤ (er m C o).1 ∧ (er m C o).1 ≤ 33 ∧ ¬ (j < 0 ∨ (er m C o).2.1 ≤ j.toNatClampNeg)) ∧ x < m ∧ (er m C x).1 = am_el (er m C o).1 then ev n k (pc + 1) L r m (erR m C o j.toNatClampNeg (some x)) c s else none
        | _ => none)
      | .invokespecial _ => (match Nat.beq a 999 with
        | true => (match st with
          | .ref _ :: r => if am_cats r ≤ 8 then ev n k (pc + 3) L r m C c s else none
          | _ => none)
        | false => (match am_popf b st [] with
          | none => none
          | some (as, r) => if Nat.beq a 998 = false ∧ am_cats r ≤ 8 ∧ as.all am_oneB = true ∧ ercv m C a as = true ∧ c + am_bc a ≤ am_bc k ∧ s + am_bs a ≤ am_bs k then (match ev n a 0 (am_ent (am_ml a) as) [] m C 0 0 with
              | some (none, m1, C1) => ev n k (pc + 3) L r m1 C1 (c + am_bc a) (s + am_bs a)
              | _ => none) else none))
      | .return_ => (match st with
        | [] => some (none, m, C)
        | _ => none)
      | _ => none
section EVL
variable {X : Nat × (Nat → Int32)} {m : Nat} {C : EC}
theorem er_is (hm : C.length = m) {o a : Nat} (h1 : o < m) (h2 : (er m C o).1 = a) : am_is (ec X C.reverse) o a := ⟨by rw [er_hn hm]; exact h1, by show (eg C.reverse o).1 = a; rw [er_eq hm h1]; exact h2⟩
theorem er_at (hm : C.length = m) {o a : Nat} {j : Int32} (h1 : o < m) (h2 : (er m C o).1 = a) (h3 : ¬ (j < 0 ∨ (er m C o).2.1 ≤ j.toNatClampNeg)) : am_at (ec X C.reverse) o a j := ⟨by rw [er_hn hm]; exact h1, by show (eg C.reverse o).1 = a; rw [er_eq hm h1]; exact h2, by show ¬ (j < 0 ∨ (eg C.reverse o).2.1 ≤ j.toNatClampNeg); rw [er_eq hm h1]; exact h3⟩
theorem er_R (hm : C.length = m) {o b x : Nat} (h1 : o < m) (h2 : am_nt (er m C o).2.2.2.2 b none = some x) : hR (ec X C.reverse) o b = some x := by
  show am_nt (eg C.reverse o).2.2.2.2 b none = some x
  rw [er_eq hm h1]
  exact h2
theorem er_lI (hm : C.length = m) {o j : Nat} {v : Int32} : (erI m C o j v).length = m := (am_lm_len _ _ _).trans hm
theorem er_lF (hm : C.length = m) {o j : Nat} {v : UInt32} : (erF m C o j v).length = m := (am_lm_len _ _ _).trans hm
theorem er_lR (hm : C.length = m) {o j : Nat} {v : Option Nat} : (erR m C o j v).length = m := (am_lm_len _ _ _).trans hm
theorem er_ln (hm : C.length = m) {kd n : Nat} : (ern C kd n).length = m + 1 := congrArg Nat.succ hm
theorem er_lg (hm : C.length = m) {n : Nat} : (erg m C n).length = m + 4 := congrArg (· + 4) hm
theorem er_grid (hm : C.length = m) {n : Nat} : hgrid (ec X C.reverse) n = ec X (erg m C n).reverse := by
  subst hm
  rw [ec_grid]
  refine congrArg (ec X) ?_
  unfold egr erg ern
  have e : enw (enw (enw (enw C.reverse 34 3) 20 n) 20 n) 20 n = ((20, n, [], [], []) :: (20, n, [], [], []) :: (20, n, [], [], []) :: (34, 3, [], [], []) :: C).reverse := by
    unfold enw
    simp only [List.reverse_cons]
  rw [e, List.length_reverse]
  have k : ∀ (a : Nat × Nat × List Int32 × List UInt32 × List (Option Nat)) (f : (Nat × Nat × List Int32 × List UInt32 × List (Option Nat)) → (Nat × Nat × List Int32 × List UInt32 × List (Option Nat))) (u v w : Nat × Nat × List Int32 × List UInt32 × List (Option Nat)), am_lm (u :: v :: w :: a :: C).reverse C.length f = (u :: v :: w :: f a :: C).reverse := by
    intro a f u v w
    rw [am_lm_rev f _ _ (by show C.length < C.length + 1 + 1 + 1 + 1; omega)]
    have e9 : (u :: v :: w :: a :: C).length - 1 - C.length = 3 := by
      show C.length + 1 + 1 + 1 + 1 - 1 - C.length = 3
      omega
    rw [e9]
    rfl
  unfold esR
  rw [k, k, k]
  rfl
end EVL
set_option maxHeartbeats 4000000 in
theorem ev_ok (X : Nat × (Nat → Int32)) : ∀ (n k pc : Nat) (L : List (Option Value)) (st : List Value) (m : Nat) (C : EC) (c s : Nat) (v : Option Value) (m' : Nat) (C' : EC), C.length = m → ev n k pc L st m C c s = some (v, m', C') → ∀ Q : AQ, (C'.length = m' → Q (.inl v) (ec X C'.reverse)) → WP k pc L st (ec X C.reverse) c s Q := by
  intro n
  induction n with
  | zero => intro k pc L st m C c s v m' C' hm h; cases h
  | succ n ih =>
    intro k pc L st m C c s v m' C' hm h Q hQ
    unfold ev at h
    cases hr0 : evc k pc with
    | none => rw [hr0] at h; cases h
    | some w =>
      rw [hr0] at h
      have hr := evc_ok hr0
      obtain ⟨i, len, a, b⟩ := w
      refine WP.go hr ?_
      dsimp only at h
      cases i with
      | aload_n j =>
        dsimp only at h
        split at h
        · rename_i x e
          show am_oref _ _
          rw [e]
          exact ih _ _ _ _ _ _ _ _ _ _ _ hm h Q hQ
        · cases h
      | iload_n j =>
        dsimp only at h
        split at h
        · rename_i x e
          show am_oint _ _
          rw [e]
          exact ih _ _ _ _ _ _ _ _ _ _ _ hm h Q hQ
        · cases h
      | istore_n j =>
        dsimp only at h
        split at h
        · split at h
          · rename_i e
            exact ⟨Nat.blt_eq.mp e.1, am_nlB_ok e.2, ih _ _ _ _ _ _ _ _ _ _ _ hm h Q hQ⟩
          · cases h
        · cases h
      | iinc j d =>
        dsimp only at h
        split at h
        · rename_i x e0
          split at h
          · rename_i e
            show am_oint _ _
            rw [e0]
            exact ⟨Nat.blt_eq.mp e.1, am_nlB_ok e.2, ih _ _ _ _ _ _ _ _ _ _ _ hm h Q hQ⟩
          · cases h
        · cases h
      | iconst _ => exact ih _ _ _ _ _ _ _ _ _ _ _ hm h Q hQ
      | bipush _ => exact ih _ _ _ _ _ _ _ _ _ _ _ hm h Q hQ
      | sipush _ => exact ih _ _ _ _ _ _ _ _ _ _ _ hm h Q hQ
      | lconst _ => exact ih _ _ _ _ _ _ _ _ _ _ _ hm h Q hQ
      | fconst j =>
        have q : WP k (pc + 1) L (.float (am_fc j) :: st) (ec X C.reverse) c s Q := ih _ _ _ _ _ _ _ _ _ _ _ hm h Q hQ
        exact q
      | dup =>
        dsimp only at h
        split at h
        · split at h
          · rename_i e
            exact ⟨am_oneB_ok e, ih _ _ _ _ _ _ _ _ _ _ _ hm h Q hQ⟩
          · cases h
        · cases h
      | goto _ => exact ih _ _ _ _ _ _ _ _ _ _ _ hm h Q hQ
      | if_icmp cd _ =>
        dsimp only at h
        split at h
        · rename_i y x r
          split at h
          · rename_i e
            exact ⟨fun _ => ih _ _ _ _ _ _ _ _ _ _ _ hm h Q hQ, fun q => absurd e q⟩
          · rename_i e
            exact ⟨fun q => absurd q e, fun _ => ih _ _ _ _ _ _ _ _ _ _ _ hm h Q hQ⟩
        · cases h
      | getfield _ =>
        dsimp only at h
        split at h
        · split at h
          · rename_i o r e
            obtain ⟨e1, e2, e3, e4⟩ := e
            split at h
            · rename_i x e5
              dsimp only [am_x, am_r1]
              split
              · cases e1
              · exact ⟨er_is hm e3 e4, by rw [e2]; exact ⟨x, er_R hm e3 e5, ih _ _ _ _ _ _ _ _ _ _ _ hm h Q hQ⟩⟩
            · cases h
          · cases h
        · cases h
      | putfield _ =>
        dsimp only at h
        dsimp only [am_x, am_vr]
        split at h
        · split at h
          · rename_i x o r e
            obtain ⟨e1, e2, e3, e4⟩ := e
            refine ⟨er_is hm e3 e4, ?_⟩
            rw [e1]
            refine ⟨?_, ?_⟩
            · unfold am_b01
              split
              · trivial
              · rename_i z
                rcases e2 with e2 | e2 | e2
                · exact absurd e2 z
                · exact Or.inl e2
                · exact Or.inr e2
            · rw [er_sI hm e3]
              exact ih _ _ _ _ _ _ _ _ _ _ _ (er_lI hm) h Q hQ
          · cases h
        · split at h
          · rename_i x o r e
            obtain ⟨e1, e2, e3, e4⟩ := e
            refine ⟨er_is hm e3 e4, ?_⟩
            rw [e1]
            subst e2
            have q : WP k (pc + 3) L r (sL (ec X C.reverse) o b 0) c s Q := by
              rw [ec_sL]
              exact ih _ _ _ _ _ _ _ _ _ _ _ hm h Q hQ
            exact q
          · cases h
        · split at h
          · rename_i x o r e
            obtain ⟨e1, e3, e4⟩ := e
            refine ⟨er_is hm e3 e4, ?_⟩
            rw [e1]
            have q : WP k (pc + 3) L r (sF (ec X C.reverse) o b x) c s Q := by
              rw [er_sF hm e3]
              exact ih _ _ _ _ _ _ _ _ _ _ _ (er_lF hm) h Q hQ
            exact q
          · cases h
        · split at h
          · rename_i x o r e
            obtain ⟨e1, e2, e3, e4⟩ := e
            refine ⟨er_is hm e3 e4, ?_⟩
            rw [e1]
            have q : WP k (pc + 3) L r (sR (ec X C.reverse) o b (some x)) c s Q := by
              rw [er_sR hm e3]
              exact ih _ _ _ _ _ _ _ _ _ _ _ (er_lR hm) h Q hQ
            exact ⟨by rw [er_hn hm]; exact e2, q⟩
          · cases h
        · cases h
      | new _ =>
        dsimp only at h
        split at h
        · rename_i e
          refine ⟨⟨by rw [er_hn hm]; exact e.1, e.2.1, e.2.2⟩, ?_⟩
          rw [er_new, er_hn hm]
          exact ih _ _ _ _ _ _ _ _ _ _ _ (er_ln hm) h Q hQ
        · cases h
      | newarray _ =>
        dsimp only at h
        split at h
        · split at h
          · rename_i e
            refine ⟨e.1, e.2.1, ⟨by rw [er_hn hm]; exact e.2.2.1, e.2.2.2.1, e.2.2.2.2⟩, ?_⟩
            rw [er_new, er_hn hm]
            exact ih _ _ _ _ _ _ _ _ _ _ _ (er_ln hm) h Q hQ
          · cases h
        · cases h
      | anewarray _ =>
        dsimp only at h
        split at h
        · split at h
          · rename_i e
            refine ⟨e.1, e.2.1, ⟨by rw [er_hn hm]; exact e.2.2.1, e.2.2.2.1, e.2.2.2.2⟩, ?_⟩
            rw [er_new, er_hn hm]
            exact ih _ _ _ _ _ _ _ _ _ _ _ (er_ln hm) h Q hQ
          · cases h
        · cases h
      | multianewarray _ _ =>
        dsimp only at h
        split at h
        · split at h
          · rename_i e
            refine ⟨e.1, e.2.1, e.2.2.1, ⟨by rw [er_hn hm]; exact e.2.2.2.1, e.2.2.2.2.1, e.2.2.2.2.2⟩, ?_⟩
            rw [er_grid hm, er_hn hm]
            exact ih _ _ _ _ _ _ _ _ _ _ _ (er_lg hm) h Q hQ
          · cases h
        · cases h
      | arraylength =>
        dsimp only at h
        split at h
        · split at h
          · rename_i o r e
            obtain ⟨e1, e2, e3⟩ := e
            subst e1
            have e4 : hN (ec X C.reverse) o = (er m C o).2.1 := by
              show (eg C.reverse o).2.1 = _
              rw [er_eq hm e2]
            refine ⟨⟨by rw [er_hn hm]; exact e2, by show 20 ≤ (eg C.reverse o).1; rw [er_eq hm e2]; exact e3⟩, ?_⟩
            rw [e4]
            exact ih _ _ _ _ _ _ _ _ _ _ _ hm h Q hQ
          · cases h
        · cases h
      | iastore =>
        dsimp only at h
        split at h
        · split at h
          · rename_i e
            refine ⟨er_at hm e.1 e.2.1 e.2.2, ?_⟩
            have q := ih _ _ _ _ _ _ _ _ _ _ _ (er_lI hm) h Q hQ
            rw [← er_sI hm e.1] at q
            exact q
          · cases h
        · cases h
      | fastore =>
        dsimp only at h
        split at h
        · split at h
          · rename_i e
            refine ⟨er_at hm e.1 e.2.1 e.2.2, ?_⟩
            have q := ih _ _ _ _ _ _ _ _ _ _ _ (er_lF hm) h Q hQ
            rw [← er_sF hm e.1] at q
            exact q
          · cases h
        · cases h
      | aastore =>
        dsimp only at h
        split at h
        · split at h
          · rename_i x j o r e
            obtain ⟨⟨e1, e2, e3, e4⟩, e5, e6⟩ := e
            have k1 : hK (ec X C.reverse) o = (er m C o).1 := by
              show (eg C.reverse o).1 = _
              rw [er_eq hm e1]
            have k2 : hN (ec X C.reverse) o = (er m C o).2.1 := by
              show (eg C.reverse o).2.1 = _
              rw [er_eq hm e1]
            have k3 : hK (ec X C.reverse) x = (er m C x).1 := by
              show (eg C.reverse x).1 = _
              rw [er_eq hm e5]
            have q := ih _ _ _ _ _ _ _ _ _ _ _ (er_lR hm) h Q hQ
            rw [← er_sR hm e1] at q
            exact ⟨⟨by rw [er_hn hm]; exact e1, by rw [k1]; exact e2, by rw [k1]; exact e3, by rw [k2]; exact e4⟩, ⟨by rw [er_hn hm]; exact e5, by rw [k1, k3]; exact e6⟩, q⟩
          · cases h
        · cases h
      | invokespecial _ =>
        dsimp only at h
        split at h
        · rename_i ea
          have ea := Nat.eq_of_beq_eq_true ea
          subst ea
          split at h
          · split at h
            · rename_i e
              exact ⟨e, ih _ _ _ _ _ _ _ _ _ _ _ hm h Q hQ⟩
            · cases h
          · cases h
        · rename_i ea
          split at h
          · cases h
          · rename_i as r ep
            split at h
            · rename_i e
              obtain ⟨e1, e2, e3, e4, e5, e6⟩ := e
              split at h
              · rename_i m1 C1 e7
                refine w_inv ea e1 ep e2 (am_onesB_ok e3) (ercv_ok hm e4) e5 e6 (ih _ _ _ _ _ _ _ _ _ _ _ hm e7 _ (fun hm1 => ?_))
                exact ih _ _ _ _ _ _ _ _ _ _ _ hm1 h Q hQ
              · cases h
            · cases h
      | return_ =>
        dsimp only at h
        split at h
        · cases h
          exact hQ hm
        · cases h
      | _ => cases h
