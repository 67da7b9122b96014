/-! own: what the tables say is so, by decision -/
def am_WS : List Jvm.Cond := lw_tbl.filter goodWord
def am_in (x : Jvm.Cond) : Prop := x ∈ am_WS
theorem am_in_of {i : Nat} {x : Jvm.Cond} (h : lw_tbl[i]? = some x) (hg : goodWord x = true) : am_in x := List.mem_filter.mpr ⟨List.mem_of_getElem? h, hg⟩
theorem am_find_mem {α : Type} : ∀ {l : List (Nat × α)} {q : Nat} {x : α}, am_find l q = some x → (q, x) ∈ l
  | [], q, x, h => by cases h
  | e :: l, q, x, h => by
    unfold am_find at h
    cases hb : Nat.beq e.1 q with
    | true =>
      rw [hb] at h
      have h1 : e.1 = q := Nat.eq_of_beq_eq_true hb
      have h2 : e.2 = x := Option.some.inj h
      rw [← h1, ← h2]
      exact List.mem_cons_self
    | false =>
      rw [hb] at h
      exact List.mem_cons_of_mem _ (am_find_mem h)
def am_get (i : Nat) (x : Jvm.Cond) : Bool := decide (lw_tbl[i]? = some x) && goodWord x
theorem am_get_in {i : Nat} {x : Jvm.Cond} (h : am_get i x = true) : am_in x := by
  unfold am_get at h
  simp only [Bool.and_eq_true, decide_eq_true_eq] at h
  exact am_in_of h.1 h.2
def am_fldB (e : Nat × Nat × Nat × Nat) : Bool := am_get e.2.2.2 (.fieldLink (am_R (e.1 / 10000)) (e.1 % 10000) (am_TX e.2.1 e.2.2.1).1 (am_TX e.2.1 e.2.2.1).2.1 (am_TX e.2.1 e.2.2.1).2.2.1) && Nat.blt e.2.1 11 && Nat.blt e.2.2.1 (am_nf e.2.1)
set_option maxRecDepth 100000 in
theorem am_fld_ok : am_fldL.all am_fldB = true := by decide +kernel
/-- words that a warmed machine keeps, but that the kit's good ones are not -/
def am_nw : Jvm.Cond → Bool
  | .declares _ => true
  | .castable _ _ => true
  | .methodLinkNest _ _ _ _ => true
  | _ => false
def am_NW : List Jvm.Cond := lw_tbl.filter am_nw
def am_getN (i : Nat) (x : Jvm.Cond) : Bool := decide (lw_tbl[i]? = some x) && am_nw x
theorem am_getN_in {i : Nat} {x : Jvm.Cond} (h : am_getN i x = true) : x ∈ am_NW := by
  unfold am_getN at h
  simp only [Bool.and_eq_true, decide_eq_true_eq] at h
  exact List.mem_filter.mpr ⟨List.mem_of_getElem? h.1, h.2⟩
theorem am_nw_warm {w : Jvm.Cond} (h : am_nw w = true) {s U : State} (hW : s.WarmedH U.vm) (hZ : va_Nw w s) : va_Nw w U := by
  cases w <;> first | exact absurd (show false = true from h) Bool.false_ne_true | skip
  case declares x => exact hZ.warmD hW
  case castable a b => exact hZ.warmC hW
  case methodLinkNest a b x z => exact hZ.warmM hW
theorem am_nw_tab {w : Jvm.Cond} (h : am_nw w = true) : w.onTables = true := by
  cases w <;> first | exact absurd (show false = true from h) Bool.false_ne_true | rfl
def am_mthB (e : Nat × Nat × Nat × Nat × Nat) : Bool := if Nat.blt e.2.2.2.1 10 then am_get e.2.2.2.2 (.methodLink (am_R (e.1 / 10000)) (e.1 % 10000) (am_y e.2.1)) else am_getN e.2.2.2.2 (.methodLinkNest (am_R (e.1 / 10000)) (e.1 % 10000) (am_y e.2.1) RX9)
set_option maxRecDepth 100000 in
theorem am_mth_ok : am_mthL.all am_mthB = true := by decide +kernel
def am_cpn (a : Nat) : String := match a with
  | 30 => RX8
  | 31 => RX5
  | 32 => RX0
  | 33 => RX7
  | 34 => "[[I"
  | 100 => "java/lang/IndexOutOfBoundsException"
  | 101 => "java/lang/IllegalArgumentException"
  | 102 => "java/lang/IllegalStateException"
  | a => am_R a
def am_cpcB (e : Nat × Nat × Nat) : Bool := am_get e.2.2 (.classLink (am_R (e.1 / 10000)) (e.1 % 10000) (am_cpn e.2.1))
set_option maxRecDepth 100000 in
theorem am_cpc_ok : am_cpcL.all am_cpcB = true := by decide +kernel
set_option maxRecDepth 100000 in
theorem am_cpq_ok : am_cpqL.all am_cpcB = true := by decide +kernel
def am_cstB (e : Nat × Nat × Nat × Nat) : Bool := am_get e.2.2.2 (match e.2.1 with
  | 0 => .constant (am_R (e.1 / 10000)) (e.1 % 10000) (nI e.2.2.1)
  | 1 => .constantFloat (am_R (e.1 / 10000)) (e.1 % 10000) (UInt32.ofNat e.2.2.1)
  | _ => .constant (am_R (e.1 / 10000)) (e.1 % 10000) (-(nI e.2.2.1)))
set_option maxRecDepth 100000 in
theorem am_cst_ok : am_cstL.all am_cstB = true := by decide +kernel
def am_oiB (e : Nat × Nat) : Bool := am_get e.2 (.methodLink (am_R (e.1 / 10000)) (e.1 % 10000) objectInit)
set_option maxRecDepth 100000 in
theorem am_oi_ok : am_oiL.all am_oiB = true := by decide +kernel
/-- the words of a method itself -/
def am_cw (k : Nat) : Jvm.Cond := if (am_hh k).isEmpty then .code (am_y k) (am_cc k) (am_ml k) (am_rt k) else .codeWith (am_y k) (am_cc k) (am_ml k) (am_rt k) (am_hh k)
def am_wy (k : Nat) : Nat × Nat × Nat × Nat := am_nt am_wyL k (0, 0, 0, 0)
def am_pB (k : Nat) : Bool := am_get (am_wy k).2.1 (if Nat.beq (am_st k) 1 then .static (am_y k) else .instanceMethod (am_y k)) && am_get (am_wy k).2.2.2 (.initialized (am_y k).cls) && decide ((am_y k).cls = am_R (am_oc k)) && decide ((am_y k).cls ≠ "java/lang/invoke/MethodHandle") && decide ((am_y k).cls ≠ "java/lang/invoke/VarHandle") && plainFor (am_y k)
set_option maxRecDepth 100000 in
theorem am_p_ok : (List.range 214).all am_pB = true := by decide +kernel
/-- the methods that are chosen by the receiver's class -/
def am_vL : List Nat := [1, 4, 5, 6, 8, 9, 10, 11, 13, 14, 15, 16, 17, 18, 19, 20, 21, 22, 23, 24, 25, 26, 27, 30, 31, 33, 34, 36, 38, 39, 40, 41, 42, 43, 44, 45, 46, 47, 48, 49, 50, 51, 52, 53, 54, 55, 56, 60, 61, 62, 63, 64, 65, 66, 67, 68, 69, 70, 71, 72, 73, 74, 75, 76, 77, 78, 79, 80, 81, 82, 83, 84, 85, 86, 87, 90, 91, 92, 93, 94, 95, 96, 97, 98, 101, 102, 106, 107, 113, 114, 116, 117, 119, 120, 121, 122, 123, 124, 125, 126, 127, 128, 129, 130, 131, 132, 133, 134, 135, 136, 137, 138, 139, 140, 141, 142, 143, 144, 145, 146, 147, 148, 149, 150, 151, 152, 153, 154, 155, 156, 157, 158, 159, 160, 161, 162, 163, 164, 165, 166, 167, 168, 169, 170, 171, 172, 173, 174, 175, 181, 182, 183, 184, 185]
def am_vB (k : Nat) : Bool := am_get (am_wy k).2.2.1 (.selects (am_y k).cls (am_y k) (am_y k))
set_option maxRecDepth 100000 in
theorem am_v_ok : am_vL.all am_vB = true := by decide +kernel
def am_clsB (c : Nat) : Bool := (u_ws (am_R c) (am_TX c) (am_nf c)).all (fun x => decide (x ∈ lw_tbl) && goodWord x)
set_option maxRecDepth 100000 in
theorem am_cls_ok : (List.range 11).all am_clsB = true := by decide +kernel
def am_dv (t : Nat) : Value := match t with
  | 0 => .int 0
  | 1 => .long 0
  | 2 => .float 0
  | _ => .null
def am_tyB (c : Nat) : Bool := (List.range (am_nf c)).all fun j => decide (defaultValue (am_tyX c j) = am_dv (am_ft c j)) && (match am_ft c j with
  | 0 => (if Nat.beq (am_fz c j) 1 then decide (am_tyX c j = .boolean) else decide (am_tyX c j = .int))
  | 1 => decide (am_tyX c j = .long)
  | 2 => decide (am_tyX c j = .float)
  | _ => am_tyX c j matches .object _ | .array _)
set_option maxRecDepth 100000 in
theorem am_ty_ok : (List.range 11).all am_tyB = true := by decide +kernel
set_option maxRecDepth 100000 in
theorem am_cw_X0_init : am_in (am_cw mX0_init) := am_in_of (i := 306) rfl rfl
set_option maxRecDepth 100000 in
theorem am_cw_X0_letThrough : am_in (am_cw mX0_letThrough) := am_in_of (i := 1086) rfl rfl
set_option maxRecDepth 100000 in
theorem am_cw_X1_init : am_in (am_cw mX1_init) := am_in_of (i := 107) rfl rfl
set_option maxRecDepth 100000 in
theorem am_cw_X1_mayHold : am_in (am_cw mX1_mayHold) := am_in_of (i := 575) rfl rfl
set_option maxRecDepth 100000 in
theorem am_cw_X1_isFull : am_in (am_cw mX1_isFull) := am_in_of (i := 732) rfl rfl
set_option maxRecDepth 100000 in
theorem am_cw_X1_add : am_in (am_cw mX1_add) := am_in_of (i := 752) rfl rfl
set_option maxRecDepth 100000 in
theorem am_cw_X1_clear : am_in (am_cw mX1_clear) := am_in_of (i := 431) rfl rfl
set_option maxRecDepth 100000 in
theorem am_cw_X2_init : am_in (am_cw mX2_init) := am_in_of (i := 129) rfl rfl
set_option maxRecDepth 100000 in
theorem am_cw_X2_clear : am_in (am_cw mX2_clear) := am_in_of (i := 443) rfl rfl
set_option maxRecDepth 100000 in
theorem am_cw_X2_add : am_in (am_cw mX2_add) := am_in_of (i := 475) rfl rfl
set_option maxRecDepth 100000 in
theorem am_cw_X2_addName : am_in (am_cw mX2_addName) := am_in_of (i := 471) rfl rfl
set_option maxRecDepth 100000 in
theorem am_cw_X2_copy : am_in (am_cw mX2_copy) := am_in_of (i := 817) rfl rfl
set_option maxRecDepth 100000 in
theorem am_cw_X3_init : am_in (am_cw mX3_init) := am_in_of (i := 123) rfl rfl
set_option maxRecDepth 100000 in
theorem am_cw_X3_read : am_in (am_cw mX3_read) := am_in_of (i := 439) rfl rfl
set_option maxRecDepth 100000 in
theorem am_cw_X3_takes : am_in (am_cw mX3_takes) := am_in_of (i := 447) rfl rfl
set_option maxRecDepth 100000 in
theorem am_cw_X3_startsNumber : am_in (am_cw mX3_startsNumber) := am_in_of (i := 451) rfl rfl
set_option maxRecDepth 100000 in
theorem am_cw_X3_startsFactor : am_in (am_cw mX3_startsFactor) := am_in_of (i := 455) rfl rfl
set_option maxRecDepth 100000 in
theorem am_cw_X3_startsFunction : am_in (am_cw mX3_startsFunction) := am_in_of (i := 463) rfl rfl
set_option maxRecDepth 100000 in
theorem am_cw_X3_endsName : am_in (am_cw mX3_endsName) := am_in_of (i := 467) rfl rfl
set_option maxRecDepth 100000 in
theorem am_cw_X3_startsName : am_in (am_cw mX3_startsName) := am_in_of (i := 479) rfl rfl
set_option maxRecDepth 100000 in
theorem am_cw_X3_takesFigure : am_in (am_cw mX3_takesFigure) := am_in_of (i := 483) rfl rfl
set_option maxRecDepth 100000 in
theorem am_cw_X3_endNumber : am_in (am_cw mX3_endNumber) := am_in_of (i := 492) rfl rfl
set_option maxRecDepth 100000 in
theorem am_cw_X3_goesOn : am_in (am_cw mX3_goesOn) := am_in_of (i := 488) rfl rfl
set_option maxRecDepth 100000 in
theorem am_cw_X3_operates : am_in (am_cw mX3_operates) := am_in_of (i := 496) rfl rfl
set_option maxRecDepth 100000 in
theorem am_cw_X3_takesComma : am_in (am_cw mX3_takesComma) := am_in_of (i := 507) rfl rfl
set_option maxRecDepth 100000 in
theorem am_cw_X3_takesBracket : am_in (am_cw mX3_takesBracket) := am_in_of (i := 511) rfl rfl
set_option maxRecDepth 100000 in
theorem am_cw_X3_hold : am_in (am_cw mX3_hold) := am_in_of (i := 459) rfl rfl
set_option maxRecDepth 100000 in
theorem am_cw_X3_settle : am_in (am_cw mX3_settle) := am_in_of (i := 500) rfl rfl
set_option maxRecDepth 100000 in
theorem am_cw_X3_strengthOf : am_in (am_cw mX3_strengthOf) := am_in_of (i := 503) rfl rfl
set_option maxRecDepth 100000 in
theorem am_cw_X4_init : am_in (am_cw mX4_init) := am_in_of (i := 195) rfl rfl
set_option maxRecDepth 100000 in
theorem am_cw_X4_workOut : am_in (am_cw mX4_workOut) := am_in_of (i := 545) rfl rfl
set_option maxRecDepth 100000 in
theorem am_cw_X4_operate : am_in (am_cw mX4_operate) := am_in_of (i := 556) rfl rfl
set_option maxRecDepth 100000 in
theorem am_cw_X4_join : am_in (am_cw mX4_join) := am_in_of (i := 563) rfl rfl
set_option maxRecDepth 100000 in
theorem am_cw_X4_keep : am_in (am_cw mX4_keep) := am_in_of (i := 550) rfl rfl
set_option maxRecDepth 100000 in
theorem am_cw_X4_take : am_in (am_cw mX4_take) := am_in_of (i := 560) rfl rfl
set_option maxRecDepth 100000 in
theorem am_cw_X5_init : am_in (am_cw mX5_init) := am_in_of (i := 272) rfl rfl
set_option maxRecDepth 100000 in
theorem am_cw_X5_lookAhead : am_in (am_cw mX5_lookAhead) := am_in_of (i := 526) rfl rfl
set_option maxRecDepth 100000 in
theorem am_cw_X6_init : am_in (am_cw mX6_init) := am_in_of (i := 189) rfl rfl
set_option maxRecDepth 100000 in
theorem am_cw_X6_has : am_in (am_cw mX6_has) := am_in_of (i := 534) rfl rfl
set_option maxRecDepth 100000 in
theorem am_cw_X6_latestOf : am_in (am_cw mX6_latestOf) := am_in_of (i := 522) rfl rfl
set_option maxRecDepth 100000 in
theorem am_cw_X6_isLatest : am_in (am_cw mX6_isLatest) := am_in_of (i := 937) rfl rfl
set_option maxRecDepth 100000 in
theorem am_cw_X6_modelOf : am_in (am_cw mX6_modelOf) := am_in_of (i := 1000) rfl rfl
set_option maxRecDepth 100000 in
theorem am_cw_X6_pinOf : am_in (am_cw mX6_pinOf) := am_in_of (i := 829) rfl rfl
set_option maxRecDepth 100000 in
theorem am_cw_X6_names : am_in (am_cw mX6_names) := am_in_of (i := 881) rfl rfl
set_option maxRecDepth 100000 in
theorem am_cw_X6_modelsUnder : am_in (am_cw mX6_modelsUnder) := am_in_of (i := 792) rfl rfl
set_option maxRecDepth 100000 in
theorem am_cw_X6_namedBy : am_in (am_cw mX6_namedBy) := am_in_of (i := 796) rfl rfl
set_option maxRecDepth 100000 in
theorem am_cw_X6_modelsOn : am_in (am_cw mX6_modelsOn) := am_in_of (i := 788) rfl rfl
set_option maxRecDepth 100000 in
theorem am_cw_X6_mayTake : am_in (am_cw mX6_mayTake) := am_in_of (i := 784) rfl rfl
set_option maxRecDepth 100000 in
theorem am_cw_X6_take : am_in (am_cw mX6_take) := am_in_of (i := 808) rfl rfl
set_option maxRecDepth 100000 in
theorem am_cw_X6_shelve : am_in (am_cw mX6_shelve) := am_in_of (i := 812) rfl rfl
set_option maxRecDepth 100000 in
theorem am_cw_X6_nextToBind : am_in (am_cw mX6_nextToBind) := am_in_of (i := 821) rfl rfl
set_option maxRecDepth 100000 in
theorem am_cw_X6_pinsOld : am_in (am_cw mX6_pinsOld) := am_in_of (i := 825) rfl rfl
set_option maxRecDepth 100000 in
theorem am_cw_X6_giveUp : am_in (am_cw mX6_giveUp) := am_in_of (i := 842) rfl rfl
set_option maxRecDepth 100000 in
theorem am_cw_X6_tellRain : am_in (am_cw mX6_tellRain) := am_in_of (i := 873) rfl rfl
set_option maxRecDepth 100000 in
theorem am_cw_X6_forget : am_in (am_cw mX6_forget) := am_in_of (i := 908) rfl rfl
set_option maxRecDepth 100000 in
theorem am_cw_X6_outputOf : am_in (am_cw mX6_outputOf) := am_in_of (i := 530) rfl rfl
set_option maxRecDepth 100000 in
theorem am_cw_X6_fill : am_in (am_cw mX6_fill) := am_in_of (i := 541) rfl rfl
set_option maxRecDepth 100000 in
theorem am_cw_X7_init : am_in (am_cw mX7_init) := am_in_of (i := 370) rfl rfl
set_option maxRecDepth 100000 in
theorem am_cw_X8_init : am_in (am_cw mX8_init) := am_in_of (i := 217) rfl rfl
set_option maxRecDepth 100000 in
theorem am_cw_X9_init : am_in (am_cw mX9_init) := am_in_of (i := 99) rfl rfl
set_option maxRecDepth 100000 in
theorem am_cw_X9_type : am_in (am_cw mX9_type) := am_in_of (i := 572) rfl rfl
set_option maxRecDepth 100000 in
theorem am_cw_X9_wipe : am_in (am_cw mX9_wipe) := am_in_of (i := 427) rfl rfl
set_option maxRecDepth 100000 in
theorem am_cw_X9_fault : am_in (am_cw mX9_fault) := am_in_of (i := 435) rfl rfl
set_option maxRecDepth 100000 in
theorem am_cw_X9_publish : am_in (am_cw mX9_publish) := am_in_of (i := 760) rfl rfl
set_option maxRecDepth 100000 in
theorem am_cw_X9_retire : am_in (am_cw mX9_retire) := am_in_of (i := 836) rfl rfl
set_option maxRecDepth 100000 in
theorem am_cw_X9_latest : am_in (am_cw mX9_latest) := am_in_of (i := 849) rfl rfl
set_option maxRecDepth 100000 in
theorem am_cw_X9_pin : am_in (am_cw mX9_pin) := am_in_of (i := 856) rfl rfl
set_option maxRecDepth 100000 in
theorem am_cw_X9_rain : am_in (am_cw mX9_rain) := am_in_of (i := 866) rfl rfl
set_option maxRecDepth 100000 in
theorem am_cw_X9_out : am_in (am_cw mX9_out) := am_in_of (i := 888) rfl rfl
set_option maxRecDepth 100000 in
theorem am_cw_X9_outAnew : am_in (am_cw mX9_outAnew) := am_in_of (i := 904) rfl rfl
set_option maxRecDepth 100000 in
theorem am_cw_X9_run : am_in (am_cw mX9_run) := am_in_of (i := 915) rfl rfl
set_option maxRecDepth 100000 in
theorem am_cw_X9_why : am_in (am_cw mX9_why) := am_in_of (i := 924) rfl rfl
set_option maxRecDepth 100000 in
theorem am_cw_X9_peak : am_in (am_cw mX9_peak) := am_in_of (i := 944) rfl rfl
set_option maxRecDepth 100000 in
theorem am_cw_X9_peakHour : am_in (am_cw mX9_peakHour) := am_in_of (i := 951) rfl rfl
set_option maxRecDepth 100000 in
theorem am_cw_X9_peakAnew : am_in (am_cw mX9_peakAnew) := am_in_of (i := 958) rfl rfl
set_option maxRecDepth 100000 in
theorem am_cw_X9_build : am_in (am_cw mX9_build) := am_in_of (i := 965) rfl rfl
set_option maxRecDepth 100000 in
theorem am_cw_X9_rule : am_in (am_cw mX9_rule) := am_in_of (i := 980) rfl rfl
set_option maxRecDepth 100000 in
theorem am_cw_X9_goBy : am_in (am_cw mX9_goBy) := am_in_of (i := 991) rfl rfl
set_option maxRecDepth 100000 in
theorem am_cw_X9_level : am_in (am_cw mX9_level) := am_in_of (i := 1008) rfl rfl
set_option maxRecDepth 100000 in
theorem am_cw_X9_below : am_in (am_cw mX9_below) := am_in_of (i := 1015) rfl rfl
set_option maxRecDepth 100000 in
theorem am_cw_X9_valley : am_in (am_cw mX9_valley) := am_in_of (i := 1023) rfl rfl
set_option maxRecDepth 100000 in
theorem am_cw_X9_sound : am_in (am_cw mX9_sound) := am_in_of (i := 1031) rfl rfl
set_option maxRecDepth 100000 in
theorem am_cw_X9_siren : am_in (am_cw mX9_siren) := am_in_of (i := 1043) rfl rfl
set_option maxRecDepth 100000 in
theorem am_cw_X9_walkers : am_in (am_cw mX9_walkers) := am_in_of (i := 1055) rfl rfl
set_option maxRecDepth 100000 in
theorem am_cw_X9_trust : am_in (am_cw mX9_trust) := am_in_of (i := 1062) rfl rfl
set_option maxRecDepth 100000 in
theorem am_cw_X9_saved : am_in (am_cw mX9_saved) := am_in_of (i := 1069) rfl rfl
set_option maxRecDepth 100000 in
theorem am_cw_X9_alarm : am_in (am_cw mX9_alarm) := am_in_of (i := 515) rfl rfl
set_option maxRecDepth 100000 in
theorem am_cw_X9_pass : am_in (am_cw mX9_pass) := am_in_of (i := 1076) rfl rfl
set_option maxRecDepth 100000 in
theorem am_cw_X9_isModel : am_in (am_cw mX9_isModel) := am_in_of (i := 763) rfl rfl
set_option maxRecDepth 100000 in
theorem am_cw_X9_isHour : am_in (am_cw mX9_isHour) := am_in_of (i := 537) rfl rfl
set_option maxRecDepth 100000 in
theorem am_cw_X9_isDam : am_in (am_cw mX9_isDam) := am_in_of (i := 969) rfl rfl
set_option maxRecDepth 100000 in
theorem am_cw_X9_isRun : am_in (am_cw mX9_isRun) := am_in_of (i := 928) rfl rfl
set_option maxRecDepth 100000 in
theorem am_cw_X9_isSiren : am_in (am_cw mX9_isSiren) := am_in_of (i := 1047) rfl rfl
set_option maxRecDepth 100000 in
theorem am_cw_X9_reasonAgainst : am_in (am_cw mX9_reasonAgainst) := am_in_of (i := 933) rfl rfl
set_option maxRecDepth 100000 in
theorem am_cw_X9_isGoodFor : am_in (am_cw mX9_isGoodFor) := am_in_of (i := 996) rfl rfl
set_option maxRecDepth 100000 in
theorem am_cw_X9_stampRuns : am_in (am_cw mX9_stampRuns) := am_in_of (i := 877) rfl rfl
set_option maxRecDepth 100000 in
theorem am_cw_X9_maySound : am_in (am_cw mX9_maySound) := am_in_of (i := 1035) rfl rfl
set_option maxRecDepth 100000 in
theorem am_cw_X9_passHourAt : am_in (am_cw mX9_passHourAt) := am_in_of (i := 1081) rfl rfl
set_option maxRecDepth 100000 in
theorem am_cw_X9_judge : am_in (am_cw mX9_judge) := am_in_of (i := 1091) rfl rfl
set_option maxRecDepth 100000 in
theorem am_cw_X9_bitsOf : am_in (am_cw mX9_bitsOf) := am_in_of (i := 894) rfl rfl
set_option maxRecDepth 100000 in
theorem am_cw_X10_init : am_in (am_cw mX10_init) := am_in_of (i := 1099) rfl rfl
set_option maxRecDepth 100000 in
theorem am_cw_X10_thrown : am_in (am_cw mX10_thrown) := am_in_of (i := 1268) rfl rfl
set_option maxRecDepth 100000 in
theorem am_cw_X10_holds : am_in (am_cw mX10_holds) := am_in_of (i := 1285) rfl rfl
set_option maxRecDepth 100000 in
theorem am_cw_X10_isIn : am_in (am_cw mX10_isIn) := am_in_of (i := 1275) rfl rfl
set_option maxRecDepth 100000 in
theorem am_cw_X10_isModel : am_in (am_cw mX10_isModel) := am_in_of (i := 1316) rfl rfl
set_option maxRecDepth 100000 in
theorem am_cw_X10_isDam : am_in (am_cw mX10_isDam) := am_in_of (i := 1495) rfl rfl
set_option maxRecDepth 100000 in
theorem am_cw_X10_isVersion : am_in (am_cw mX10_isVersion) := am_in_of (i := 1368) rfl rfl
set_option maxRecDepth 100000 in
theorem am_cw_X10_isRun : am_in (am_cw mX10_isRun) := am_in_of (i := 1468) rfl rfl
set_option maxRecDepth 100000 in
theorem am_cw_X10_isFigure : am_in (am_cw mX10_isFigure) := am_in_of (i := 1278) rfl rfl
set_option maxRecDepth 100000 in
theorem am_cw_X10_isSign : am_in (am_cw mX10_isSign) := am_in_of (i := 1281) rfl rfl
set_option maxRecDepth 100000 in
theorem am_cw_X10_inputs : am_in (am_cw mX10_inputs) := am_in_of (i := 1303) rfl rfl
set_option maxRecDepth 100000 in
theorem am_cw_X10_figures : am_in (am_cw mX10_figures) := am_in_of (i := 1306) rfl rfl
set_option maxRecDepth 100000 in
theorem am_cw_X10_isPlain : am_in (am_cw mX10_isPlain) := am_in_of (i := 1309) rfl rfl
set_option maxRecDepth 100000 in
theorem am_cw_X10_type : am_in (am_cw mX10_type) := am_in_of (i := 1272) rfl rfl
set_option maxRecDepth 100000 in
theorem am_cw_X10_wipe : am_in (am_cw mX10_wipe) := am_in_of (i := 1289) rfl rfl
set_option maxRecDepth 100000 in
theorem am_cw_X10_begun : am_in (am_cw mX10_begun) := am_in_of (i := 1300) rfl rfl
set_option maxRecDepth 100000 in
theorem am_cw_X10_faultOf : am_in (am_cw mX10_faultOf) := am_in_of (i := 1297) rfl rfl
set_option maxRecDepth 100000 in
theorem am_cw_X10_fault : am_in (am_cw mX10_fault) := am_in_of (i := 1293) rfl rfl
set_option maxRecDepth 100000 in
theorem am_cw_X10_kept : am_in (am_cw mX10_kept) := am_in_of (i := 1419) rfl rfl
set_option maxRecDepth 100000 in
theorem am_cw_X10_puts : am_in (am_cw mX10_puts) := am_in_of (i := 1416) rfl rfl
set_option maxRecDepth 100000 in
theorem am_cw_X10_pops : am_in (am_cw mX10_pops) := am_in_of (i := 1412) rfl rfl
set_option maxRecDepth 100000 in
theorem am_cw_X10_applies : am_in (am_cw mX10_applies) := am_in_of (i := 1408) rfl rfl
set_option maxRecDepth 100000 in
theorem am_cw_X10_closes : am_in (am_cw mX10_closes) := am_in_of (i := 1429) rfl rfl
set_option maxRecDepth 100000 in
theorem am_cw_X10_waitsFor : am_in (am_cw mX10_waitsFor) := am_in_of (i := 1404) rfl rfl
set_option maxRecDepth 100000 in
theorem am_cw_X10_waitsOn : am_in (am_cw mX10_waitsOn) := am_in_of (i := 1425) rfl rfl
set_option maxRecDepth 100000 in
theorem am_cw_X10_named : am_in (am_cw mX10_named) := am_in_of (i := 1438) rfl rfl
set_option maxRecDepth 100000 in
theorem am_cw_X10_putsNumber : am_in (am_cw mX10_putsNumber) := am_in_of (i := 1433) rfl rfl
set_option maxRecDepth 100000 in
theorem am_cw_X10_goesOn : am_in (am_cw mX10_goesOn) := am_in_of (i := 1400) rfl rfl
set_option maxRecDepth 100000 in
theorem am_cw_X10_worth : am_in (am_cw mX10_worth) := am_in_of (i := 1396) rfl rfl
set_option maxRecDepth 100000 in
theorem am_cw_X10_names : am_in (am_cw mX10_names) := am_in_of (i := 1332) rfl rfl
set_option maxRecDepth 100000 in
theorem am_cw_X10_namesOfDraft : am_in (am_cw mX10_namesOfDraft) := am_in_of (i := 1324) rfl rfl
set_option maxRecDepth 100000 in
theorem am_cw_X10_laysReach : am_in (am_cw mX10_laysReach) := am_in_of (i := 1328) rfl rfl
set_option maxRecDepth 100000 in
theorem am_cw_X10_restsOn : am_in (am_cw mX10_restsOn) := am_in_of (i := 1336) rfl rfl
set_option maxRecDepth 100000 in
theorem am_cw_X10_resting : am_in (am_cw mX10_resting) := am_in_of (i := 1340) rfl rfl
set_option maxRecDepth 100000 in
theorem am_cw_X10_canName : am_in (am_cw mX10_canName) := am_in_of (i := 1320) rfl rfl
set_option maxRecDepth 100000 in
theorem am_cw_X10_enters : am_in (am_cw mX10_enters) := am_in_of (i := 1344) rfl rfl
set_option maxRecDepth 100000 in
theorem am_cw_X10_isStale : am_in (am_cw mX10_isStale) := am_in_of (i := 1352) rfl rfl
set_option maxRecDepth 100000 in
theorem am_cw_X10_nextStale : am_in (am_cw mX10_nextStale) := am_in_of (i := 1348) rfl rfl
set_option maxRecDepth 100000 in
theorem am_cw_X10_publish : am_in (am_cw mX10_publish) := am_in_of (i := 1313) rfl rfl
set_option maxRecDepth 100000 in
theorem am_cw_X10_retire : am_in (am_cw mX10_retire) := am_in_of (i := 1356) rfl rfl
set_option maxRecDepth 100000 in
theorem am_cw_X10_latest : am_in (am_cw mX10_latest) := am_in_of (i := 1360) rfl rfl
set_option maxRecDepth 100000 in
theorem am_cw_X10_pin : am_in (am_cw mX10_pin) := am_in_of (i := 1364) rfl rfl
set_option maxRecDepth 100000 in
theorem am_cw_X10_rain : am_in (am_cw mX10_rain) := am_in_of (i := 1372) rfl rfl
set_option maxRecDepth 100000 in
theorem am_cw_X10_closure : am_in (am_cw mX10_closure) := am_in_of (i := 1388) rfl rfl
set_option maxRecDepth 100000 in
theorem am_cw_X10_finds : am_in (am_cw mX10_finds) := am_in_of (i := 1392) rfl rfl
set_option maxRecDepth 100000 in
theorem am_cw_X10_outOf : am_in (am_cw mX10_outOf) := am_in_of (i := 1384) rfl rfl
set_option maxRecDepth 100000 in
theorem am_cw_X10_isAsked : am_in (am_cw mX10_isAsked) := am_in_of (i := 1380) rfl rfl
set_option maxRecDepth 100000 in
theorem am_cw_X10_out : am_in (am_cw mX10_out) := am_in_of (i := 1376) rfl rfl
set_option maxRecDepth 100000 in
theorem am_cw_X10_outAnew : am_in (am_cw mX10_outAnew) := am_in_of (i := 1452) rfl rfl
set_option maxRecDepth 100000 in
theorem am_cw_X10_greatest : am_in (am_cw mX10_greatest) := am_in_of (i := 1460) rfl rfl
set_option maxRecDepth 100000 in
theorem am_cw_X10_run : am_in (am_cw mX10_run) := am_in_of (i := 1456) rfl rfl
set_option maxRecDepth 100000 in
theorem am_cw_X10_gaugesOf : am_in (am_cw mX10_gaugesOf) := am_in_of (i := 1476) rfl rfl
set_option maxRecDepth 100000 in
theorem am_cw_X10_whyOf : am_in (am_cw mX10_whyOf) := am_in_of (i := 1472) rfl rfl
set_option maxRecDepth 100000 in
theorem am_cw_X10_why : am_in (am_cw mX10_why) := am_in_of (i := 1464) rfl rfl
set_option maxRecDepth 100000 in
theorem am_cw_X10_peak : am_in (am_cw mX10_peak) := am_in_of (i := 1480) rfl rfl
set_option maxRecDepth 100000 in
theorem am_cw_X10_peakHour : am_in (am_cw mX10_peakHour) := am_in_of (i := 1484) rfl rfl
set_option maxRecDepth 100000 in
theorem am_cw_X10_peakAnew : am_in (am_cw mX10_peakAnew) := am_in_of (i := 1488) rfl rfl
set_option maxRecDepth 100000 in
theorem am_cw_X10_build : am_in (am_cw mX10_build) := am_in_of (i := 1492) rfl rfl
set_option maxRecDepth 100000 in
theorem am_cw_X10_rule : am_in (am_cw mX10_rule) := am_in_of (i := 1500) rfl rfl
set_option maxRecDepth 100000 in
theorem am_cw_X10_isFor : am_in (am_cw mX10_isFor) := am_in_of (i := 1508) rfl rfl
set_option maxRecDepth 100000 in
theorem am_cw_X10_goBy : am_in (am_cw mX10_goBy) := am_in_of (i := 1504) rfl rfl
set_option maxRecDepth 100000 in
theorem am_cw_X10_level : am_in (am_cw mX10_level) := am_in_of (i := 1512) rfl rfl
set_option maxRecDepth 100000 in
theorem am_cw_X10_below : am_in (am_cw mX10_below) := am_in_of (i := 1516) rfl rfl
set_option maxRecDepth 100000 in
theorem am_cw_X10_valley : am_in (am_cw mX10_valley) := am_in_of (i := 1520) rfl rfl
set_option maxRecDepth 100000 in
theorem am_cw_X10_rings : am_in (am_cw mX10_rings) := am_in_of (i := 1528) rfl rfl
set_option maxRecDepth 100000 in
theorem am_cw_X10_sound : am_in (am_cw mX10_sound) := am_in_of (i := 1524) rfl rfl
set_option maxRecDepth 100000 in
theorem am_cw_X10_isSiren : am_in (am_cw mX10_isSiren) := am_in_of (i := 1536) rfl rfl
set_option maxRecDepth 100000 in
theorem am_cw_X10_siren : am_in (am_cw mX10_siren) := am_in_of (i := 1532) rfl rfl
set_option maxRecDepth 100000 in
theorem am_cw_X10_walkers : am_in (am_cw mX10_walkers) := am_in_of (i := 1540) rfl rfl
set_option maxRecDepth 100000 in
theorem am_cw_X10_trust : am_in (am_cw mX10_trust) := am_in_of (i := 1544) rfl rfl
set_option maxRecDepth 100000 in
theorem am_cw_X10_saved : am_in (am_cw mX10_saved) := am_in_of (i := 1548) rfl rfl
set_option maxRecDepth 100000 in
theorem am_cw_X10_alarm : am_in (am_cw mX10_alarm) := am_in_of (i := 1552) rfl rfl
set_option maxRecDepth 100000 in
theorem am_cw_X10_asked : am_in (am_cw mX10_asked) := am_in_of (i := 1564) rfl rfl
set_option maxRecDepth 100000 in
theorem am_cw_X10_flows : am_in (am_cw mX10_flows) := am_in_of (i := 1560) rfl rfl
set_option maxRecDepth 100000 in
theorem am_cw_X10_judges : am_in (am_cw mX10_judges) := am_in_of (i := 1568) rfl rfl
set_option maxRecDepth 100000 in
theorem am_cw_X10_pass : am_in (am_cw mX10_pass) := am_in_of (i := 1556) rfl rfl
set_option maxRecDepth 100000 in
theorem am_cw_Jxf58ca_isNaN_12338 : am_in (am_cw mJxf58ca_isNaN_12338) := am_in_of (i := 1444) rfl rfl
set_option maxRecDepth 100000 in
theorem am_cw_Jxf58ca_floatToIntBits_5c35a : am_in (am_cw mJxf58ca_floatToIntBits_5c35a) := am_in_of (i := 1441) rfl rfl
set_option maxRecDepth 100000 in
theorem am_cw_J6_bitCount_0f7a4 : am_in (am_cw mJ6_bitCount_0f7a4) := am_in_of (i := 800) rfl rfl
set_option maxRecDepth 100000 in
theorem am_cw_J9_max_7cf53 : am_in (am_cw mJ9_max_7cf53) := am_in_of (i := 607) rfl rfl
set_option maxRecDepth 100000 in
theorem am_cw_J9_min_7cf53 : am_in (am_cw mJ9_min_7cf53) := am_in_of (i := 518) rfl rfl
set_option maxRecDepth 100000 in
theorem am_cw_J0_length_8abf5 : am_in (am_cw mJ0_length_8abf5) := am_in_of (i := 594) rfl rfl
set_option maxRecDepth 100000 in
theorem am_cw_J0_indexOf_0f7a4 : am_in (am_cw mJ0_indexOf_0f7a4) := am_in_of (i := 580) rfl rfl
set_option maxRecDepth 100000 in
theorem am_cw_J0_indexOf_7cf53 : am_in (am_cw mJ0_indexOf_7cf53) := am_in_of (i := 584) rfl rfl
set_option maxRecDepth 100000 in
theorem am_cw_J0_coder_7d493 : am_in (am_cw mJ0_coder_7d493) := am_in_of (i := 598) rfl rfl
set_option maxRecDepth 100000 in
theorem am_cw_J0_isLatin1_aae02 : am_in (am_cw mJ0_isLatin1_aae02) := am_in_of (i := 588) rfl rfl
set_option maxRecDepth 100000 in
theorem am_cw_J1_canEncode_9a6ad : am_in (am_cw mJ1_canEncode_9a6ad) := am_in_of (i := 604) rfl rfl
set_option maxRecDepth 100000 in
theorem am_cw_J1_indexOf_4cfef : am_in (am_cw mJ1_indexOf_4cfef) := am_in_of (i := 601) rfl rfl
set_option maxRecDepth 100000 in
theorem am_cw_J1_indexOfChar_4cfef : am_in (am_cw mJ1_indexOfChar_4cfef) := am_in_of (i := 611) rfl rfl
set_option maxRecDepth 100000 in
theorem am_cw_L_type : am_in (am_cw mL_type) := am_in_of (i := 566) rfl rfl
set_option maxRecDepth 100000 in
theorem am_cw_L_publish : am_in (am_cw mL_publish) := am_in_of (i := 755) rfl rfl
set_option maxRecDepth 100000 in
theorem am_cw_L_retire : am_in (am_cw mL_retire) := am_in_of (i := 832) rfl rfl
set_option maxRecDepth 100000 in
theorem am_cw_L_latest : am_in (am_cw mL_latest) := am_in_of (i := 845) rfl rfl
set_option maxRecDepth 100000 in
theorem am_cw_L_pin : am_in (am_cw mL_pin) := am_in_of (i := 852) rfl rfl
set_option maxRecDepth 100000 in
theorem am_cw_L_rain : am_in (am_cw mL_rain) := am_in_of (i := 862) rfl rfl
set_option maxRecDepth 100000 in
theorem am_cw_L_out : am_in (am_cw mL_out) := am_in_of (i := 884) rfl rfl
set_option maxRecDepth 100000 in
theorem am_cw_L_outAnew : am_in (am_cw mL_outAnew) := am_in_of (i := 900) rfl rfl
set_option maxRecDepth 100000 in
theorem am_cw_L_run : am_in (am_cw mL_run) := am_in_of (i := 911) rfl rfl
set_option maxRecDepth 100000 in
theorem am_cw_L_why : am_in (am_cw mL_why) := am_in_of (i := 920) rfl rfl
set_option maxRecDepth 100000 in
theorem am_cw_L_peak : am_in (am_cw mL_peak) := am_in_of (i := 940) rfl rfl
set_option maxRecDepth 100000 in
theorem am_cw_L_peakHour : am_in (am_cw mL_peakHour) := am_in_of (i := 947) rfl rfl
set_option maxRecDepth 100000 in
theorem am_cw_L_peakAnew : am_in (am_cw mL_peakAnew) := am_in_of (i := 954) rfl rfl
set_option maxRecDepth 100000 in
theorem am_cw_L_build : am_in (am_cw mL_build) := am_in_of (i := 961) rfl rfl
set_option maxRecDepth 100000 in
theorem am_cw_L_rule : am_in (am_cw mL_rule) := am_in_of (i := 976) rfl rfl
set_option maxRecDepth 100000 in
theorem am_cw_L_goBy : am_in (am_cw mL_goBy) := am_in_of (i := 987) rfl rfl
set_option maxRecDepth 100000 in
theorem am_cw_L_level : am_in (am_cw mL_level) := am_in_of (i := 1004) rfl rfl
set_option maxRecDepth 100000 in
theorem am_cw_L_below : am_in (am_cw mL_below) := am_in_of (i := 1011) rfl rfl
set_option maxRecDepth 100000 in
theorem am_cw_L_valley : am_in (am_cw mL_valley) := am_in_of (i := 1019) rfl rfl
set_option maxRecDepth 100000 in
theorem am_cw_L_sound : am_in (am_cw mL_sound) := am_in_of (i := 1027) rfl rfl
set_option maxRecDepth 100000 in
theorem am_cw_L_siren : am_in (am_cw mL_siren) := am_in_of (i := 1039) rfl rfl
set_option maxRecDepth 100000 in
theorem am_cw_L_walkers : am_in (am_cw mL_walkers) := am_in_of (i := 1051) rfl rfl
set_option maxRecDepth 100000 in
theorem am_cw_L_trust : am_in (am_cw mL_trust) := am_in_of (i := 1058) rfl rfl
set_option maxRecDepth 100000 in
theorem am_cw_L_saved : am_in (am_cw mL_saved) := am_in_of (i := 1065) rfl rfl
set_option maxRecDepth 100000 in
theorem am_cw_L_pass : am_in (am_cw mL_pass) := am_in_of (i := 1072) rfl rfl
def am_allK : List Nat := [0, 1, 2, 3, 4, 5, 6, 7, 8, 9, 10, 11, 12, 13, 14, 15, 16, 17, 18, 19, 20, 21, 22, 23, 24, 25, 26, 27, 28, 29, 30, 31, 32, 33, 34, 35, 36, 37, 38, 39, 40, 41, 42, 43, 44, 45, 46, 47, 48, 49, 50, 51, 52, 53, 54, 55, 56, 57, 58, 59, 60, 61, 62, 63, 64, 65, 66, 67, 68, 69, 70, 71, 72, 73, 74, 75, 76, 77, 78, 79, 80, 81, 82, 83, 84, 85, 86, 87, 88, 89, 90, 91, 92, 93, 94, 95, 96, 97, 98, 99, 100, 101, 102, 103, 104, 105, 106, 107, 108, 109, 110, 111, 112, 113, 114, 115, 116, 117, 118, 119, 120, 121, 122, 123, 124, 125, 126, 127, 128, 129, 130, 131, 132, 133, 134, 135, 136, 137, 138, 139, 140, 141, 142, 143, 144, 145, 146, 147, 148, 149, 150, 151, 152, 153, 154, 155, 156, 157, 158, 159, 160, 161, 162, 163, 164, 165, 166, 167, 168, 169, 170, 171, 172, 173, 174, 175, 176, 177, 178, 179, 180, 181, 182, 183, 184, 185, 186, 187, 188, 189, 190, 191, 192, 193, 194, 195, 196, 197, 198, 199, 200, 201, 202, 203, 204, 205, 206, 207, 208, 209, 210, 211, 212, 213]
def am_allK_0 : List Nat := [0, 1, 2, 3, 4, 5, 6, 7, 8, 9, 10, 11, 12, 13, 14, 15]
theorem am_cws_0 : ∀ k ∈ am_allK_0, am_in (am_cw k) := List.forall_mem_cons.mpr ⟨am_cw_X0_init, List.forall_mem_cons.mpr ⟨am_cw_X0_letThrough, List.forall_mem_cons.mpr ⟨am_cw_X1_init, List.forall_mem_cons.mpr ⟨am_cw_X1_mayHold, List.forall_mem_cons.mpr ⟨am_cw_X1_isFull, List.forall_mem_cons.mpr ⟨am_cw_X1_add, List.forall_mem_cons.mpr ⟨am_cw_X1_clear, List.forall_mem_cons.mpr ⟨am_cw_X2_init, List.forall_mem_cons.mpr ⟨am_cw_X2_clear, List.forall_mem_cons.mpr ⟨am_cw_X2_add, List.forall_mem_cons.mpr ⟨am_cw_X2_addName, List.forall_mem_cons.mpr ⟨am_cw_X2_copy, List.forall_mem_cons.mpr ⟨am_cw_X3_init, List.forall_mem_cons.mpr ⟨am_cw_X3_read, List.forall_mem_cons.mpr ⟨am_cw_X3_takes, List.forall_mem_cons.mpr ⟨am_cw_X3_startsNumber, fun _ h => absurd h List.not_mem_nil⟩⟩⟩⟩⟩⟩⟩⟩⟩⟩⟩⟩⟩⟩⟩⟩
def am_allK_1 : List Nat := [16, 17, 18, 19, 20, 21, 22, 23, 24, 25, 26, 27, 28, 29, 30, 31]
theorem am_cws_1 : ∀ k ∈ am_allK_1, am_in (am_cw k) := List.forall_mem_cons.mpr ⟨am_cw_X3_startsFactor, List.forall_mem_cons.mpr ⟨am_cw_X3_startsFunction, List.forall_mem_cons.mpr ⟨am_cw_X3_endsName, List.forall_mem_cons.mpr ⟨am_cw_X3_startsName, List.forall_mem_cons.mpr ⟨am_cw_X3_takesFigure, List.forall_mem_cons.mpr ⟨am_cw_X3_endNumber, List.forall_mem_cons.mpr ⟨am_cw_X3_goesOn, List.forall_mem_cons.mpr ⟨am_cw_X3_operates, List.forall_mem_cons.mpr ⟨am_cw_X3_takesComma, List.forall_mem_cons.mpr ⟨am_cw_X3_takesBracket, List.forall_mem_cons.mpr ⟨am_cw_X3_hold, List.forall_mem_cons.mpr ⟨am_cw_X3_settle, List.forall_mem_cons.mpr ⟨am_cw_X3_strengthOf, List.forall_mem_cons.mpr ⟨am_cw_X4_init, List.forall_mem_cons.mpr ⟨am_cw_X4_workOut, List.forall_mem_cons.mpr ⟨am_cw_X4_operate, fun _ h => absurd h List.not_mem_nil⟩⟩⟩⟩⟩⟩⟩⟩⟩⟩⟩⟩⟩⟩⟩⟩
def am_allK_2 : List Nat := [32, 33, 34, 35, 36, 37, 38, 39, 40, 41, 42, 43, 44, 45, 46, 47]
theorem am_cws_2 : ∀ k ∈ am_allK_2, am_in (am_cw k) := List.forall_mem_cons.mpr ⟨am_cw_X4_join, List.forall_mem_cons.mpr ⟨am_cw_X4_keep, List.forall_mem_cons.mpr ⟨am_cw_X4_take, List.forall_mem_cons.mpr ⟨am_cw_X5_init, List.forall_mem_cons.mpr ⟨am_cw_X5_lookAhead, List.forall_mem_cons.mpr ⟨am_cw_X6_init, List.forall_mem_cons.mpr ⟨am_cw_X6_has, List.forall_mem_cons.mpr ⟨am_cw_X6_latestOf, List.forall_mem_cons.mpr ⟨am_cw_X6_isLatest, List.forall_mem_cons.mpr ⟨am_cw_X6_modelOf, List.forall_mem_cons.mpr ⟨am_cw_X6_pinOf, List.forall_mem_cons.mpr ⟨am_cw_X6_names, List.forall_mem_cons.mpr ⟨am_cw_X6_modelsUnder, List.forall_mem_cons.mpr ⟨am_cw_X6_namedBy, List.forall_mem_cons.mpr ⟨am_cw_X6_modelsOn, List.forall_mem_cons.mpr ⟨am_cw_X6_mayTake, fun _ h => absurd h List.not_mem_nil⟩⟩⟩⟩⟩⟩⟩⟩⟩⟩⟩⟩⟩⟩⟩⟩
def am_allK_3 : List Nat := [48, 49, 50, 51, 52, 53, 54, 55, 56, 57, 58, 59, 60, 61, 62, 63]
theorem am_cws_3 : ∀ k ∈ am_allK_3, am_in (am_cw k) := List.forall_mem_cons.mpr ⟨am_cw_X6_take, List.forall_mem_cons.mpr ⟨am_cw_X6_shelve, List.forall_mem_cons.mpr ⟨am_cw_X6_nextToBind, List.forall_mem_cons.mpr ⟨am_cw_X6_pinsOld, List.forall_mem_cons.mpr ⟨am_cw_X6_giveUp, List.forall_mem_cons.mpr ⟨am_cw_X6_tellRain, List.forall_mem_cons.mpr ⟨am_cw_X6_forget, List.forall_mem_cons.mpr ⟨am_cw_X6_outputOf, List.forall_mem_cons.mpr ⟨am_cw_X6_fill, List.forall_mem_cons.mpr ⟨am_cw_X7_init, List.forall_mem_cons.mpr ⟨am_cw_X8_init, List.forall_mem_cons.mpr ⟨am_cw_X9_init, List.forall_mem_cons.mpr ⟨am_cw_X9_type, List.forall_mem_cons.mpr ⟨am_cw_X9_wipe, List.forall_mem_cons.mpr ⟨am_cw_X9_fault, List.forall_mem_cons.mpr ⟨am_cw_X9_publish, fun _ h => absurd h List.not_mem_nil⟩⟩⟩⟩⟩⟩⟩⟩⟩⟩⟩⟩⟩⟩⟩⟩
def am_allK_4 : List Nat := [64, 65, 66, 67, 68, 69, 70, 71, 72, 73, 74, 75, 76, 77, 78, 79]
theorem am_cws_4 : ∀ k ∈ am_allK_4, am_in (am_cw k) := List.forall_mem_cons.mpr ⟨am_cw_X9_retire, List.forall_mem_cons.mpr ⟨am_cw_X9_latest, List.forall_mem_cons.mpr ⟨am_cw_X9_pin, List.forall_mem_cons.mpr ⟨am_cw_X9_rain, List.forall_mem_cons.mpr ⟨am_cw_X9_out, List.forall_mem_cons.mpr ⟨am_cw_X9_outAnew, List.forall_mem_cons.mpr ⟨am_cw_X9_run, List.forall_mem_cons.mpr ⟨am_cw_X9_why, List.forall_mem_cons.mpr ⟨am_cw_X9_peak, List.forall_mem_cons.mpr ⟨am_cw_X9_peakHour, List.forall_mem_cons.mpr ⟨am_cw_X9_peakAnew, List.forall_mem_cons.mpr ⟨am_cw_X9_build, List.forall_mem_cons.mpr ⟨am_cw_X9_rule, List.forall_mem_cons.mpr ⟨am_cw_X9_goBy, List.forall_mem_cons.mpr ⟨am_cw_X9_level, List.forall_mem_cons.mpr ⟨am_cw_X9_below, fun _ h => absurd h List.not_mem_nil⟩⟩⟩⟩⟩⟩⟩⟩⟩⟩⟩⟩⟩⟩⟩⟩
def am_allK_5 : List Nat := [80, 81, 82, 83, 84, 85, 86, 87, 88, 89, 90, 91, 92, 93, 94, 95]
theorem am_cws_5 : ∀ k ∈ am_allK_5, am_in (am_cw k) := List.forall_mem_cons.mpr ⟨am_cw_X9_valley, List.forall_mem_cons.mpr ⟨am_cw_X9_sound, List.forall_mem_cons.mpr ⟨am_cw_X9_siren, List.forall_mem_cons.mpr ⟨am_cw_X9_walkers, List.forall_mem_cons.mpr ⟨am_cw_X9_trust, List.forall_mem_cons.mpr ⟨am_cw_X9_saved, List.forall_mem_cons.mpr ⟨am_cw_X9_alarm, List.forall_mem_cons.mpr ⟨am_cw_X9_pass, List.forall_mem_cons.mpr ⟨am_cw_X9_isModel, List.forall_mem_cons.mpr ⟨am_cw_X9_isHour, List.forall_mem_cons.mpr ⟨am_cw_X9_isDam, List.forall_mem_cons.mpr ⟨am_cw_X9_isRun, List.forall_mem_cons.mpr ⟨am_cw_X9_isSiren, List.forall_mem_cons.mpr ⟨am_cw_X9_reasonAgainst, List.forall_mem_cons.mpr ⟨am_cw_X9_isGoodFor, List.forall_mem_cons.mpr ⟨am_cw_X9_stampRuns, fun _ h => absurd h List.not_mem_nil⟩⟩⟩⟩⟩⟩⟩⟩⟩⟩⟩⟩⟩⟩⟩⟩
def am_allK_6 : List Nat := [96, 97, 98, 99, 100, 101, 102, 103, 104, 105, 106, 107, 108, 109, 110, 111]
theorem am_cws_6 : ∀ k ∈ am_allK_6, am_in (am_cw k) := List.forall_mem_cons.mpr ⟨am_cw_X9_maySound, List.forall_mem_cons.mpr ⟨am_cw_X9_passHourAt, List.forall_mem_cons.mpr ⟨am_cw_X9_judge, List.forall_mem_cons.mpr ⟨am_cw_X9_bitsOf, List.forall_mem_cons.mpr ⟨am_cw_X10_init, List.forall_mem_cons.mpr ⟨am_cw_X10_thrown, List.forall_mem_cons.mpr ⟨am_cw_X10_holds, List.forall_mem_cons.mpr ⟨am_cw_X10_isIn, List.forall_mem_cons.mpr ⟨am_cw_X10_isModel, List.forall_mem_cons.mpr ⟨am_cw_X10_isDam, List.forall_mem_cons.mpr ⟨am_cw_X10_isVersion, List.forall_mem_cons.mpr ⟨am_cw_X10_isRun, List.forall_mem_cons.mpr ⟨am_cw_X10_isFigure, List.forall_mem_cons.mpr ⟨am_cw_X10_isSign, List.forall_mem_cons.mpr ⟨am_cw_X10_inputs, List.forall_mem_cons.mpr ⟨am_cw_X10_figures, fun _ h => absurd h List.not_mem_nil⟩⟩⟩⟩⟩⟩⟩⟩⟩⟩⟩⟩⟩⟩⟩⟩
def am_allK_7 : List Nat := [112, 113, 114, 115, 116, 117, 118, 119, 120, 121, 122, 123, 124, 125, 126, 127]
theorem am_cws_7 : ∀ k ∈ am_allK_7, am_in (am_cw k) := List.forall_mem_cons.mpr ⟨am_cw_X10_isPlain, List.forall_mem_cons.mpr ⟨am_cw_X10_type, List.forall_mem_cons.mpr ⟨am_cw_X10_wipe, List.forall_mem_cons.mpr ⟨am_cw_X10_begun, List.forall_mem_cons.mpr ⟨am_cw_X10_faultOf, List.forall_mem_cons.mpr ⟨am_cw_X10_fault, List.forall_mem_cons.mpr ⟨am_cw_X10_kept, List.forall_mem_cons.mpr ⟨am_cw_X10_puts, List.forall_mem_cons.mpr ⟨am_cw_X10_pops, List.forall_mem_cons.mpr ⟨am_cw_X10_applies, List.forall_mem_cons.mpr ⟨am_cw_X10_closes, List.forall_mem_cons.mpr ⟨am_cw_X10_waitsFor, List.forall_mem_cons.mpr ⟨am_cw_X10_waitsOn, List.forall_mem_cons.mpr ⟨am_cw_X10_named, List.forall_mem_cons.mpr ⟨am_cw_X10_putsNumber, List.forall_mem_cons.mpr ⟨am_cw_X10_goesOn, fun _ h => absurd h List.not_mem_nil⟩⟩⟩⟩⟩⟩⟩⟩⟩⟩⟩⟩⟩⟩⟩⟩
def am_allK_8 : List Nat := [128, 129, 130, 131, 132, 133, 134, 135, 136, 137, 138, 139, 140, 141, 142, 143]
theorem am_cws_8 : ∀ k ∈ am_allK_8, am_in (am_cw k) := List.forall_mem_cons.mpr ⟨am_cw_X10_worth, List.forall_mem_cons.mpr ⟨am_cw_X10_names, List.forall_mem_cons.mpr ⟨am_cw_X10_namesOfDraft, List.forall_mem_cons.mpr ⟨am_cw_X10_laysReach, List.forall_mem_cons.mpr ⟨am_cw_X10_restsOn, List.forall_mem_cons.mpr ⟨am_cw_X10_resting, List.forall_mem_cons.mpr ⟨am_cw_X10_canName, List.forall_mem_cons.mpr ⟨am_cw_X10_enters, List.forall_mem_cons.mpr ⟨am_cw_X10_isStale, List.forall_mem_cons.mpr ⟨am_cw_X10_nextStale, List.forall_mem_cons.mpr ⟨am_cw_X10_publish, List.forall_mem_cons.mpr ⟨am_cw_X10_retire, List.forall_mem_cons.mpr ⟨am_cw_X10_latest, List.forall_mem_cons.mpr ⟨am_cw_X10_pin, List.forall_mem_cons.mpr ⟨am_cw_X10_rain, List.forall_mem_cons.mpr ⟨am_cw_X10_closure, fun _ h => absurd h List.not_mem_nil⟩⟩⟩⟩⟩⟩⟩⟩⟩⟩⟩⟩⟩⟩⟩⟩
def am_allK_9 : List Nat := [144, 145, 146, 147, 148, 149, 150, 151, 152, 153, 154, 155, 156, 157, 158, 159]
theorem am_cws_9 : ∀ k ∈ am_allK_9, am_in (am_cw k) := List.forall_mem_cons.mpr ⟨am_cw_X10_finds, List.forall_mem_cons.mpr ⟨am_cw_X10_outOf, List.forall_mem_cons.mpr ⟨am_cw_X10_isAsked, List.forall_mem_cons.mpr ⟨am_cw_X10_out, List.forall_mem_cons.mpr ⟨am_cw_X10_outAnew, List.forall_mem_cons.mpr ⟨am_cw_X10_greatest, List.forall_mem_cons.mpr ⟨am_cw_X10_run, List.forall_mem_cons.mpr ⟨am_cw_X10_gaugesOf, List.forall_mem_cons.mpr ⟨am_cw_X10_whyOf, List.forall_mem_cons.mpr ⟨am_cw_X10_why, List.forall_mem_cons.mpr ⟨am_cw_X10_peak, List.forall_mem_cons.mpr ⟨am_cw_X10_peakHour, List.forall_mem_cons.mpr ⟨am_cw_X10_peakAnew, List.forall_mem_cons.mpr ⟨am_cw_X10_build, List.forall_mem_cons.mpr ⟨am_cw_X10_rule, List.forall_mem_cons.mpr ⟨am_cw_X10_isFor, fun _ h => absurd h List.not_mem_nil⟩⟩⟩⟩⟩⟩⟩⟩⟩⟩⟩⟩⟩⟩⟩⟩
def am_allK_10 : List Nat := [160, 161, 162, 163, 164, 165, 166, 167, 168, 169, 170, 171, 172, 173, 174, 175]
theorem am_cws_10 : ∀ k ∈ am_allK_10, am_in (am_cw k) := List.forall_mem_cons.mpr ⟨am_cw_X10_goBy, List.forall_mem_cons.mpr ⟨am_cw_X10_level, List.forall_mem_cons.mpr ⟨am_cw_X10_below, List.forall_mem_cons.mpr ⟨am_cw_X10_valley, List.forall_mem_cons.mpr ⟨am_cw_X10_rings, List.forall_mem_cons.mpr ⟨am_cw_X10_sound, List.forall_mem_cons.mpr ⟨am_cw_X10_isSiren, List.forall_mem_cons.mpr ⟨am_cw_X10_siren, List.forall_mem_cons.mpr ⟨am_cw_X10_walkers, List.forall_mem_cons.mpr ⟨am_cw_X10_trust, List.forall_mem_cons.mpr ⟨am_cw_X10_saved, List.forall_mem_cons.mpr ⟨am_cw_X10_alarm, List.forall_mem_cons.mpr ⟨am_cw_X10_asked, List.forall_mem_cons.mpr ⟨am_cw_X10_flows, List.forall_mem_cons.mpr ⟨am_cw_X10_judges, List.forall_mem_cons.mpr ⟨am_cw_X10_pass, fun _ h => absurd h List.not_mem_nil⟩⟩⟩⟩⟩⟩⟩⟩⟩⟩⟩⟩⟩⟩⟩⟩
def am_allK_11 : List Nat := [176, 177, 178, 179, 180, 181, 182, 183, 184, 185, 186, 187, 188, 189, 190, 191]
theorem am_cws_11 : ∀ k ∈ am_allK_11, am_in (am_cw k) := List.forall_mem_cons.mpr ⟨am_cw_Jxf58ca_isNaN_12338, List.forall_mem_cons.mpr ⟨am_cw_Jxf58ca_floatToIntBits_5c35a, List.forall_mem_cons.mpr ⟨am_cw_J6_bitCount_0f7a4, List.forall_mem_cons.mpr ⟨am_cw_J9_max_7cf53, List.forall_mem_cons.mpr ⟨am_cw_J9_min_7cf53, List.forall_mem_cons.mpr ⟨am_cw_J0_length_8abf5, List.forall_mem_cons.mpr ⟨am_cw_J0_indexOf_0f7a4, List.forall_mem_cons.mpr ⟨am_cw_J0_indexOf_7cf53, List.forall_mem_cons.mpr ⟨am_cw_J0_coder_7d493, List.forall_mem_cons.mpr ⟨am_cw_J0_isLatin1_aae02, List.forall_mem_cons.mpr ⟨am_cw_J1_canEncode_9a6ad, List.forall_mem_cons.mpr ⟨am_cw_J1_indexOf_4cfef, List.forall_mem_cons.mpr ⟨am_cw_J1_indexOfChar_4cfef, List.forall_mem_cons.mpr ⟨am_cw_L_type, List.forall_mem_cons.mpr ⟨am_cw_L_publish, List.forall_mem_cons.mpr ⟨am_cw_L_retire, fun _ h => absurd h List.not_mem_nil⟩⟩⟩⟩⟩⟩⟩⟩⟩⟩⟩⟩⟩⟩⟩⟩
def am_allK_12 : List Nat := [192, 193, 194, 195, 196, 197, 198, 199, 200, 201, 202, 203, 204, 205, 206, 207]
theorem am_cws_12 : ∀ k ∈ am_allK_12, am_in (am_cw k) := List.forall_mem_cons.mpr ⟨am_cw_L_latest, List.forall_mem_cons.mpr ⟨am_cw_L_pin, List.forall_mem_cons.mpr ⟨am_cw_L_rain, List.forall_mem_cons.mpr ⟨am_cw_L_out, List.forall_mem_cons.mpr ⟨am_cw_L_outAnew, List.forall_mem_cons.mpr ⟨am_cw_L_run, List.forall_mem_cons.mpr ⟨am_cw_L_why, List.forall_mem_cons.mpr ⟨am_cw_L_peak, List.forall_mem_cons.mpr ⟨am_cw_L_peakHour, List.forall_mem_cons.mpr ⟨am_cw_L_peakAnew, List.forall_mem_cons.mpr ⟨am_cw_L_build, List.forall_mem_cons.mpr ⟨am_cw_L_rule, List.forall_mem_cons.mpr ⟨am_cw_L_goBy, List.forall_mem_cons.mpr ⟨am_cw_L_level, List.forall_mem_cons.mpr ⟨am_cw_L_below, List.forall_mem_cons.mpr ⟨am_cw_L_valley, fun _ h => absurd h List.not_mem_nil⟩⟩⟩⟩⟩⟩⟩⟩⟩⟩⟩⟩⟩⟩⟩⟩
def am_allK_13 : List Nat := [208, 209, 210, 211, 212, 213]
theorem am_cws_13 : ∀ k ∈ am_allK_13, am_in (am_cw k) := List.forall_mem_cons.mpr ⟨am_cw_L_sound, List.forall_mem_cons.mpr ⟨am_cw_L_siren, List.forall_mem_cons.mpr ⟨am_cw_L_walkers, List.forall_mem_cons.mpr ⟨am_cw_L_trust, List.forall_mem_cons.mpr ⟨am_cw_L_saved, List.forall_mem_cons.mpr ⟨am_cw_L_pass, fun _ h => absurd h List.not_mem_nil⟩⟩⟩⟩⟩⟩
def am_inK (k : Nat) : Bool := decide (k ∈ am_allK_0) || decide (k ∈ am_allK_1) || decide (k ∈ am_allK_2) || decide (k ∈ am_allK_3) || decide (k ∈ am_allK_4) || decide (k ∈ am_allK_5) || decide (k ∈ am_allK_6) || decide (k ∈ am_allK_7) || decide (k ∈ am_allK_8) || decide (k ∈ am_allK_9) || decide (k ∈ am_allK_10) || decide (k ∈ am_allK_11) || decide (k ∈ am_allK_12) || decide (k ∈ am_allK_13)
theorem am_inK_ok : (List.range 214).all am_inK = true := by decide +kernel
theorem am_cws : ∀ k, k < 214 → am_in (am_cw k) := by
  intro k hk
  have hm := List.all_eq_true.mp am_inK_ok k (List.mem_range.mpr hk)
  unfold am_inK at hm
  simp only [Bool.or_eq_true, decide_eq_true_eq, or_assoc] at hm
  rcases hm with h | h | h | h | h | h | h | h | h | h | h | h | h | h
  · exact am_cws_0 k h
  · exact am_cws_1 k h
  · exact am_cws_2 k h
  · exact am_cws_3 k h
  · exact am_cws_4 k h
  · exact am_cws_5 k h
  · exact am_cws_6 k h
  · exact am_cws_7 k h
  · exact am_cws_8 k h
  · exact am_cws_9 k h
  · exact am_cws_10 k h
  · exact am_cws_11 k h
  · exact am_cws_12 k h
  · exact am_cws_13 k h
