/-! own: what the tables say is so, by decision -/
def am_WS : List Jvm.Cond := lw_tbl.filter goodWord
def am_in (x : Jvm.Cond) : Prop := x ∈ am_WS
theorem am_in_of {i : Nat} {x : Jvm.Cond} (h : lw_tbl[i]? = some x) (hg : goodWord x = true) : am_in x := List.mem_filter.mpr ⟨List.mem_of_getElem? h, hg⟩
theorem am_find_mem {α : Type} : ∀ {l : List (Nat × α)} {q : Nat} {x : α}, am_find l q = some x → (q, x) ∈ l
  | [], q, x, h => by cases h
  | e :: l, q, x, h => by
    unfold am_find at h
    cases hb : Nat.beq e.1 q with
    | true =>
      rw [hb] at h
      have h1 : e.1 = q := Nat.eq_of_beq_eq_true hb
      have h2 : e.2 = x := Option.some.inj h
      rw [← h1, ← h2]
      exact List.mem_cons_self
    | false =>
      rw [hb] at h
      exact List.mem_cons_of_mem _ (am_find_mem h)
def am_get (i : Nat) (x : Jvm.Cond) : Bool := decide (lw_tbl[i]? = some x) && goodWord x
theorem am_get_in {i : Nat} {x : Jvm.Cond} (h : am_get i x = true) : am_in x := by
  unfold am_get at h
  simp only [Bool.and_eq_true, decide_eq_true_eq] at h
  exact am_in_of h.1 h.2
def am_fldB (e : Nat × Nat × Nat × Nat) : Bool := am_get e.2.2.2 (.fieldLink (am_R (e.1 / 10000)) (e.1 % 10000) (am_TX e.2.1 e.2.2.1).1 (am_TX e.2.1 e.2.2.1).2.1 (am_TX e.2.1 e.2.2.1).2.2.1) && Nat.blt e.2.1 10 && Nat.blt e.2.2.1 (am_nf e.2.1)
set_option maxRecDepth 100000 in
theorem am_fld_ok : am_fldL.all am_fldB = true := by decide +kernel
/-- words that a warmed machine keeps, but that the kit's good ones are not -/
def am_nw : Jvm.Cond → Bool
  | .declares _ => true
  | .castable _ _ => true
  | .methodLinkNest _ _ _ _ => true
  | _ => false
def am_NW : List Jvm.Cond := lw_tbl.filter am_nw
def am_getN (i : Nat) (x : Jvm.Cond) : Bool := decide (lw_tbl[i]? = some x) && am_nw x
theorem am_getN_in {i : Nat} {x : Jvm.Cond} (h : am_getN i x = true) : x ∈ am_NW := by
  unfold am_getN at h
  simp only [Bool.and_eq_true, decide_eq_true_eq] at h
  exact List.mem_filter.mpr ⟨List.mem_of_getElem? h.1, h.2⟩
theorem am_nw_warm {w : Jvm.Cond} (h : am_nw w = true) {s U : State} (hW : s.WarmedH U.vm) (hZ : va_Nw w s) : va_Nw w U := by
  cases w <;> first | exact absurd (show false = true from h) Bool.false_ne_true | skip
  case declares x => exact hZ.warmD hW
  case castable a b => exact hZ.warmC hW
  case methodLinkNest a b x z => exact hZ.warmM hW
theorem am_nw_tab {w : Jvm.Cond} (h : am_nw w = true) : w.onTables = true := by
  cases w <;> first | exact absurd (show false = true from h) Bool.false_ne_true | rfl
def am_mthB (e : Nat × Nat × Nat × Nat × Nat) : Bool := if Nat.blt e.2.2.2.1 10 then am_get e.2.2.2.2 (.methodLink (am_R (e.1 / 10000)) (e.1 % 10000) (am_y e.2.1)) else am_getN e.2.2.2.2 (.methodLinkNest (am_R (e.1 / 10000)) (e.1 % 10000) (am_y e.2.1) RX9)
set_option maxRecDepth 100000 in
theorem am_mth_ok : am_mthL.all am_mthB = true := by decide +kernel
def am_cpn (a : Nat) : String := match a with
  | 30 => RX8
  | 31 => RX5
  | 32 => RX0
  | 33 => RX7
  | 34 => "[[I"
  | 100 => "java/lang/IndexOutOfBoundsException"
  | 101 => "java/lang/IllegalArgumentException"
  | 102 => "java/lang/IllegalStateException"
  | a => am_R a
def am_cpcB (e : Nat × Nat × Nat) : Bool := am_get e.2.2 (.classLink (am_R (e.1 / 10000)) (e.1 % 10000) (am_cpn e.2.1))
set_option maxRecDepth 100000 in
theorem am_cpc_ok : am_cpcL.all am_cpcB = true := by decide +kernel
set_option maxRecDepth 100000 in
theorem am_cpq_ok : am_cpqL.all am_cpcB = true := by decide +kernel
def am_cstB (e : Nat × Nat × Nat × Nat) : Bool := am_get e.2.2.2 (match e.2.1 with
  | 0 => .constant (am_R (e.1 / 10000)) (e.1 % 10000) (nI e.2.2.1)
  | 1 => .constantFloat (am_R (e.1 / 10000)) (e.1 % 10000) (UInt32.ofNat e.2.2.1)
  | _ => .constant (am_R (e.1 / 10000)) (e.1 % 10000) (-(nI e.2.2.1)))
set_option maxRecDepth 100000 in
theorem am_cst_ok : am_cstL.all am_cstB = true := by decide +kernel
def am_oiB (e : Nat × Nat) : Bool := am_get e.2 (.methodLink (am_R (e.1 / 10000)) (e.1 % 10000) objectInit)
set_option maxRecDepth 100000 in
theorem am_oi_ok : am_oiL.all am_oiB = true := by decide +kernel
/-- the words of a method itself -/
def am_cw (k : Nat) : Jvm.Cond := if (am_hh k).isEmpty then .code (am_y k) (am_cc k) (am_ml k) (am_rt k) else .codeWith (am_y k) (am_cc k) (am_ml k) (am_rt k) (am_hh k)
def am_wy (k : Nat) : Nat × Nat × Nat × Nat := am_nt am_wyL k (0, 0, 0, 0)
def am_pB (k : Nat) : Bool := am_get (am_wy k).2.1 (if Nat.beq (am_st k) 1 then .static (am_y k) else .instanceMethod (am_y k)) && am_get (am_wy k).2.2.2 (.initialized (am_y k).cls) && decide ((am_y k).cls = am_R (am_oc k)) && decide ((am_y k).cls ≠ "java/lang/invoke/MethodHandle") && decide ((am_y k).cls ≠ "java/lang/invoke/VarHandle") && plainFor (am_y k)
set_option maxRecDepth 100000 in
theorem am_p_ok : (List.range 133).all am_pB = true := by decide +kernel
/-- the methods that are chosen by the receiver's class -/
def am_vL : List Nat := [1, 4, 5, 6, 8, 9, 10, 11, 13, 14, 15, 16, 17, 18, 19, 20, 21, 22, 23, 24, 25, 26, 27, 30, 31, 33, 34, 36, 38, 39, 40, 41, 42, 43, 44, 45, 46, 47, 48, 49, 50, 51, 52, 53, 54, 55, 56, 60, 61, 62, 63, 64, 65, 66, 67, 68, 69, 70, 71, 72, 73, 74, 75, 76, 77, 78, 79, 80, 81, 82, 83, 84, 85, 86, 87, 90, 91, 92, 93, 94, 95, 96, 97, 98, 103, 104, 105, 106, 107]
def am_vB (k : Nat) : Bool := am_get (am_wy k).2.2.1 (.selects (am_y k).cls (am_y k) (am_y k))
set_option maxRecDepth 100000 in
theorem am_v_ok : am_vL.all am_vB = true := by decide +kernel
def am_clsB (c : Nat) : Bool := (u_ws (am_R c) (am_TX c) (am_nf c)).all (fun x => decide (x ∈ lw_tbl) && goodWord x)
set_option maxRecDepth 100000 in
theorem am_cls_ok : (List.range 10).all am_clsB = true := by decide +kernel
def am_dv (t : Nat) : Value := match t with
  | 0 => .int 0
  | 1 => .long 0
  | 2 => .float 0
  | _ => .null
def am_tyB (c : Nat) : Bool := (List.range (am_nf c)).all fun j => decide (defaultValue (am_tyX c j) = am_dv (am_ft c j)) && (match am_ft c j with
  | 0 => (if Nat.beq (am_fz c j) 1 then decide (am_tyX c j = .boolean) else decide (am_tyX c j = .int))
  | 1 => decide (am_tyX c j = .long)
  | 2 => decide (am_tyX c j = .float)
  | _ => am_tyX c j matches .object _ | .array _)
set_option maxRecDepth 100000 in
theorem am_ty_ok : (List.range 10).all am_tyB = true := by decide +kernel
set_option maxRecDepth 100000 in
theorem am_cw_X0_init : am_in (am_cw mX0_init) := am_in_of (i := 268) rfl rfl
set_option maxRecDepth 100000 in
theorem am_cw_X0_letThrough : am_in (am_cw mX0_letThrough) := am_in_of (i := 1032) rfl rfl
set_option maxRecDepth 100000 in
theorem am_cw_X1_init : am_in (am_cw mX1_init) := am_in_of (i := 69) rfl rfl
set_option maxRecDepth 100000 in
theorem am_cw_X1_mayHold : am_in (am_cw mX1_mayHold) := am_in_of (i := 639) rfl rfl
set_option maxRecDepth 100000 in
theorem am_cw_X1_isFull : am_in (am_cw mX1_isFull) := am_in_of (i := 744) rfl rfl
set_option maxRecDepth 100000 in
theorem am_cw_X1_add : am_in (am_cw mX1_add) := am_in_of (i := 764) rfl rfl
set_option maxRecDepth 100000 in
theorem am_cw_X1_clear : am_in (am_cw mX1_clear) := am_in_of (i := 393) rfl rfl
set_option maxRecDepth 100000 in
theorem am_cw_X2_init : am_in (am_cw mX2_init) := am_in_of (i := 91) rfl rfl
set_option maxRecDepth 100000 in
theorem am_cw_X2_clear : am_in (am_cw mX2_clear) := am_in_of (i := 405) rfl rfl
set_option maxRecDepth 100000 in
theorem am_cw_X2_add : am_in (am_cw mX2_add) := am_in_of (i := 437) rfl rfl
set_option maxRecDepth 100000 in
theorem am_cw_X2_addName : am_in (am_cw mX2_addName) := am_in_of (i := 433) rfl rfl
set_option maxRecDepth 100000 in
theorem am_cw_X2_copy : am_in (am_cw mX2_copy) := am_in_of (i := 815) rfl rfl
set_option maxRecDepth 100000 in
theorem am_cw_X3_init : am_in (am_cw mX3_init) := am_in_of (i := 85) rfl rfl
set_option maxRecDepth 100000 in
theorem am_cw_X3_read : am_in (am_cw mX3_read) := am_in_of (i := 401) rfl rfl
set_option maxRecDepth 100000 in
theorem am_cw_X3_takes : am_in (am_cw mX3_takes) := am_in_of (i := 409) rfl rfl
set_option maxRecDepth 100000 in
theorem am_cw_X3_startsNumber : am_in (am_cw mX3_startsNumber) := am_in_of (i := 413) rfl rfl
set_option maxRecDepth 100000 in
theorem am_cw_X3_startsFactor : am_in (am_cw mX3_startsFactor) := am_in_of (i := 417) rfl rfl
set_option maxRecDepth 100000 in
theorem am_cw_X3_startsFunction : am_in (am_cw mX3_startsFunction) := am_in_of (i := 425) rfl rfl
set_option maxRecDepth 100000 in
theorem am_cw_X3_endsName : am_in (am_cw mX3_endsName) := am_in_of (i := 429) rfl rfl
set_option maxRecDepth 100000 in
theorem am_cw_X3_startsName : am_in (am_cw mX3_startsName) := am_in_of (i := 441) rfl rfl
set_option maxRecDepth 100000 in
theorem am_cw_X3_takesFigure : am_in (am_cw mX3_takesFigure) := am_in_of (i := 445) rfl rfl
set_option maxRecDepth 100000 in
theorem am_cw_X3_endNumber : am_in (am_cw mX3_endNumber) := am_in_of (i := 454) rfl rfl
set_option maxRecDepth 100000 in
theorem am_cw_X3_goesOn : am_in (am_cw mX3_goesOn) := am_in_of (i := 450) rfl rfl
set_option maxRecDepth 100000 in
theorem am_cw_X3_operates : am_in (am_cw mX3_operates) := am_in_of (i := 458) rfl rfl
set_option maxRecDepth 100000 in
theorem am_cw_X3_takesComma : am_in (am_cw mX3_takesComma) := am_in_of (i := 469) rfl rfl
set_option maxRecDepth 100000 in
theorem am_cw_X3_takesBracket : am_in (am_cw mX3_takesBracket) := am_in_of (i := 473) rfl rfl
set_option maxRecDepth 100000 in
theorem am_cw_X3_hold : am_in (am_cw mX3_hold) := am_in_of (i := 421) rfl rfl
set_option maxRecDepth 100000 in
theorem am_cw_X3_settle : am_in (am_cw mX3_settle) := am_in_of (i := 462) rfl rfl
set_option maxRecDepth 100000 in
theorem am_cw_X3_strengthOf : am_in (am_cw mX3_strengthOf) := am_in_of (i := 465) rfl rfl
set_option maxRecDepth 100000 in
theorem am_cw_X4_init : am_in (am_cw mX4_init) := am_in_of (i := 157) rfl rfl
set_option maxRecDepth 100000 in
theorem am_cw_X4_workOut : am_in (am_cw mX4_workOut) := am_in_of (i := 597) rfl rfl
set_option maxRecDepth 100000 in
theorem am_cw_X4_operate : am_in (am_cw mX4_operate) := am_in_of (i := 608) rfl rfl
set_option maxRecDepth 100000 in
theorem am_cw_X4_join : am_in (am_cw mX4_join) := am_in_of (i := 615) rfl rfl
set_option maxRecDepth 100000 in
theorem am_cw_X4_keep : am_in (am_cw mX4_keep) := am_in_of (i := 602) rfl rfl
set_option maxRecDepth 100000 in
theorem am_cw_X4_take : am_in (am_cw mX4_take) := am_in_of (i := 612) rfl rfl
set_option maxRecDepth 100000 in
theorem am_cw_X5_init : am_in (am_cw mX5_init) := am_in_of (i := 234) rfl rfl
set_option maxRecDepth 100000 in
theorem am_cw_X5_lookAhead : am_in (am_cw mX5_lookAhead) := am_in_of (i := 578) rfl rfl
set_option maxRecDepth 100000 in
theorem am_cw_X6_init : am_in (am_cw mX6_init) := am_in_of (i := 151) rfl rfl
set_option maxRecDepth 100000 in
theorem am_cw_X6_has : am_in (am_cw mX6_has) := am_in_of (i := 586) rfl rfl
set_option maxRecDepth 100000 in
theorem am_cw_X6_latestOf : am_in (am_cw mX6_latestOf) := am_in_of (i := 552) rfl rfl
set_option maxRecDepth 100000 in
theorem am_cw_X6_isLatest : am_in (am_cw mX6_isLatest) := am_in_of (i := 934) rfl rfl
set_option maxRecDepth 100000 in
theorem am_cw_X6_modelOf : am_in (am_cw mX6_modelOf) := am_in_of (i := 982) rfl rfl
set_option maxRecDepth 100000 in
theorem am_cw_X6_pinOf : am_in (am_cw mX6_pinOf) := am_in_of (i := 827) rfl rfl
set_option maxRecDepth 100000 in
theorem am_cw_X6_names : am_in (am_cw mX6_names) := am_in_of (i := 876) rfl rfl
set_option maxRecDepth 100000 in
theorem am_cw_X6_modelsUnder : am_in (am_cw mX6_modelsUnder) := am_in_of (i := 790) rfl rfl
set_option maxRecDepth 100000 in
theorem am_cw_X6_namedBy : am_in (am_cw mX6_namedBy) := am_in_of (i := 794) rfl rfl
set_option maxRecDepth 100000 in
theorem am_cw_X6_modelsOn : am_in (am_cw mX6_modelsOn) := am_in_of (i := 786) rfl rfl
set_option maxRecDepth 100000 in
theorem am_cw_X6_mayTake : am_in (am_cw mX6_mayTake) := am_in_of (i := 782) rfl rfl
set_option maxRecDepth 100000 in
theorem am_cw_X6_take : am_in (am_cw mX6_take) := am_in_of (i := 806) rfl rfl
set_option maxRecDepth 100000 in
theorem am_cw_X6_shelve : am_in (am_cw mX6_shelve) := am_in_of (i := 810) rfl rfl
set_option maxRecDepth 100000 in
theorem am_cw_X6_nextToBind : am_in (am_cw mX6_nextToBind) := am_in_of (i := 819) rfl rfl
set_option maxRecDepth 100000 in
theorem am_cw_X6_pinsOld : am_in (am_cw mX6_pinsOld) := am_in_of (i := 823) rfl rfl
set_option maxRecDepth 100000 in
theorem am_cw_X6_giveUp : am_in (am_cw mX6_giveUp) := am_in_of (i := 854) rfl rfl
set_option maxRecDepth 100000 in
theorem am_cw_X6_tellRain : am_in (am_cw mX6_tellRain) := am_in_of (i := 868) rfl rfl
set_option maxRecDepth 100000 in
theorem am_cw_X6_forget : am_in (am_cw mX6_forget) := am_in_of (i := 946) rfl rfl
set_option maxRecDepth 100000 in
theorem am_cw_X6_outputOf : am_in (am_cw mX6_outputOf) := am_in_of (i := 582) rfl rfl
set_option maxRecDepth 100000 in
theorem am_cw_X6_fill : am_in (am_cw mX6_fill) := am_in_of (i := 593) rfl rfl
set_option maxRecDepth 100000 in
theorem am_cw_X7_init : am_in (am_cw mX7_init) := am_in_of (i := 332) rfl rfl
set_option maxRecDepth 100000 in
theorem am_cw_X8_init : am_in (am_cw mX8_init) := am_in_of (i := 179) rfl rfl
set_option maxRecDepth 100000 in
theorem am_cw_X9_init : am_in (am_cw mX9_init) := am_in_of (i := 61) rfl rfl
set_option maxRecDepth 100000 in
theorem am_cw_X9_type : am_in (am_cw mX9_type) := am_in_of (i := 636) rfl rfl
set_option maxRecDepth 100000 in
theorem am_cw_X9_wipe : am_in (am_cw mX9_wipe) := am_in_of (i := 389) rfl rfl
set_option maxRecDepth 100000 in
theorem am_cw_X9_fault : am_in (am_cw mX9_fault) := am_in_of (i := 397) rfl rfl
set_option maxRecDepth 100000 in
theorem am_cw_X9_publish : am_in (am_cw mX9_publish) := am_in_of (i := 777) rfl rfl
set_option maxRecDepth 100000 in
theorem am_cw_X9_retire : am_in (am_cw mX9_retire) := am_in_of (i := 848) rfl rfl
set_option maxRecDepth 100000 in
theorem am_cw_X9_latest : am_in (am_cw mX9_latest) := am_in_of (i := 477) rfl rfl
set_option maxRecDepth 100000 in
theorem am_cw_X9_pin : am_in (am_cw mX9_pin) := am_in_of (i := 831) rfl rfl
set_option maxRecDepth 100000 in
theorem am_cw_X9_rain : am_in (am_cw mX9_rain) := am_in_of (i := 861) rfl rfl
set_option maxRecDepth 100000 in
theorem am_cw_X9_out : am_in (am_cw mX9_out) := am_in_of (i := 953) rfl rfl
set_option maxRecDepth 100000 in
theorem am_cw_X9_outAnew : am_in (am_cw mX9_outAnew) := am_in_of (i := 1047) rfl rfl
set_option maxRecDepth 100000 in
theorem am_cw_X9_run : am_in (am_cw mX9_run) := am_in_of (i := 915) rfl rfl
set_option maxRecDepth 100000 in
theorem am_cw_X9_why : am_in (am_cw mX9_why) := am_in_of (i := 921) rfl rfl
set_option maxRecDepth 100000 in
theorem am_cw_X9_peak : am_in (am_cw mX9_peak) := am_in_of (i := 938) rfl rfl
set_option maxRecDepth 100000 in
theorem am_cw_X9_peakHour : am_in (am_cw mX9_peakHour) := am_in_of (i := 963) rfl rfl
set_option maxRecDepth 100000 in
theorem am_cw_X9_peakAnew : am_in (am_cw mX9_peakAnew) := am_in_of (i := 942) rfl rfl
set_option maxRecDepth 100000 in
theorem am_cw_X9_build : am_in (am_cw mX9_build) := am_in_of (i := 884) rfl rfl
set_option maxRecDepth 100000 in
theorem am_cw_X9_rule : am_in (am_cw mX9_rule) := am_in_of (i := 896) rfl rfl
set_option maxRecDepth 100000 in
theorem am_cw_X9_goBy : am_in (am_cw mX9_goBy) := am_in_of (i := 973) rfl rfl
set_option maxRecDepth 100000 in
theorem am_cw_X9_level : am_in (am_cw mX9_level) := am_in_of (i := 880) rfl rfl
set_option maxRecDepth 100000 in
theorem am_cw_X9_below : am_in (am_cw mX9_below) := am_in_of (i := 1053) rfl rfl
set_option maxRecDepth 100000 in
theorem am_cw_X9_valley : am_in (am_cw mX9_valley) := am_in_of (i := 907) rfl rfl
set_option maxRecDepth 100000 in
theorem am_cw_X9_sound : am_in (am_cw mX9_sound) := am_in_of (i := 997) rfl rfl
set_option maxRecDepth 100000 in
theorem am_cw_X9_siren : am_in (am_cw mX9_siren) := am_in_of (i := 1015) rfl rfl
set_option maxRecDepth 100000 in
theorem am_cw_X9_walkers : am_in (am_cw mX9_walkers) := am_in_of (i := 1006) rfl rfl
set_option maxRecDepth 100000 in
theorem am_cw_X9_trust : am_in (am_cw mX9_trust) := am_in_of (i := 556) rfl rfl
set_option maxRecDepth 100000 in
theorem am_cw_X9_saved : am_in (am_cw mX9_saved) := am_in_of (i := 903) rfl rfl
set_option maxRecDepth 100000 in
theorem am_cw_X9_alarm : am_in (am_cw mX9_alarm) := am_in_of (i := 571) rfl rfl
set_option maxRecDepth 100000 in
theorem am_cw_X9_pass : am_in (am_cw mX9_pass) := am_in_of (i := 1022) rfl rfl
set_option maxRecDepth 100000 in
theorem am_cw_X9_isModel : am_in (am_cw mX9_isModel) := am_in_of (i := 480) rfl rfl
set_option maxRecDepth 100000 in
theorem am_cw_X9_isHour : am_in (am_cw mX9_isHour) := am_in_of (i := 589) rfl rfl
set_option maxRecDepth 100000 in
theorem am_cw_X9_isDam : am_in (am_cw mX9_isDam) := am_in_of (i := 560) rfl rfl
set_option maxRecDepth 100000 in
theorem am_cw_X9_isRun : am_in (am_cw mX9_isRun) := am_in_of (i := 925) rfl rfl
set_option maxRecDepth 100000 in
theorem am_cw_X9_isSiren : am_in (am_cw mX9_isSiren) := am_in_of (i := 1010) rfl rfl
set_option maxRecDepth 100000 in
theorem am_cw_X9_reasonAgainst : am_in (am_cw mX9_reasonAgainst) := am_in_of (i := 930) rfl rfl
set_option maxRecDepth 100000 in
theorem am_cw_X9_isGoodFor : am_in (am_cw mX9_isGoodFor) := am_in_of (i := 978) rfl rfl
set_option maxRecDepth 100000 in
theorem am_cw_X9_stampRuns : am_in (am_cw mX9_stampRuns) := am_in_of (i := 872) rfl rfl
set_option maxRecDepth 100000 in
theorem am_cw_X9_maySound : am_in (am_cw mX9_maySound) := am_in_of (i := 1001) rfl rfl
set_option maxRecDepth 100000 in
theorem am_cw_X9_passHourAt : am_in (am_cw mX9_passHourAt) := am_in_of (i := 1027) rfl rfl
set_option maxRecDepth 100000 in
theorem am_cw_X9_judge : am_in (am_cw mX9_judge) := am_in_of (i := 1037) rfl rfl
set_option maxRecDepth 100000 in
theorem am_cw_X9_bitsOf : am_in (am_cw mX9_bitsOf) := am_in_of (i := 564) rfl rfl
set_option maxRecDepth 100000 in
theorem am_cw_J6_bitCount_0f7a4 : am_in (am_cw mJ6_bitCount_0f7a4) := am_in_of (i := 798) rfl rfl
set_option maxRecDepth 100000 in
theorem am_cw_J9_max_7cf53 : am_in (am_cw mJ9_max_7cf53) := am_in_of (i := 671) rfl rfl
set_option maxRecDepth 100000 in
theorem am_cw_J9_min_7cf53 : am_in (am_cw mJ9_min_7cf53) := am_in_of (i := 574) rfl rfl
set_option maxRecDepth 100000 in
theorem am_cw_J0_length_8abf5 : am_in (am_cw mJ0_length_8abf5) := am_in_of (i := 658) rfl rfl
set_option maxRecDepth 100000 in
theorem am_cw_J0_indexOf_0f7a4 : am_in (am_cw mJ0_indexOf_0f7a4) := am_in_of (i := 644) rfl rfl
set_option maxRecDepth 100000 in
theorem am_cw_J0_indexOf_7cf53 : am_in (am_cw mJ0_indexOf_7cf53) := am_in_of (i := 648) rfl rfl
set_option maxRecDepth 100000 in
theorem am_cw_J0_coder_7d493 : am_in (am_cw mJ0_coder_7d493) := am_in_of (i := 662) rfl rfl
set_option maxRecDepth 100000 in
theorem am_cw_J0_isLatin1_aae02 : am_in (am_cw mJ0_isLatin1_aae02) := am_in_of (i := 652) rfl rfl
set_option maxRecDepth 100000 in
theorem am_cw_J1_canEncode_9a6ad : am_in (am_cw mJ1_canEncode_9a6ad) := am_in_of (i := 668) rfl rfl
set_option maxRecDepth 100000 in
theorem am_cw_J1_indexOf_4cfef : am_in (am_cw mJ1_indexOf_4cfef) := am_in_of (i := 665) rfl rfl
set_option maxRecDepth 100000 in
theorem am_cw_J1_indexOfChar_4cfef : am_in (am_cw mJ1_indexOfChar_4cfef) := am_in_of (i := 675) rfl rfl
set_option maxRecDepth 100000 in
theorem am_cw_L_draw : am_in (am_cw mL_draw) := am_in_of (i := 618) rfl rfl
set_option maxRecDepth 100000 in
theorem am_cw_L_step : am_in (am_cw mL_step) := am_in_of (i := 624) rfl rfl
set_option maxRecDepth 100000 in
theorem am_cw_L_key : am_in (am_cw mL_key) := am_in_of (i := 959) rfl rfl
set_option maxRecDepth 100000 in
theorem am_cw_L_bits : am_in (am_cw mL_bits) := am_in_of (i := 989) rfl rfl
set_option maxRecDepth 100000 in
theorem am_cw_L_inputs : am_in (am_cw mL_inputs) := am_in_of (i := 767) rfl rfl
set_option maxRecDepth 100000 in
theorem am_cw_L_types : am_in (am_cw mL_types) := am_in_of (i := 632) rfl rfl
set_option maxRecDepth 100000 in
theorem am_cw_L_texts : am_in (am_cw mL_texts) := am_in_of (i := 627) rfl rfl
set_option maxRecDepth 100000 in
theorem am_cw_L_factor : am_in (am_cw mL_factor) := am_in_of (i := 770) rfl rfl
set_option maxRecDepth 100000 in
theorem am_cw_L_publishes : am_in (am_cw mL_publishes) := am_in_of (i := 773) rfl rfl
set_option maxRecDepth 100000 in
theorem am_cw_L_letters : am_in (am_cw mL_letters) := am_in_of (i := 837) rfl rfl
set_option maxRecDepth 100000 in
theorem am_cw_L_follows : am_in (am_cw mL_follows) := am_in_of (i := 840) rfl rfl
set_option maxRecDepth 100000 in
theorem am_cw_L_ofRetire : am_in (am_cw mL_ofRetire) := am_in_of (i := 843) rfl rfl
set_option maxRecDepth 100000 in
theorem am_cw_L_isNamed : am_in (am_cw mL_isNamed) := am_in_of (i := 857) rfl rfl
set_option maxRecDepth 100000 in
theorem am_cw_L_rules : am_in (am_cw mL_rules) := am_in_of (i := 892) rfl rfl
set_option maxRecDepth 100000 in
theorem am_cw_L_runs : am_in (am_cw mL_runs) := am_in_of (i := 911) rfl rfl
set_option maxRecDepth 100000 in
theorem am_cw_L_isPeak : am_in (am_cw mL_isPeak) := am_in_of (i := 949) rfl rfl
set_option maxRecDepth 100000 in
theorem am_cw_L_goes : am_in (am_cw mL_goes) := am_in_of (i := 966) rfl rfl
set_option maxRecDepth 100000 in
theorem am_cw_L_ofGo : am_in (am_cw mL_ofGo) := am_in_of (i := 969) rfl rfl
set_option maxRecDepth 100000 in
theorem am_cw_L_ofSound : am_in (am_cw mL_ofSound) := am_in_of (i := 993) rfl rfl
set_option maxRecDepth 100000 in
theorem am_cw_L_sounds : am_in (am_cw mL_sounds) := am_in_of (i := 986) rfl rfl
set_option maxRecDepth 100000 in
theorem am_cw_L_passes : am_in (am_cw mL_passes) := am_in_of (i := 1018) rfl rfl
set_option maxRecDepth 100000 in
theorem am_cw_L_isAll : am_in (am_cw mL_isAll) := am_in_of (i := 1043) rfl rfl
def am_allK : List Nat := [0, 1, 2, 3, 4, 5, 6, 7, 8, 9, 10, 11, 12, 13, 14, 15, 16, 17, 18, 19, 20, 21, 22, 23, 24, 25, 26, 27, 28, 29, 30, 31, 32, 33, 34, 35, 36, 37, 38, 39, 40, 41, 42, 43, 44, 45, 46, 47, 48, 49, 50, 51, 52, 53, 54, 55, 56, 57, 58, 59, 60, 61, 62, 63, 64, 65, 66, 67, 68, 69, 70, 71, 72, 73, 74, 75, 76, 77, 78, 79, 80, 81, 82, 83, 84, 85, 86, 87, 88, 89, 90, 91, 92, 93, 94, 95, 96, 97, 98, 99, 100, 101, 102, 103, 104, 105, 106, 107, 108, 109, 110, 111, 112, 113, 114, 115, 116, 117, 118, 119, 120, 121, 122, 123, 124, 125, 126, 127, 128, 129, 130, 131, 132]
def am_allK_0 : List Nat := [0, 1, 2, 3, 4, 5, 6, 7, 8, 9, 10, 11, 12, 13, 14, 15]
theorem am_cws_0 : ∀ k ∈ am_allK_0, am_in (am_cw k) := List.forall_mem_cons.mpr ⟨am_cw_X0_init, List.forall_mem_cons.mpr ⟨am_cw_X0_letThrough, List.forall_mem_cons.mpr ⟨am_cw_X1_init, List.forall_mem_cons.mpr ⟨am_cw_X1_mayHold, List.forall_mem_cons.mpr ⟨am_cw_X1_isFull, List.forall_mem_cons.mpr ⟨am_cw_X1_add, List.forall_mem_cons.mpr ⟨am_cw_X1_clear, List.forall_mem_cons.mpr ⟨am_cw_X2_init, List.forall_mem_cons.mpr ⟨am_cw_X2_clear, List.forall_mem_cons.mpr ⟨am_cw_X2_add, List.forall_mem_cons.mpr ⟨am_cw_X2_addName, List.forall_mem_cons.mpr ⟨am_cw_X2_copy, List.forall_mem_cons.mpr ⟨am_cw_X3_init, List.forall_mem_cons.mpr ⟨am_cw_X3_read, List.forall_mem_cons.mpr ⟨am_cw_X3_takes, List.forall_mem_cons.mpr ⟨am_cw_X3_startsNumber, fun _ h => absurd h List.not_mem_nil⟩⟩⟩⟩⟩⟩⟩⟩⟩⟩⟩⟩⟩⟩⟩⟩
def am_allK_1 : List Nat := [16, 17, 18, 19, 20, 21, 22, 23, 24, 25, 26, 27, 28, 29, 30, 31]
theorem am_cws_1 : ∀ k ∈ am_allK_1, am_in (am_cw k) := List.forall_mem_cons.mpr ⟨am_cw_X3_startsFactor, List.forall_mem_cons.mpr ⟨am_cw_X3_startsFunction, List.forall_mem_cons.mpr ⟨am_cw_X3_endsName, List.forall_mem_cons.mpr ⟨am_cw_X3_startsName, List.forall_mem_cons.mpr ⟨am_cw_X3_takesFigure, List.forall_mem_cons.mpr ⟨am_cw_X3_endNumber, List.forall_mem_cons.mpr ⟨am_cw_X3_goesOn, List.forall_mem_cons.mpr ⟨am_cw_X3_operates, List.forall_mem_cons.mpr ⟨am_cw_X3_takesComma, List.forall_mem_cons.mpr ⟨am_cw_X3_takesBracket, List.forall_mem_cons.mpr ⟨am_cw_X3_hold, List.forall_mem_cons.mpr ⟨am_cw_X3_settle, List.forall_mem_cons.mpr ⟨am_cw_X3_strengthOf, List.forall_mem_cons.mpr ⟨am_cw_X4_init, List.forall_mem_cons.mpr ⟨am_cw_X4_workOut, List.forall_mem_cons.mpr ⟨am_cw_X4_operate, fun _ h => absurd h List.not_mem_nil⟩⟩⟩⟩⟩⟩⟩⟩⟩⟩⟩⟩⟩⟩⟩⟩
def am_allK_2 : List Nat := [32, 33, 34, 35, 36, 37, 38, 39, 40, 41, 42, 43, 44, 45, 46, 47]
theorem am_cws_2 : ∀ k ∈ am_allK_2, am_in (am_cw k) := List.forall_mem_cons.mpr ⟨am_cw_X4_join, List.forall_mem_cons.mpr ⟨am_cw_X4_keep, List.forall_mem_cons.mpr ⟨am_cw_X4_take, List.forall_mem_cons.mpr ⟨am_cw_X5_init, List.forall_mem_cons.mpr ⟨am_cw_X5_lookAhead, List.forall_mem_cons.mpr ⟨am_cw_X6_init, List.forall_mem_cons.mpr ⟨am_cw_X6_has, List.forall_mem_cons.mpr ⟨am_cw_X6_latestOf, List.forall_mem_cons.mpr ⟨am_cw_X6_isLatest, List.forall_mem_cons.mpr ⟨am_cw_X6_modelOf, List.forall_mem_cons.mpr ⟨am_cw_X6_pinOf, List.forall_mem_cons.mpr ⟨am_cw_X6_names, List.forall_mem_cons.mpr ⟨am_cw_X6_modelsUnder, List.forall_mem_cons.mpr ⟨am_cw_X6_namedBy, List.forall_mem_cons.mpr ⟨am_cw_X6_modelsOn, List.forall_mem_cons.mpr ⟨am_cw_X6_mayTake, fun _ h => absurd h List.not_mem_nil⟩⟩⟩⟩⟩⟩⟩⟩⟩⟩⟩⟩⟩⟩⟩⟩
def am_allK_3 : List Nat := [48, 49, 50, 51, 52, 53, 54, 55, 56, 57, 58, 59, 60, 61, 62, 63]
theorem am_cws_3 : ∀ k ∈ am_allK_3, am_in (am_cw k) := List.forall_mem_cons.mpr ⟨am_cw_X6_take, List.forall_mem_cons.mpr ⟨am_cw_X6_shelve, List.forall_mem_cons.mpr ⟨am_cw_X6_nextToBind, List.forall_mem_cons.mpr ⟨am_cw_X6_pinsOld, List.forall_mem_cons.mpr ⟨am_cw_X6_giveUp, List.forall_mem_cons.mpr ⟨am_cw_X6_tellRain, List.forall_mem_cons.mpr ⟨am_cw_X6_forget, List.forall_mem_cons.mpr ⟨am_cw_X6_outputOf, List.forall_mem_cons.mpr ⟨am_cw_X6_fill, List.forall_mem_cons.mpr ⟨am_cw_X7_init, List.forall_mem_cons.mpr ⟨am_cw_X8_init, List.forall_mem_cons.mpr ⟨am_cw_X9_init, List.forall_mem_cons.mpr ⟨am_cw_X9_type, List.forall_mem_cons.mpr ⟨am_cw_X9_wipe, List.forall_mem_cons.mpr ⟨am_cw_X9_fault, List.forall_mem_cons.mpr ⟨am_cw_X9_publish, fun _ h => absurd h List.not_mem_nil⟩⟩⟩⟩⟩⟩⟩⟩⟩⟩⟩⟩⟩⟩⟩⟩
def am_allK_4 : List Nat := [64, 65, 66, 67, 68, 69, 70, 71, 72, 73, 74, 75, 76, 77, 78, 79]
theorem am_cws_4 : ∀ k ∈ am_allK_4, am_in (am_cw k) := List.forall_mem_cons.mpr ⟨am_cw_X9_retire, List.forall_mem_cons.mpr ⟨am_cw_X9_latest, List.forall_mem_cons.mpr ⟨am_cw_X9_pin, List.forall_mem_cons.mpr ⟨am_cw_X9_rain, List.forall_mem_cons.mpr ⟨am_cw_X9_out, List.forall_mem_cons.mpr ⟨am_cw_X9_outAnew, List.forall_mem_cons.mpr ⟨am_cw_X9_run, List.forall_mem_cons.mpr ⟨am_cw_X9_why, List.forall_mem_cons.mpr ⟨am_cw_X9_peak, List.forall_mem_cons.mpr ⟨am_cw_X9_peakHour, List.forall_mem_cons.mpr ⟨am_cw_X9_peakAnew, List.forall_mem_cons.mpr ⟨am_cw_X9_build, List.forall_mem_cons.mpr ⟨am_cw_X9_rule, List.forall_mem_cons.mpr ⟨am_cw_X9_goBy, List.forall_mem_cons.mpr ⟨am_cw_X9_level, List.forall_mem_cons.mpr ⟨am_cw_X9_below, fun _ h => absurd h List.not_mem_nil⟩⟩⟩⟩⟩⟩⟩⟩⟩⟩⟩⟩⟩⟩⟩⟩
def am_allK_5 : List Nat := [80, 81, 82, 83, 84, 85, 86, 87, 88, 89, 90, 91, 92, 93, 94, 95]
theorem am_cws_5 : ∀ k ∈ am_allK_5, am_in (am_cw k) := List.forall_mem_cons.mpr ⟨am_cw_X9_valley, List.forall_mem_cons.mpr ⟨am_cw_X9_sound, List.forall_mem_cons.mpr ⟨am_cw_X9_siren, List.forall_mem_cons.mpr ⟨am_cw_X9_walkers, List.forall_mem_cons.mpr ⟨am_cw_X9_trust, List.forall_mem_cons.mpr ⟨am_cw_X9_saved, List.forall_mem_cons.mpr ⟨am_cw_X9_alarm, List.forall_mem_cons.mpr ⟨am_cw_X9_pass, List.forall_mem_cons.mpr ⟨am_cw_X9_isModel, List.forall_mem_cons.mpr ⟨am_cw_X9_isHour, List.forall_mem_cons.mpr ⟨am_cw_X9_isDam, List.forall_mem_cons.mpr ⟨am_cw_X9_isRun, List.forall_mem_cons.mpr ⟨am_cw_X9_isSiren, List.forall_mem_cons.mpr ⟨am_cw_X9_reasonAgainst, List.forall_mem_cons.mpr ⟨am_cw_X9_isGoodFor, List.forall_mem_cons.mpr ⟨am_cw_X9_stampRuns, fun _ h => absurd h List.not_mem_nil⟩⟩⟩⟩⟩⟩⟩⟩⟩⟩⟩⟩⟩⟩⟩⟩
def am_allK_6 : List Nat := [96, 97, 98, 99, 100, 101, 102, 103, 104, 105, 106, 107, 108, 109, 110, 111]
theorem am_cws_6 : ∀ k ∈ am_allK_6, am_in (am_cw k) := List.forall_mem_cons.mpr ⟨am_cw_X9_maySound, List.forall_mem_cons.mpr ⟨am_cw_X9_passHourAt, List.forall_mem_cons.mpr ⟨am_cw_X9_judge, List.forall_mem_cons.mpr ⟨am_cw_X9_bitsOf, List.forall_mem_cons.mpr ⟨am_cw_J6_bitCount_0f7a4, List.forall_mem_cons.mpr ⟨am_cw_J9_max_7cf53, List.forall_mem_cons.mpr ⟨am_cw_J9_min_7cf53, List.forall_mem_cons.mpr ⟨am_cw_J0_length_8abf5, List.forall_mem_cons.mpr ⟨am_cw_J0_indexOf_0f7a4, List.forall_mem_cons.mpr ⟨am_cw_J0_indexOf_7cf53, List.forall_mem_cons.mpr ⟨am_cw_J0_coder_7d493, List.forall_mem_cons.mpr ⟨am_cw_J0_isLatin1_aae02, List.forall_mem_cons.mpr ⟨am_cw_J1_canEncode_9a6ad, List.forall_mem_cons.mpr ⟨am_cw_J1_indexOf_4cfef, List.forall_mem_cons.mpr ⟨am_cw_J1_indexOfChar_4cfef, List.forall_mem_cons.mpr ⟨am_cw_L_draw, fun _ h => absurd h List.not_mem_nil⟩⟩⟩⟩⟩⟩⟩⟩⟩⟩⟩⟩⟩⟩⟩⟩
def am_allK_7 : List Nat := [112, 113, 114, 115, 116, 117, 118, 119, 120, 121, 122, 123, 124, 125, 126, 127]
theorem am_cws_7 : ∀ k ∈ am_allK_7, am_in (am_cw k) := List.forall_mem_cons.mpr ⟨am_cw_L_step, List.forall_mem_cons.mpr ⟨am_cw_L_key, List.forall_mem_cons.mpr ⟨am_cw_L_bits, List.forall_mem_cons.mpr ⟨am_cw_L_inputs, List.forall_mem_cons.mpr ⟨am_cw_L_types, List.forall_mem_cons.mpr ⟨am_cw_L_texts, List.forall_mem_cons.mpr ⟨am_cw_L_factor, List.forall_mem_cons.mpr ⟨am_cw_L_publishes, List.forall_mem_cons.mpr ⟨am_cw_L_letters, List.forall_mem_cons.mpr ⟨am_cw_L_follows, List.forall_mem_cons.mpr ⟨am_cw_L_ofRetire, List.forall_mem_cons.mpr ⟨am_cw_L_isNamed, List.forall_mem_cons.mpr ⟨am_cw_L_rules, List.forall_mem_cons.mpr ⟨am_cw_L_runs, List.forall_mem_cons.mpr ⟨am_cw_L_isPeak, List.forall_mem_cons.mpr ⟨am_cw_L_goes, fun _ h => absurd h List.not_mem_nil⟩⟩⟩⟩⟩⟩⟩⟩⟩⟩⟩⟩⟩⟩⟩⟩
def am_allK_8 : List Nat := [128, 129, 130, 131, 132]
theorem am_cws_8 : ∀ k ∈ am_allK_8, am_in (am_cw k) := List.forall_mem_cons.mpr ⟨am_cw_L_ofGo, List.forall_mem_cons.mpr ⟨am_cw_L_ofSound, List.forall_mem_cons.mpr ⟨am_cw_L_sounds, List.forall_mem_cons.mpr ⟨am_cw_L_passes, List.forall_mem_cons.mpr ⟨am_cw_L_isAll, fun _ h => absurd h List.not_mem_nil⟩⟩⟩⟩⟩
def am_inK (k : Nat) : Bool := decide (k ∈ am_allK_0) || decide (k ∈ am_allK_1) || decide (k ∈ am_allK_2) || decide (k ∈ am_allK_3) || decide (k ∈ am_allK_4) || decide (k ∈ am_allK_5) || decide (k ∈ am_allK_6) || decide (k ∈ am_allK_7) || decide (k ∈ am_allK_8)
theorem am_inK_ok : (List.range 133).all am_inK = true := by decide +kernel
theorem am_cws : ∀ k, k < 133 → am_in (am_cw k) := by
  intro k hk
  have hm := List.all_eq_true.mp am_inK_ok k (List.mem_range.mpr hk)
  unfold am_inK at hm
  simp only [Bool.or_eq_true, decide_eq_true_eq, or_assoc] at hm
  rcases hm with h | h | h | h | h | h | h | h | h
  · exact am_cws_0 k h
  · exact am_cws_1 k h
  · exact am_cws_2 k h
  · exact am_cws_3 k h
  · exact am_cws_4 k h
  · exact am_cws_5 k h
  · exact am_cws_6 k h
  · exact am_cws_7 k h
  · exact am_cws_8 k h
