/-! own: rows of the tables, used -/
theorem am_nt_big {α : Type} : ∀ (l : List α) (k : Nat) (d : α), l.length ≤ k → am_nt l k d = d
  | [], k, d, h => rfl
  | a :: l, 0, d, h => absurd h (Nat.not_succ_le_zero _)
  | a :: l, k + 1, d, h => am_nt_big l k d (Nat.le_of_succ_le_succ h)
theorem am_clL_len : am_clL.length = 134 := by decide +kernel
/-- a row of a method's table is a row of its code, and links what it says -/
theorem am_row_g {α : Type} (l : List (List (Nat × α))) (k pc : Nat) (q : α) (h : am_find (am_nt l k []) pc = some q) : k < l.length ∧ (pc, q) ∈ am_nt l k [] := by
  refine ⟨Nat.lt_of_not_le (fun hk => ?_), am_find_mem h⟩
  rw [am_nt_big l k [] hk] at h
  cases h
theorem am_row_h {k pc : Nat} {q : Instr × Nat × Nat × Nat} (l : List (Nat × Instr × Nat × Nat × Nat)) (h : (∀ e ∈ l, decode (am_cc k) e.1 = .ok (e.2.1, e.2.2.1)) ∧ l.all (am_chk k) = true) (hm : (pc, q) ∈ l) : decode (am_cc k) pc = .ok (q.1, q.2.1) ∧ am_chk k (pc, q) = true := by
  have h1 := h.1 (pc, q) hm
  have h2 := List.all_eq_true.mp h.2 (pc, q) hm
  generalize am_chk k (pc, q) = z at h2 ⊢
  dsimp only at h1
  exact ⟨h1, h2⟩
theorem am_row_m {k pc : Nat} {q : Instr × Nat × Nat × Nat} (h : am_code k pc = some q) : k < am_clL.length ∧ (pc, q) ∈ am_cl k := am_row_g am_clL k pc q h
theorem am_row_k {k pc : Nat} {q : Instr × Nat × Nat × Nat} (h : am_code k pc = some q) : k < 134 := Nat.lt_of_lt_of_le (am_row_m h).1 (Nat.le_of_eq am_clL_len)
theorem am_row {k pc : Nat} {q : Instr × Nat × Nat × Nat} (h : am_code k pc = some q) : k < 134 ∧ decode (am_cc k) pc = .ok (q.1, q.2.1) ∧ am_chk k (pc, q) = true := ⟨am_row_k h, am_row_h (am_cl k) (am_kks k (am_row_k h)) (am_row_m h).2⟩
theorem am_sf9 : am_in (.fieldLink RJ0 9 "java/lang/String" "value" "[B") := am_get_in (i := 1057) (by decide +kernel)
theorem am_sf15 : am_in (.fieldLink RJ0 15 "java/lang/String" "coder" "B") := am_get_in (i := 1056) (by decide +kernel)
theorem am_sf38 : am_in (.fieldLink RJ0 38 "java/lang/String" "COMPACT_STRINGS" "Z") := am_get_in (i := 653) (by decide +kernel)
theorem am_obj : am_in (.instanceMethod objectInit) ∧ am_in (.code objectInit ⟨#[0xb1]⟩ 1 none) := ⟨am_get_in (i := 63) (by decide +kernel), am_get_in (i := 64) (by decide +kernel)⟩
/-- a throw's rows and words -/
def am_thrC (e : Nat × Nat × Nat × Nat × Nat × Nat × String) : Bool := let k := e.1 / 10000; let pc := e.1 % 10000; let w := e.2.2.2.2.2.1;
  decide (decode (am_cc k) pc = .ok (.new e.2.2.1, 3)) && decide (decode (am_cc k) (pc + 3) = .ok (.dup, 1)) && (if Nat.beq w 0 then decide (decode (am_cc k) (pc + 4) = .ok (.ldc e.2.2.2.1, 2)) && decide (decode (am_cc k) (pc + 6) = .ok (.invokespecial e.2.2.2.2.1, 3)) && decide (decode (am_cc k) (pc + 9) = .ok (.athrow, 1)) else decide (decode (am_cc k) (pc + 4) = .ok (.ldc_w e.2.2.2.1, 3)) && decide (decode (am_cc k) (pc + 7) = .ok (.invokespecial e.2.2.2.2.1, 3)) && decide (decode (am_cc k) (pc + 10) = .ok (.athrow, 1))) &&
  Nat.beq (am_oc k) 9 && am_th k && (am_hh k).isEmpty && Nat.ble 6 (am_nF k) && Nat.ble 90 (am_nL k) && Nat.blt k 133 && Nat.blt e.2.1 3 && Nat.blt e.2.2.1 10000 && (am_find am_cpcL (90000 + e.2.2.1)).any (fun q => Nat.beq q.1 (100 + e.2.1))
set_option maxRecDepth 100000 in
theorem am_thr_ok : am_thrL.all am_thrC = true := by decide +kernel
def am_xn : List String := ["java/lang/RuntimeException", "java/lang/Exception"]
/-- the words of the three throws -/
def am_xB (q : Nat × Nat) : Bool := (Cond.initialized (am_cpn q.1) :: vx_atS RX9 q.2 (am_cpn q.1) am_xn).all (fun x => decide (x ∈ lw_tbl) && (goodWord x || am_nw x) && vx_ot x)
def am_xL : List (Nat × Nat) := [(100, 105), (101, 73), (102, 84)]
set_option maxRecDepth 100000 in
theorem am_x_ok : am_xL.all am_xB = true := by decide +kernel
theorem am_x_in : am_thrL.all (fun e => decide ((100 + e.2.1, e.2.2.2.2.1) ∈ am_xL)) = true := by decide +kernel
theorem am_inst {a : Nat} (ha : a < 10) : am_in (.instantiable (am_R a) (am_nf a)) ∧ am_in (.initialized (am_R a)) := by
  have h : a = 0 ∨ a = 1 ∨ a = 2 ∨ a = 3 ∨ a = 4 ∨ a = 5 ∨ a = 6 ∨ a = 7 ∨ a = 8 ∨ a = 9 := by omega
  rcases h with rfl | rfl | rfl | rfl | rfl | rfl | rfl | rfl | rfl | rfl
  · exact ⟨am_get_in (i := 265) (by decide +kernel), am_get_in (i := 42) (by decide +kernel)⟩
  · exact ⟨am_get_in (i := 66) (by decide +kernel), am_get_in (i := 35) (by decide +kernel)⟩
  · exact ⟨am_get_in (i := 88) (by decide +kernel), am_get_in (i := 37) (by decide +kernel)⟩
  · exact ⟨am_get_in (i := 82) (by decide +kernel), am_get_in (i := 36) (by decide +kernel)⟩
  · exact ⟨am_get_in (i := 154) (by decide +kernel), am_get_in (i := 39) (by decide +kernel)⟩
  · exact ⟨am_get_in (i := 231) (by decide +kernel), am_get_in (i := 41) (by decide +kernel)⟩
  · exact ⟨am_get_in (i := 148) (by decide +kernel), am_get_in (i := 38) (by decide +kernel)⟩
  · exact ⟨am_get_in (i := 329) (by decide +kernel), am_get_in (i := 43) (by decide +kernel)⟩
  · exact ⟨am_get_in (i := 176) (by decide +kernel), am_get_in (i := 40) (by decide +kernel)⟩
  · exact ⟨am_get_in (i := 58) (by decide +kernel), am_get_in (i := 34) (by decide +kernel)⟩
theorem am_arrc {ty : FieldType} (h : ty = .int ∨ ty = .float ∨ ty = .char) : am_in (.arrayClass ty) := by
  rcases h with rfl | rfl | rfl
  · exact am_get_in (i := 114) (by decide +kernel)
  · exact am_get_in (i := 171) (by decide +kernel)
  · exact am_get_in (i := 80) (by decide +kernel)
theorem am_mlb_ok : am_mthL.all (fun e => Nat.ble e.2.2.1 (am_ml e.2.1)) = true := by decide +kernel
def am_rtB (k : Nat) : Bool := match am_rc k with
  | 0 => decide (am_rt k = none)
  | 1 => (match am_rz k with
    | 0 => decide (am_rt k = some .int)
    | _ => decide (am_rt k = some .boolean) || decide (am_rt k = some .byte))
  | 2 => decide (am_rt k = some .long)
  | _ => decide (am_rt k = some .float)
theorem am_rt_ok : (List.range 134).all am_rtB = true := by decide +kernel
