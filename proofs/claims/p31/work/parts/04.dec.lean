/-! own: the code rows and what they are said to link, by decision -/
def am_swT (pc : Nat) (dflt lo : Int) (offs : Array Int) (d : Nat) (l : List (Int32 × Nat)) : Bool := decide ((pc : Int) + dflt = (d : Int)) && Nat.beq l.length offs.size && (l.zip (List.range l.length)).all fun q => decide (q.1.1.toInt = lo + (q.2 : Int)) && (match offs[q.2]? with
  | some off => decide ((pc : Int) + off = (q.1.2 : Int))
  | none => false)
def am_swK (pc : Nat) (dflt : Int) (ps : List (Int × Int)) (d : Nat) (l : List (Int32 × Nat)) : Bool := decide ((pc : Int) + dflt = (d : Int)) && Nat.beq l.length ps.length && ((ps.zip (ps.drop 1)).all (fun (a, next) => a.1 < next.1)) && (l.zip ps).all fun q => decide (q.1.1.toInt = q.2.1) && decide ((pc : Int) + q.2.2 = (q.1.2 : Int))
def am_invB (k idx kd a b : Nat) : Bool := (am_find am_mthL (am_oc k * 10000 + idx)).any (fun q => Nat.beq q.1 a && Nat.beq q.2.1 b && (Nat.beq q.2.2.1 kd || Nat.beq q.2.2.1 (kd + 10))) && Nat.blt a 133 && Nat.ble (am_nF a + 1) (am_nF k) && Nat.ble (19 + am_ml a + am_nL a) (am_nL k) && Nat.blt idx 10000
def am_chk (k : Nat) (e : Nat × Instr × Nat × Nat × Nat) : Bool := match e.2.1 with
  | .aload_n _ => Nat.beq e.2.2.1 1
  | .iload_n _ => Nat.beq e.2.2.1 1
  | .fload_n _ => Nat.beq e.2.2.1 1
  | .lload_n _ => Nat.beq e.2.2.1 1
  | .istore_n _ => Nat.beq e.2.2.1 1
  | .fstore_n _ => Nat.beq e.2.2.1 1
  | .astore_n _ => Nat.beq e.2.2.1 1
  | .lstore_n _ => Nat.beq e.2.2.1 1
  | .lconst _ => Nat.beq e.2.2.1 1
  | .fconst _ => Nat.beq e.2.2.1 1
  | .iadd => Nat.beq e.2.2.1 1
  | .isub => Nat.beq e.2.2.1 1
  | .imul => Nat.beq e.2.2.1 1
  | .iand => Nat.beq e.2.2.1 1
  | .ior => Nat.beq e.2.2.1 1
  | .ixor => Nat.beq e.2.2.1 1
  | .ishl => Nat.beq e.2.2.1 1
  | .ishr => Nat.beq e.2.2.1 1
  | .iushr => Nat.beq e.2.2.1 1
  | .idiv => Nat.beq e.2.2.1 1
  | .irem => Nat.beq e.2.2.1 1
  | .land => Nat.beq e.2.2.1 1
  | .lor => Nat.beq e.2.2.1 1
  | .lshl => Nat.beq e.2.2.1 1
  | .lshr => Nat.beq e.2.2.1 1
  | .lcmp => Nat.beq e.2.2.1 1
  | .i2l => Nat.beq e.2.2.1 1
  | .i2c => Nat.beq e.2.2.1 1
  | .i2b => Nat.beq e.2.2.1 1
  | .i2f => Nat.beq e.2.2.1 1
  | .f2i => Nat.beq e.2.2.1 1
  | .fneg => Nat.beq e.2.2.1 1
  | .fadd => Nat.beq e.2.2.1 1
  | .fsub => Nat.beq e.2.2.1 1
  | .fmul => Nat.beq e.2.2.1 1
  | .fdiv => Nat.beq e.2.2.1 1
  | .fcmp _ => Nat.beq e.2.2.1 1
  | .dup => Nat.beq e.2.2.1 1
  | .dup2 => Nat.beq e.2.2.1 1
  | .pop => Nat.beq e.2.2.1 1
  | .faload => Nat.beq e.2.2.1 1
  | .caload => Nat.beq e.2.2.1 1
  | .aaload => Nat.beq e.2.2.1 1
  | .iastore => Nat.beq e.2.2.1 1
  | .fastore => Nat.beq e.2.2.1 1
  | .castore => Nat.beq e.2.2.1 1
  | .aastore => Nat.beq e.2.2.1 1
  | .aload _ => Nat.beq e.2.2.1 2
  | .iload _ => Nat.beq e.2.2.1 2
  | .fload _ => Nat.beq e.2.2.1 2
  | .istore _ => Nat.beq e.2.2.1 2
  | .fstore _ => Nat.beq e.2.2.1 2
  | .astore _ => Nat.beq e.2.2.1 2
  | .iinc _ _ => Nat.beq e.2.2.1 3
  | .iconst n => Nat.beq e.2.2.1 1 && decide (Int32.ofInt n = am_kc e.2.2.2.1 e.2.2.2.2)
  | .bipush n => Nat.beq e.2.2.1 2 && decide ((Int8.ofInt n).toInt32 = am_kc e.2.2.2.1 e.2.2.2.2)
  | .sipush n => Nat.beq e.2.2.1 3 && decide ((Int16.ofInt n).toInt32 = am_kc e.2.2.2.1 e.2.2.2.2)
  | .ldc n => Nat.beq e.2.2.1 2 && Nat.blt n 10000 && (match e.2.2.2.1 with
    | 2 => Nat.beq (am_oc k) 1 && Nat.beq n 19
    | _ => (am_find am_cstL (am_oc k * 10000 + n)).any (fun q => Nat.beq q.1 e.2.2.2.1 && Nat.beq q.2.1 e.2.2.2.2))
  | .ldc_w n => Nat.beq e.2.2.1 3 && Nat.blt n 10000 && (am_find am_cstL (am_oc k * 10000 + n)).any (fun q => Nat.beq q.1 e.2.2.2.1 && Nat.beq q.2.1 e.2.2.2.2)
  | .ifCond _ off => Nat.beq e.2.2.1 3 && decide ((e.1 : Int) + off = (e.2.2.2.1 : Int))
  | .if_icmp _ off => Nat.beq e.2.2.1 3 && decide ((e.1 : Int) + off = (e.2.2.2.1 : Int))
  | .goto off => Nat.beq e.2.2.1 3 && decide ((e.1 : Int) + off = (e.2.2.2.1 : Int))
  | .tableswitch dflt lo hi offs => decide (hi = lo + (offs.size : Int) - 1) && am_swT e.1 dflt lo offs (am_sw k e.1).1 (am_sw k e.1).2
  | .lookupswitch dflt ps => am_swK e.1 dflt ps.toList (am_sw k e.1).1 (am_sw k e.1).2
  | .getfield n => Nat.beq e.2.2.1 3 && Nat.blt n 10000 && (match e.2.2.2.1 with
    | 20 => Nat.beq (am_oc k) 15 && (match e.2.2.2.2 with
      | 0 => Nat.beq n 9
      | _ => Nat.beq n 15)
    | a => (am_find am_fldL (am_oc k * 10000 + n)).any (fun q => Nat.beq q.1 a && Nat.beq q.2.1 e.2.2.2.2))
  | .putfield n => Nat.beq e.2.2.1 3 && Nat.blt n 10000 && (am_find am_fldL (am_oc k * 10000 + n)).any (fun q => Nat.beq q.1 e.2.2.2.1 && Nat.beq q.2.1 e.2.2.2.2) && (if (am_TX e.2.2.2.1 e.2.2.2.2).2.2.2 then decide ((am_y k).name = "<init>") && decide ((am_TX e.2.2.2.1 e.2.2.2.2).1 = am_R (am_oc k)) else true)
  | .getstatic n => Nat.beq e.2.2.1 3 && Nat.beq (am_oc k) 15 && Nat.beq n 38 && Nat.beq e.2.2.2.1 1
  | .new n => Nat.beq e.2.2.1 3 && Nat.blt n 10000 && (am_find am_cpcL (am_oc k * 10000 + n)).any (fun q => Nat.beq q.1 e.2.2.2.1) && Nat.blt e.2.2.2.1 10
  | .newarray t => Nat.beq e.2.2.1 2 && (match t with
    | .int => Nat.beq e.2.2.2.1 20
    | .float => Nat.beq e.2.2.2.1 22
    | .char => Nat.beq e.2.2.2.1 24
    | _ => false)
  | .anewarray n => Nat.beq e.2.2.1 3 && Nat.blt n 10000 && (am_find am_cpqL (am_oc k * 10000 + n)).any (fun q => Nat.beq q.1 e.2.2.2.1) && Nat.ble 30 e.2.2.2.1 && Nat.ble e.2.2.2.1 33
  | .multianewarray n d => Nat.beq e.2.2.1 4 && Nat.blt n 10000 && Nat.beq d 2 && (am_find am_cpqL (am_oc k * 10000 + n)).any (fun q => Nat.beq q.1 34)
  | .arraylength => Nat.beq e.2.2.1 1
  | .iaload => Nat.beq e.2.2.1 1
  | .baload => Nat.beq e.2.2.1 1
  | .invokestatic n => Nat.beq e.2.2.1 3 && (match e.2.2.2.1 with
    | 998 => false
    | 999 => false
    | a => am_invB k n 0 a e.2.2.2.2 && Nat.beq (am_st a) 1 && decide ((parseMethodDescriptor (am_y a).desc).map (fun d => d.parameters.length) = some e.2.2.2.2) && !(am_th a) && ((am_hh a).isEmpty || ((am_find am_mthL (am_oc k * 10000 + n)).any fun q => Nat.beq q.2.2.1 0)))
  | .invokevirtual n => Nat.beq e.2.2.1 3 && (match e.2.2.2.1 with
    | 998 => false
    | 999 => false
    | a => am_invB k n 1 a e.2.2.2.2 && Nat.beq (am_st a) 0 && decide (a ∈ am_vL) && decide ((parseMethodDescriptor (am_y a).desc).map (fun d => d.parameters.length + 1) = some e.2.2.2.2) && (am_hh a).isEmpty && (!(am_th a) || ((am_find am_mthL (am_oc k * 10000 + n)).any fun q => Nat.beq q.2.2.1 1)))
  | .invokespecial n => Nat.beq e.2.2.1 3 && (match e.2.2.2.1 with
    | 998 => false
    | 999 => (am_find am_oiL (am_oc k * 10000 + n)).isSome && Nat.blt n 10000 && Nat.ble 1 (am_nF k) && Nat.ble 20 (am_nL k)
    | a => am_invB k n 2 a e.2.2.2.2 && Nat.beq (am_st a) 0 && Nat.beq (am_rc a) 0 && decide ((am_y a).name = "<init>") && decide (am_rt a = none) && decide ((parseMethodDescriptor (am_y a).desc).map (fun d => d.parameters.length + 1) = some e.2.2.2.2) && (am_hh a).isEmpty && !(am_th a))
  | .ireturn => Nat.beq e.2.2.1 1 && Nat.beq (am_rc k) 1 && (match am_rz k with
    | 0 => decide (am_rt k = some .int)
    | _ => decide (am_rt k = some .boolean) || decide (am_rt k = some .byte))
  | .lreturn => Nat.beq e.2.2.1 1 && Nat.beq (am_rc k) 2 && decide (am_rt k = some .long)
  | .freturn => Nat.beq e.2.2.1 1 && Nat.beq (am_rc k) 3 && decide (am_rt k = some .float)
  | .return_ => Nat.beq e.2.2.1 1 && Nat.beq (am_rc k) 0 && decide (am_rt k = none)
  | _ => false
def am_okK (k : Nat) : Prop := (∀ e ∈ am_cl k, decode (am_cc k) e.1 = .ok (e.2.1, e.2.2.1)) ∧ (am_cl k).all (am_chk k) = true
set_option maxRecDepth 100000 in
theorem am_d_X0_init : ∀ e ∈ am_cl_X0_init, decode cX0_init e.1 = .ok (e.2.1, e.2.2.1) := by decide +kernel
set_option maxRecDepth 100000 in
theorem am_c_X0_init : am_cl_X0_init.all (am_chk mX0_init) = true := by decide +kernel
theorem am_k_X0_init : am_okK mX0_init := ⟨am_d_X0_init, am_c_X0_init⟩
set_option maxRecDepth 100000 in
theorem am_d_X0_letThrough_0 : ∀ e ∈ am_cl_X0_letThrough_0, decode cX0_letThrough e.1 = .ok (e.2.1, e.2.2.1) := by decide +kernel
set_option maxRecDepth 100000 in
theorem am_c_X0_letThrough_0 : am_cl_X0_letThrough_0.all (am_chk mX0_letThrough) = true := by decide +kernel
set_option maxRecDepth 100000 in
theorem am_d_X0_letThrough_1 : ∀ e ∈ am_cl_X0_letThrough_1, decode cX0_letThrough e.1 = .ok (e.2.1, e.2.2.1) := by decide +kernel
set_option maxRecDepth 100000 in
theorem am_c_X0_letThrough_1 : am_cl_X0_letThrough_1.all (am_chk mX0_letThrough) = true := by decide +kernel
theorem am_d_X0_letThrough : ∀ e ∈ am_cl_X0_letThrough, decode cX0_letThrough e.1 = .ok (e.2.1, e.2.2.1) := by
  unfold am_cl_X0_letThrough
  exact List.forall_mem_append.mpr ⟨am_d_X0_letThrough_0, am_d_X0_letThrough_1⟩
theorem am_c_X0_letThrough : am_cl_X0_letThrough.all (am_chk mX0_letThrough) = true := by
  unfold am_cl_X0_letThrough
  simp only [List.all_append, Bool.and_eq_true]
  exact ⟨am_c_X0_letThrough_0, am_c_X0_letThrough_1⟩
theorem am_k_X0_letThrough : am_okK mX0_letThrough := ⟨am_d_X0_letThrough, am_c_X0_letThrough⟩
set_option maxRecDepth 100000 in
theorem am_d_X1_init : ∀ e ∈ am_cl_X1_init, decode cX1_init e.1 = .ok (e.2.1, e.2.2.1) := by decide +kernel
set_option maxRecDepth 100000 in
theorem am_c_X1_init : am_cl_X1_init.all (am_chk mX1_init) = true := by decide +kernel
theorem am_k_X1_init : am_okK mX1_init := ⟨am_d_X1_init, am_c_X1_init⟩
set_option maxRecDepth 100000 in
theorem am_d_X1_mayHold : ∀ e ∈ am_cl_X1_mayHold, decode cX1_mayHold e.1 = .ok (e.2.1, e.2.2.1) := by decide +kernel
set_option maxRecDepth 100000 in
theorem am_c_X1_mayHold : am_cl_X1_mayHold.all (am_chk mX1_mayHold) = true := by decide +kernel
theorem am_k_X1_mayHold : am_okK mX1_mayHold := ⟨am_d_X1_mayHold, am_c_X1_mayHold⟩
set_option maxRecDepth 100000 in
theorem am_d_X1_isFull : ∀ e ∈ am_cl_X1_isFull, decode cX1_isFull e.1 = .ok (e.2.1, e.2.2.1) := by decide +kernel
set_option maxRecDepth 100000 in
theorem am_c_X1_isFull : am_cl_X1_isFull.all (am_chk mX1_isFull) = true := by decide +kernel
theorem am_k_X1_isFull : am_okK mX1_isFull := ⟨am_d_X1_isFull, am_c_X1_isFull⟩
set_option maxRecDepth 100000 in
theorem am_d_X1_add : ∀ e ∈ am_cl_X1_add, decode cX1_add e.1 = .ok (e.2.1, e.2.2.1) := by decide +kernel
set_option maxRecDepth 100000 in
theorem am_c_X1_add : am_cl_X1_add.all (am_chk mX1_add) = true := by decide +kernel
theorem am_k_X1_add : am_okK mX1_add := ⟨am_d_X1_add, am_c_X1_add⟩
set_option maxRecDepth 100000 in
theorem am_d_X1_clear : ∀ e ∈ am_cl_X1_clear, decode cX1_clear e.1 = .ok (e.2.1, e.2.2.1) := by decide +kernel
set_option maxRecDepth 100000 in
theorem am_c_X1_clear : am_cl_X1_clear.all (am_chk mX1_clear) = true := by decide +kernel
theorem am_k_X1_clear : am_okK mX1_clear := ⟨am_d_X1_clear, am_c_X1_clear⟩
set_option maxRecDepth 100000 in
theorem am_d_X2_init : ∀ e ∈ am_cl_X2_init, decode cX2_init e.1 = .ok (e.2.1, e.2.2.1) := by decide +kernel
set_option maxRecDepth 100000 in
theorem am_c_X2_init : am_cl_X2_init.all (am_chk mX2_init) = true := by decide +kernel
theorem am_k_X2_init : am_okK mX2_init := ⟨am_d_X2_init, am_c_X2_init⟩
set_option maxRecDepth 100000 in
theorem am_d_X2_clear : ∀ e ∈ am_cl_X2_clear, decode cX2_clear e.1 = .ok (e.2.1, e.2.2.1) := by decide +kernel
set_option maxRecDepth 100000 in
theorem am_c_X2_clear : am_cl_X2_clear.all (am_chk mX2_clear) = true := by decide +kernel
theorem am_k_X2_clear : am_okK mX2_clear := ⟨am_d_X2_clear, am_c_X2_clear⟩
set_option maxRecDepth 100000 in
theorem am_d_X2_add : ∀ e ∈ am_cl_X2_add, decode cX2_add e.1 = .ok (e.2.1, e.2.2.1) := by decide +kernel
set_option maxRecDepth 100000 in
theorem am_c_X2_add : am_cl_X2_add.all (am_chk mX2_add) = true := by decide +kernel
theorem am_k_X2_add : am_okK mX2_add := ⟨am_d_X2_add, am_c_X2_add⟩
set_option maxRecDepth 100000 in
theorem am_d_X2_addName_0 : ∀ e ∈ am_cl_X2_addName_0, decode cX2_addName e.1 = .ok (e.2.1, e.2.2.1) := by decide +kernel
set_option maxRecDepth 100000 in
theorem am_c_X2_addName_0 : am_cl_X2_addName_0.all (am_chk mX2_addName) = true := by decide +kernel
set_option maxRecDepth 100000 in
theorem am_d_X2_addName_1 : ∀ e ∈ am_cl_X2_addName_1, decode cX2_addName e.1 = .ok (e.2.1, e.2.2.1) := by decide +kernel
set_option maxRecDepth 100000 in
theorem am_c_X2_addName_1 : am_cl_X2_addName_1.all (am_chk mX2_addName) = true := by decide +kernel
theorem am_d_X2_addName : ∀ e ∈ am_cl_X2_addName, decode cX2_addName e.1 = .ok (e.2.1, e.2.2.1) := by
  unfold am_cl_X2_addName
  exact List.forall_mem_append.mpr ⟨am_d_X2_addName_0, am_d_X2_addName_1⟩
theorem am_c_X2_addName : am_cl_X2_addName.all (am_chk mX2_addName) = true := by
  unfold am_cl_X2_addName
  simp only [List.all_append, Bool.and_eq_true]
  exact ⟨am_c_X2_addName_0, am_c_X2_addName_1⟩
theorem am_k_X2_addName : am_okK mX2_addName := ⟨am_d_X2_addName, am_c_X2_addName⟩
set_option maxRecDepth 100000 in
theorem am_d_X2_copy : ∀ e ∈ am_cl_X2_copy, decode cX2_copy e.1 = .ok (e.2.1, e.2.2.1) := by decide +kernel
set_option maxRecDepth 100000 in
theorem am_c_X2_copy : am_cl_X2_copy.all (am_chk mX2_copy) = true := by decide +kernel
theorem am_k_X2_copy : am_okK mX2_copy := ⟨am_d_X2_copy, am_c_X2_copy⟩
set_option maxRecDepth 100000 in
theorem am_d_X3_init : ∀ e ∈ am_cl_X3_init, decode cX3_init e.1 = .ok (e.2.1, e.2.2.1) := by decide +kernel
set_option maxRecDepth 100000 in
theorem am_c_X3_init : am_cl_X3_init.all (am_chk mX3_init) = true := by decide +kernel
theorem am_k_X3_init : am_okK mX3_init := ⟨am_d_X3_init, am_c_X3_init⟩
set_option maxRecDepth 100000 in
theorem am_d_X3_read_0 : ∀ e ∈ am_cl_X3_read_0, decode cX3_read e.1 = .ok (e.2.1, e.2.2.1) := by decide +kernel
set_option maxRecDepth 100000 in
theorem am_c_X3_read_0 : am_cl_X3_read_0.all (am_chk mX3_read) = true := by decide +kernel
set_option maxRecDepth 100000 in
theorem am_d_X3_read_1 : ∀ e ∈ am_cl_X3_read_1, decode cX3_read e.1 = .ok (e.2.1, e.2.2.1) := by decide +kernel
set_option maxRecDepth 100000 in
theorem am_c_X3_read_1 : am_cl_X3_read_1.all (am_chk mX3_read) = true := by decide +kernel
theorem am_d_X3_read : ∀ e ∈ am_cl_X3_read, decode cX3_read e.1 = .ok (e.2.1, e.2.2.1) := by
  unfold am_cl_X3_read
  exact List.forall_mem_append.mpr ⟨am_d_X3_read_0, am_d_X3_read_1⟩
theorem am_c_X3_read : am_cl_X3_read.all (am_chk mX3_read) = true := by
  unfold am_cl_X3_read
  simp only [List.all_append, Bool.and_eq_true]
  exact ⟨am_c_X3_read_0, am_c_X3_read_1⟩
theorem am_k_X3_read : am_okK mX3_read := ⟨am_d_X3_read, am_c_X3_read⟩
set_option maxRecDepth 100000 in
theorem am_d_X3_takes_0 : ∀ e ∈ am_cl_X3_takes_0, decode cX3_takes e.1 = .ok (e.2.1, e.2.2.1) := by decide +kernel
set_option maxRecDepth 100000 in
theorem am_c_X3_takes_0 : am_cl_X3_takes_0.all (am_chk mX3_takes) = true := by decide +kernel
set_option maxRecDepth 100000 in
theorem am_d_X3_takes_1 : ∀ e ∈ am_cl_X3_takes_1, decode cX3_takes e.1 = .ok (e.2.1, e.2.2.1) := by decide +kernel
set_option maxRecDepth 100000 in
theorem am_c_X3_takes_1 : am_cl_X3_takes_1.all (am_chk mX3_takes) = true := by decide +kernel
theorem am_d_X3_takes : ∀ e ∈ am_cl_X3_takes, decode cX3_takes e.1 = .ok (e.2.1, e.2.2.1) := by
  unfold am_cl_X3_takes
  exact List.forall_mem_append.mpr ⟨am_d_X3_takes_0, am_d_X3_takes_1⟩
theorem am_c_X3_takes : am_cl_X3_takes.all (am_chk mX3_takes) = true := by
  unfold am_cl_X3_takes
  simp only [List.all_append, Bool.and_eq_true]
  exact ⟨am_c_X3_takes_0, am_c_X3_takes_1⟩
theorem am_k_X3_takes : am_okK mX3_takes := ⟨am_d_X3_takes, am_c_X3_takes⟩
set_option maxRecDepth 100000 in
theorem am_d_X3_startsNumber : ∀ e ∈ am_cl_X3_startsNumber, decode cX3_startsNumber e.1 = .ok (e.2.1, e.2.2.1) := by decide +kernel
set_option maxRecDepth 100000 in
theorem am_c_X3_startsNumber : am_cl_X3_startsNumber.all (am_chk mX3_startsNumber) = true := by decide +kernel
theorem am_k_X3_startsNumber : am_okK mX3_startsNumber := ⟨am_d_X3_startsNumber, am_c_X3_startsNumber⟩
set_option maxRecDepth 100000 in
theorem am_d_X3_startsFactor_0 : ∀ e ∈ am_cl_X3_startsFactor_0, decode cX3_startsFactor e.1 = .ok (e.2.1, e.2.2.1) := by decide +kernel
set_option maxRecDepth 100000 in
theorem am_c_X3_startsFactor_0 : am_cl_X3_startsFactor_0.all (am_chk mX3_startsFactor) = true := by decide +kernel
set_option maxRecDepth 100000 in
theorem am_d_X3_startsFactor_1 : ∀ e ∈ am_cl_X3_startsFactor_1, decode cX3_startsFactor e.1 = .ok (e.2.1, e.2.2.1) := by decide +kernel
set_option maxRecDepth 100000 in
theorem am_c_X3_startsFactor_1 : am_cl_X3_startsFactor_1.all (am_chk mX3_startsFactor) = true := by decide +kernel
set_option maxRecDepth 100000 in
theorem am_d_X3_startsFactor_2 : ∀ e ∈ am_cl_X3_startsFactor_2, decode cX3_startsFactor e.1 = .ok (e.2.1, e.2.2.1) := by decide +kernel
set_option maxRecDepth 100000 in
theorem am_c_X3_startsFactor_2 : am_cl_X3_startsFactor_2.all (am_chk mX3_startsFactor) = true := by decide +kernel
theorem am_d_X3_startsFactor : ∀ e ∈ am_cl_X3_startsFactor, decode cX3_startsFactor e.1 = .ok (e.2.1, e.2.2.1) := by
  unfold am_cl_X3_startsFactor
  exact List.forall_mem_append.mpr ⟨am_d_X3_startsFactor_0, List.forall_mem_append.mpr ⟨am_d_X3_startsFactor_1, am_d_X3_startsFactor_2⟩⟩
theorem am_c_X3_startsFactor : am_cl_X3_startsFactor.all (am_chk mX3_startsFactor) = true := by
  unfold am_cl_X3_startsFactor
  simp only [List.all_append, Bool.and_eq_true]
  exact ⟨am_c_X3_startsFactor_0, ⟨am_c_X3_startsFactor_1, am_c_X3_startsFactor_2⟩⟩
theorem am_k_X3_startsFactor : am_okK mX3_startsFactor := ⟨am_d_X3_startsFactor, am_c_X3_startsFactor⟩
set_option maxRecDepth 100000 in
theorem am_d_X3_startsFunction : ∀ e ∈ am_cl_X3_startsFunction, decode cX3_startsFunction e.1 = .ok (e.2.1, e.2.2.1) := by decide +kernel
set_option maxRecDepth 100000 in
theorem am_c_X3_startsFunction : am_cl_X3_startsFunction.all (am_chk mX3_startsFunction) = true := by decide +kernel
theorem am_k_X3_startsFunction : am_okK mX3_startsFunction := ⟨am_d_X3_startsFunction, am_c_X3_startsFunction⟩
set_option maxRecDepth 100000 in
theorem am_d_X3_endsName : ∀ e ∈ am_cl_X3_endsName, decode cX3_endsName e.1 = .ok (e.2.1, e.2.2.1) := by decide +kernel
set_option maxRecDepth 100000 in
theorem am_c_X3_endsName : am_cl_X3_endsName.all (am_chk mX3_endsName) = true := by decide +kernel
theorem am_k_X3_endsName : am_okK mX3_endsName := ⟨am_d_X3_endsName, am_c_X3_endsName⟩
set_option maxRecDepth 100000 in
theorem am_d_X3_startsName : ∀ e ∈ am_cl_X3_startsName, decode cX3_startsName e.1 = .ok (e.2.1, e.2.2.1) := by decide +kernel
set_option maxRecDepth 100000 in
theorem am_c_X3_startsName : am_cl_X3_startsName.all (am_chk mX3_startsName) = true := by decide +kernel
theorem am_k_X3_startsName : am_okK mX3_startsName := ⟨am_d_X3_startsName, am_c_X3_startsName⟩
set_option maxRecDepth 100000 in
theorem am_d_X3_takesFigure_0 : ∀ e ∈ am_cl_X3_takesFigure_0, decode cX3_takesFigure e.1 = .ok (e.2.1, e.2.2.1) := by decide +kernel
set_option maxRecDepth 100000 in
theorem am_c_X3_takesFigure_0 : am_cl_X3_takesFigure_0.all (am_chk mX3_takesFigure) = true := by decide +kernel
set_option maxRecDepth 100000 in
theorem am_d_X3_takesFigure_1 : ∀ e ∈ am_cl_X3_takesFigure_1, decode cX3_takesFigure e.1 = .ok (e.2.1, e.2.2.1) := by decide +kernel
set_option maxRecDepth 100000 in
theorem am_c_X3_takesFigure_1 : am_cl_X3_takesFigure_1.all (am_chk mX3_takesFigure) = true := by decide +kernel
theorem am_d_X3_takesFigure : ∀ e ∈ am_cl_X3_takesFigure, decode cX3_takesFigure e.1 = .ok (e.2.1, e.2.2.1) := by
  unfold am_cl_X3_takesFigure
  exact List.forall_mem_append.mpr ⟨am_d_X3_takesFigure_0, am_d_X3_takesFigure_1⟩
theorem am_c_X3_takesFigure : am_cl_X3_takesFigure.all (am_chk mX3_takesFigure) = true := by
  unfold am_cl_X3_takesFigure
  simp only [List.all_append, Bool.and_eq_true]
  exact ⟨am_c_X3_takesFigure_0, am_c_X3_takesFigure_1⟩
theorem am_k_X3_takesFigure : am_okK mX3_takesFigure := ⟨am_d_X3_takesFigure, am_c_X3_takesFigure⟩
set_option maxRecDepth 100000 in
theorem am_d_X3_endNumber : ∀ e ∈ am_cl_X3_endNumber, decode cX3_endNumber e.1 = .ok (e.2.1, e.2.2.1) := by decide +kernel
set_option maxRecDepth 100000 in
theorem am_c_X3_endNumber : am_cl_X3_endNumber.all (am_chk mX3_endNumber) = true := by decide +kernel
theorem am_k_X3_endNumber : am_okK mX3_endNumber := ⟨am_d_X3_endNumber, am_c_X3_endNumber⟩
set_option maxRecDepth 100000 in
theorem am_d_X3_goesOn : ∀ e ∈ am_cl_X3_goesOn, decode cX3_goesOn e.1 = .ok (e.2.1, e.2.2.1) := by decide +kernel
set_option maxRecDepth 100000 in
theorem am_c_X3_goesOn : am_cl_X3_goesOn.all (am_chk mX3_goesOn) = true := by decide +kernel
theorem am_k_X3_goesOn : am_okK mX3_goesOn := ⟨am_d_X3_goesOn, am_c_X3_goesOn⟩
set_option maxRecDepth 100000 in
theorem am_d_X3_operates : ∀ e ∈ am_cl_X3_operates, decode cX3_operates e.1 = .ok (e.2.1, e.2.2.1) := by decide +kernel
set_option maxRecDepth 100000 in
theorem am_c_X3_operates : am_cl_X3_operates.all (am_chk mX3_operates) = true := by decide +kernel
theorem am_k_X3_operates : am_okK mX3_operates := ⟨am_d_X3_operates, am_c_X3_operates⟩
set_option maxRecDepth 100000 in
theorem am_d_X3_takesComma : ∀ e ∈ am_cl_X3_takesComma, decode cX3_takesComma e.1 = .ok (e.2.1, e.2.2.1) := by decide +kernel
set_option maxRecDepth 100000 in
theorem am_c_X3_takesComma : am_cl_X3_takesComma.all (am_chk mX3_takesComma) = true := by decide +kernel
theorem am_k_X3_takesComma : am_okK mX3_takesComma := ⟨am_d_X3_takesComma, am_c_X3_takesComma⟩
set_option maxRecDepth 100000 in
theorem am_d_X3_takesBracket : ∀ e ∈ am_cl_X3_takesBracket, decode cX3_takesBracket e.1 = .ok (e.2.1, e.2.2.1) := by decide +kernel
set_option maxRecDepth 100000 in
theorem am_c_X3_takesBracket : am_cl_X3_takesBracket.all (am_chk mX3_takesBracket) = true := by decide +kernel
theorem am_k_X3_takesBracket : am_okK mX3_takesBracket := ⟨am_d_X3_takesBracket, am_c_X3_takesBracket⟩
set_option maxRecDepth 100000 in
theorem am_d_X3_hold : ∀ e ∈ am_cl_X3_hold, decode cX3_hold e.1 = .ok (e.2.1, e.2.2.1) := by decide +kernel
set_option maxRecDepth 100000 in
theorem am_c_X3_hold : am_cl_X3_hold.all (am_chk mX3_hold) = true := by decide +kernel
theorem am_k_X3_hold : am_okK mX3_hold := ⟨am_d_X3_hold, am_c_X3_hold⟩
set_option maxRecDepth 100000 in
theorem am_d_X3_settle : ∀ e ∈ am_cl_X3_settle, decode cX3_settle e.1 = .ok (e.2.1, e.2.2.1) := by decide +kernel
set_option maxRecDepth 100000 in
theorem am_c_X3_settle : am_cl_X3_settle.all (am_chk mX3_settle) = true := by decide +kernel
theorem am_k_X3_settle : am_okK mX3_settle := ⟨am_d_X3_settle, am_c_X3_settle⟩
set_option maxRecDepth 100000 in
theorem am_d_X3_strengthOf : ∀ e ∈ am_cl_X3_strengthOf, decode cX3_strengthOf e.1 = .ok (e.2.1, e.2.2.1) := by decide +kernel
set_option maxRecDepth 100000 in
theorem am_c_X3_strengthOf : am_cl_X3_strengthOf.all (am_chk mX3_strengthOf) = true := by decide +kernel
theorem am_k_X3_strengthOf : am_okK mX3_strengthOf := ⟨am_d_X3_strengthOf, am_c_X3_strengthOf⟩
set_option maxRecDepth 100000 in
theorem am_d_X4_init : ∀ e ∈ am_cl_X4_init, decode cX4_init e.1 = .ok (e.2.1, e.2.2.1) := by decide +kernel
set_option maxRecDepth 100000 in
theorem am_c_X4_init : am_cl_X4_init.all (am_chk mX4_init) = true := by decide +kernel
theorem am_k_X4_init : am_okK mX4_init := ⟨am_d_X4_init, am_c_X4_init⟩
set_option maxRecDepth 100000 in
theorem am_d_X4_workOut_0 : ∀ e ∈ am_cl_X4_workOut_0, decode cX4_workOut e.1 = .ok (e.2.1, e.2.2.1) := by decide +kernel
set_option maxRecDepth 100000 in
theorem am_c_X4_workOut_0 : am_cl_X4_workOut_0.all (am_chk mX4_workOut) = true := by decide +kernel
set_option maxRecDepth 100000 in
theorem am_d_X4_workOut_1 : ∀ e ∈ am_cl_X4_workOut_1, decode cX4_workOut e.1 = .ok (e.2.1, e.2.2.1) := by decide +kernel
set_option maxRecDepth 100000 in
theorem am_c_X4_workOut_1 : am_cl_X4_workOut_1.all (am_chk mX4_workOut) = true := by decide +kernel
theorem am_d_X4_workOut : ∀ e ∈ am_cl_X4_workOut, decode cX4_workOut e.1 = .ok (e.2.1, e.2.2.1) := by
  unfold am_cl_X4_workOut
  exact List.forall_mem_append.mpr ⟨am_d_X4_workOut_0, am_d_X4_workOut_1⟩
theorem am_c_X4_workOut : am_cl_X4_workOut.all (am_chk mX4_workOut) = true := by
  unfold am_cl_X4_workOut
  simp only [List.all_append, Bool.and_eq_true]
  exact ⟨am_c_X4_workOut_0, am_c_X4_workOut_1⟩
theorem am_k_X4_workOut : am_okK mX4_workOut := ⟨am_d_X4_workOut, am_c_X4_workOut⟩
set_option maxRecDepth 100000 in
theorem am_d_X4_operate_0 : ∀ e ∈ am_cl_X4_operate_0, decode cX4_operate e.1 = .ok (e.2.1, e.2.2.1) := by decide +kernel
set_option maxRecDepth 100000 in
theorem am_c_X4_operate_0 : am_cl_X4_operate_0.all (am_chk mX4_operate) = true := by decide +kernel
set_option maxRecDepth 100000 in
theorem am_d_X4_operate_1 : ∀ e ∈ am_cl_X4_operate_1, decode cX4_operate e.1 = .ok (e.2.1, e.2.2.1) := by decide +kernel
set_option maxRecDepth 100000 in
theorem am_c_X4_operate_1 : am_cl_X4_operate_1.all (am_chk mX4_operate) = true := by decide +kernel
theorem am_d_X4_operate : ∀ e ∈ am_cl_X4_operate, decode cX4_operate e.1 = .ok (e.2.1, e.2.2.1) := by
  unfold am_cl_X4_operate
  exact List.forall_mem_append.mpr ⟨am_d_X4_operate_0, am_d_X4_operate_1⟩
theorem am_c_X4_operate : am_cl_X4_operate.all (am_chk mX4_operate) = true := by
  unfold am_cl_X4_operate
  simp only [List.all_append, Bool.and_eq_true]
  exact ⟨am_c_X4_operate_0, am_c_X4_operate_1⟩
theorem am_k_X4_operate : am_okK mX4_operate := ⟨am_d_X4_operate, am_c_X4_operate⟩
set_option maxRecDepth 100000 in
theorem am_d_X4_join : ∀ e ∈ am_cl_X4_join, decode cX4_join e.1 = .ok (e.2.1, e.2.2.1) := by decide +kernel
set_option maxRecDepth 100000 in
theorem am_c_X4_join : am_cl_X4_join.all (am_chk mX4_join) = true := by decide +kernel
theorem am_k_X4_join : am_okK mX4_join := ⟨am_d_X4_join, am_c_X4_join⟩
set_option maxRecDepth 100000 in
theorem am_d_X4_keep : ∀ e ∈ am_cl_X4_keep, decode cX4_keep e.1 = .ok (e.2.1, e.2.2.1) := by decide +kernel
set_option maxRecDepth 100000 in
theorem am_c_X4_keep : am_cl_X4_keep.all (am_chk mX4_keep) = true := by decide +kernel
theorem am_k_X4_keep : am_okK mX4_keep := ⟨am_d_X4_keep, am_c_X4_keep⟩
set_option maxRecDepth 100000 in
theorem am_d_X4_take : ∀ e ∈ am_cl_X4_take, decode cX4_take e.1 = .ok (e.2.1, e.2.2.1) := by decide +kernel
set_option maxRecDepth 100000 in
theorem am_c_X4_take : am_cl_X4_take.all (am_chk mX4_take) = true := by decide +kernel
theorem am_k_X4_take : am_okK mX4_take := ⟨am_d_X4_take, am_c_X4_take⟩
set_option maxRecDepth 100000 in
theorem am_d_X5_init : ∀ e ∈ am_cl_X5_init, decode cX5_init e.1 = .ok (e.2.1, e.2.2.1) := by decide +kernel
set_option maxRecDepth 100000 in
theorem am_c_X5_init : am_cl_X5_init.all (am_chk mX5_init) = true := by decide +kernel
theorem am_k_X5_init : am_okK mX5_init := ⟨am_d_X5_init, am_c_X5_init⟩
set_option maxRecDepth 100000 in
theorem am_d_X5_lookAhead_0 : ∀ e ∈ am_cl_X5_lookAhead_0, decode cX5_lookAhead e.1 = .ok (e.2.1, e.2.2.1) := by decide +kernel
set_option maxRecDepth 100000 in
theorem am_c_X5_lookAhead_0 : am_cl_X5_lookAhead_0.all (am_chk mX5_lookAhead) = true := by decide +kernel
set_option maxRecDepth 100000 in
theorem am_d_X5_lookAhead_1 : ∀ e ∈ am_cl_X5_lookAhead_1, decode cX5_lookAhead e.1 = .ok (e.2.1, e.2.2.1) := by decide +kernel
set_option maxRecDepth 100000 in
theorem am_c_X5_lookAhead_1 : am_cl_X5_lookAhead_1.all (am_chk mX5_lookAhead) = true := by decide +kernel
theorem am_d_X5_lookAhead : ∀ e ∈ am_cl_X5_lookAhead, decode cX5_lookAhead e.1 = .ok (e.2.1, e.2.2.1) := by
  unfold am_cl_X5_lookAhead
  exact List.forall_mem_append.mpr ⟨am_d_X5_lookAhead_0, am_d_X5_lookAhead_1⟩
theorem am_c_X5_lookAhead : am_cl_X5_lookAhead.all (am_chk mX5_lookAhead) = true := by
  unfold am_cl_X5_lookAhead
  simp only [List.all_append, Bool.and_eq_true]
  exact ⟨am_c_X5_lookAhead_0, am_c_X5_lookAhead_1⟩
theorem am_k_X5_lookAhead : am_okK mX5_lookAhead := ⟨am_d_X5_lookAhead, am_c_X5_lookAhead⟩
set_option maxRecDepth 100000 in
theorem am_d_X6_init_0 : ∀ e ∈ am_cl_X6_init_0, decode cX6_init e.1 = .ok (e.2.1, e.2.2.1) := by decide +kernel
set_option maxRecDepth 100000 in
theorem am_c_X6_init_0 : am_cl_X6_init_0.all (am_chk mX6_init) = true := by decide +kernel
set_option maxRecDepth 100000 in
theorem am_d_X6_init_1 : ∀ e ∈ am_cl_X6_init_1, decode cX6_init e.1 = .ok (e.2.1, e.2.2.1) := by decide +kernel
set_option maxRecDepth 100000 in
theorem am_c_X6_init_1 : am_cl_X6_init_1.all (am_chk mX6_init) = true := by decide +kernel
theorem am_d_X6_init : ∀ e ∈ am_cl_X6_init, decode cX6_init e.1 = .ok (e.2.1, e.2.2.1) := by
  unfold am_cl_X6_init
  exact List.forall_mem_append.mpr ⟨am_d_X6_init_0, am_d_X6_init_1⟩
theorem am_c_X6_init : am_cl_X6_init.all (am_chk mX6_init) = true := by
  unfold am_cl_X6_init
  simp only [List.all_append, Bool.and_eq_true]
  exact ⟨am_c_X6_init_0, am_c_X6_init_1⟩
theorem am_k_X6_init : am_okK mX6_init := ⟨am_d_X6_init, am_c_X6_init⟩
set_option maxRecDepth 100000 in
theorem am_d_X6_has : ∀ e ∈ am_cl_X6_has, decode cX6_has e.1 = .ok (e.2.1, e.2.2.1) := by decide +kernel
set_option maxRecDepth 100000 in
theorem am_c_X6_has : am_cl_X6_has.all (am_chk mX6_has) = true := by decide +kernel
theorem am_k_X6_has : am_okK mX6_has := ⟨am_d_X6_has, am_c_X6_has⟩
set_option maxRecDepth 100000 in
theorem am_d_X6_latestOf : ∀ e ∈ am_cl_X6_latestOf, decode cX6_latestOf e.1 = .ok (e.2.1, e.2.2.1) := by decide +kernel
set_option maxRecDepth 100000 in
theorem am_c_X6_latestOf : am_cl_X6_latestOf.all (am_chk mX6_latestOf) = true := by decide +kernel
theorem am_k_X6_latestOf : am_okK mX6_latestOf := ⟨am_d_X6_latestOf, am_c_X6_latestOf⟩
set_option maxRecDepth 100000 in
theorem am_d_X6_isLatest : ∀ e ∈ am_cl_X6_isLatest, decode cX6_isLatest e.1 = .ok (e.2.1, e.2.2.1) := by decide +kernel
set_option maxRecDepth 100000 in
theorem am_c_X6_isLatest : am_cl_X6_isLatest.all (am_chk mX6_isLatest) = true := by decide +kernel
theorem am_k_X6_isLatest : am_okK mX6_isLatest := ⟨am_d_X6_isLatest, am_c_X6_isLatest⟩
set_option maxRecDepth 100000 in
theorem am_d_X6_modelOf : ∀ e ∈ am_cl_X6_modelOf, decode cX6_modelOf e.1 = .ok (e.2.1, e.2.2.1) := by decide +kernel
set_option maxRecDepth 100000 in
theorem am_c_X6_modelOf : am_cl_X6_modelOf.all (am_chk mX6_modelOf) = true := by decide +kernel
theorem am_k_X6_modelOf : am_okK mX6_modelOf := ⟨am_d_X6_modelOf, am_c_X6_modelOf⟩
set_option maxRecDepth 100000 in
theorem am_d_X6_pinOf : ∀ e ∈ am_cl_X6_pinOf, decode cX6_pinOf e.1 = .ok (e.2.1, e.2.2.1) := by decide +kernel
set_option maxRecDepth 100000 in
theorem am_c_X6_pinOf : am_cl_X6_pinOf.all (am_chk mX6_pinOf) = true := by decide +kernel
theorem am_k_X6_pinOf : am_okK mX6_pinOf := ⟨am_d_X6_pinOf, am_c_X6_pinOf⟩
set_option maxRecDepth 100000 in
theorem am_d_X6_names : ∀ e ∈ am_cl_X6_names, decode cX6_names e.1 = .ok (e.2.1, e.2.2.1) := by decide +kernel
set_option maxRecDepth 100000 in
theorem am_c_X6_names : am_cl_X6_names.all (am_chk mX6_names) = true := by decide +kernel
theorem am_k_X6_names : am_okK mX6_names := ⟨am_d_X6_names, am_c_X6_names⟩
set_option maxRecDepth 100000 in
theorem am_d_X6_modelsUnder : ∀ e ∈ am_cl_X6_modelsUnder, decode cX6_modelsUnder e.1 = .ok (e.2.1, e.2.2.1) := by decide +kernel
set_option maxRecDepth 100000 in
theorem am_c_X6_modelsUnder : am_cl_X6_modelsUnder.all (am_chk mX6_modelsUnder) = true := by decide +kernel
theorem am_k_X6_modelsUnder : am_okK mX6_modelsUnder := ⟨am_d_X6_modelsUnder, am_c_X6_modelsUnder⟩
set_option maxRecDepth 100000 in
theorem am_d_X6_namedBy : ∀ e ∈ am_cl_X6_namedBy, decode cX6_namedBy e.1 = .ok (e.2.1, e.2.2.1) := by decide +kernel
set_option maxRecDepth 100000 in
theorem am_c_X6_namedBy : am_cl_X6_namedBy.all (am_chk mX6_namedBy) = true := by decide +kernel
theorem am_k_X6_namedBy : am_okK mX6_namedBy := ⟨am_d_X6_namedBy, am_c_X6_namedBy⟩
set_option maxRecDepth 100000 in
theorem am_d_X6_modelsOn : ∀ e ∈ am_cl_X6_modelsOn, decode cX6_modelsOn e.1 = .ok (e.2.1, e.2.2.1) := by decide +kernel
set_option maxRecDepth 100000 in
theorem am_c_X6_modelsOn : am_cl_X6_modelsOn.all (am_chk mX6_modelsOn) = true := by decide +kernel
theorem am_k_X6_modelsOn : am_okK mX6_modelsOn := ⟨am_d_X6_modelsOn, am_c_X6_modelsOn⟩
set_option maxRecDepth 100000 in
theorem am_d_X6_mayTake : ∀ e ∈ am_cl_X6_mayTake, decode cX6_mayTake e.1 = .ok (e.2.1, e.2.2.1) := by decide +kernel
set_option maxRecDepth 100000 in
theorem am_c_X6_mayTake : am_cl_X6_mayTake.all (am_chk mX6_mayTake) = true := by decide +kernel
theorem am_k_X6_mayTake : am_okK mX6_mayTake := ⟨am_d_X6_mayTake, am_c_X6_mayTake⟩
set_option maxRecDepth 100000 in
theorem am_d_X6_take : ∀ e ∈ am_cl_X6_take, decode cX6_take e.1 = .ok (e.2.1, e.2.2.1) := by decide +kernel
set_option maxRecDepth 100000 in
theorem am_c_X6_take : am_cl_X6_take.all (am_chk mX6_take) = true := by decide +kernel
theorem am_k_X6_take : am_okK mX6_take := ⟨am_d_X6_take, am_c_X6_take⟩
set_option maxRecDepth 100000 in
theorem am_d_X6_shelve_0 : ∀ e ∈ am_cl_X6_shelve_0, decode cX6_shelve e.1 = .ok (e.2.1, e.2.2.1) := by decide +kernel
set_option maxRecDepth 100000 in
theorem am_c_X6_shelve_0 : am_cl_X6_shelve_0.all (am_chk mX6_shelve) = true := by decide +kernel
set_option maxRecDepth 100000 in
theorem am_d_X6_shelve_1 : ∀ e ∈ am_cl_X6_shelve_1, decode cX6_shelve e.1 = .ok (e.2.1, e.2.2.1) := by decide +kernel
set_option maxRecDepth 100000 in
theorem am_c_X6_shelve_1 : am_cl_X6_shelve_1.all (am_chk mX6_shelve) = true := by decide +kernel
set_option maxRecDepth 100000 in
theorem am_d_X6_shelve_2 : ∀ e ∈ am_cl_X6_shelve_2, decode cX6_shelve e.1 = .ok (e.2.1, e.2.2.1) := by decide +kernel
set_option maxRecDepth 100000 in
theorem am_c_X6_shelve_2 : am_cl_X6_shelve_2.all (am_chk mX6_shelve) = true := by decide +kernel
theorem am_d_X6_shelve : ∀ e ∈ am_cl_X6_shelve, decode cX6_shelve e.1 = .ok (e.2.1, e.2.2.1) := by
  unfold am_cl_X6_shelve
  exact List.forall_mem_append.mpr ⟨am_d_X6_shelve_0, List.forall_mem_append.mpr ⟨am_d_X6_shelve_1, am_d_X6_shelve_2⟩⟩
theorem am_c_X6_shelve : am_cl_X6_shelve.all (am_chk mX6_shelve) = true := by
  unfold am_cl_X6_shelve
  simp only [List.all_append, Bool.and_eq_true]
  exact ⟨am_c_X6_shelve_0, ⟨am_c_X6_shelve_1, am_c_X6_shelve_2⟩⟩
theorem am_k_X6_shelve : am_okK mX6_shelve := ⟨am_d_X6_shelve, am_c_X6_shelve⟩
set_option maxRecDepth 100000 in
theorem am_d_X6_nextToBind : ∀ e ∈ am_cl_X6_nextToBind, decode cX6_nextToBind e.1 = .ok (e.2.1, e.2.2.1) := by decide +kernel
set_option maxRecDepth 100000 in
theorem am_c_X6_nextToBind : am_cl_X6_nextToBind.all (am_chk mX6_nextToBind) = true := by decide +kernel
theorem am_k_X6_nextToBind : am_okK mX6_nextToBind := ⟨am_d_X6_nextToBind, am_c_X6_nextToBind⟩
set_option maxRecDepth 100000 in
theorem am_d_X6_pinsOld : ∀ e ∈ am_cl_X6_pinsOld, decode cX6_pinsOld e.1 = .ok (e.2.1, e.2.2.1) := by decide +kernel
set_option maxRecDepth 100000 in
theorem am_c_X6_pinsOld : am_cl_X6_pinsOld.all (am_chk mX6_pinsOld) = true := by decide +kernel
theorem am_k_X6_pinsOld : am_okK mX6_pinsOld := ⟨am_d_X6_pinsOld, am_c_X6_pinsOld⟩
set_option maxRecDepth 100000 in
theorem am_d_X6_giveUp : ∀ e ∈ am_cl_X6_giveUp, decode cX6_giveUp e.1 = .ok (e.2.1, e.2.2.1) := by decide +kernel
set_option maxRecDepth 100000 in
theorem am_c_X6_giveUp : am_cl_X6_giveUp.all (am_chk mX6_giveUp) = true := by decide +kernel
theorem am_k_X6_giveUp : am_okK mX6_giveUp := ⟨am_d_X6_giveUp, am_c_X6_giveUp⟩
set_option maxRecDepth 100000 in
theorem am_d_X6_tellRain_0 : ∀ e ∈ am_cl_X6_tellRain_0, decode cX6_tellRain e.1 = .ok (e.2.1, e.2.2.1) := by decide +kernel
set_option maxRecDepth 100000 in
theorem am_c_X6_tellRain_0 : am_cl_X6_tellRain_0.all (am_chk mX6_tellRain) = true := by decide +kernel
set_option maxRecDepth 100000 in
theorem am_d_X6_tellRain_1 : ∀ e ∈ am_cl_X6_tellRain_1, decode cX6_tellRain e.1 = .ok (e.2.1, e.2.2.1) := by decide +kernel
set_option maxRecDepth 100000 in
theorem am_c_X6_tellRain_1 : am_cl_X6_tellRain_1.all (am_chk mX6_tellRain) = true := by decide +kernel
theorem am_d_X6_tellRain : ∀ e ∈ am_cl_X6_tellRain, decode cX6_tellRain e.1 = .ok (e.2.1, e.2.2.1) := by
  unfold am_cl_X6_tellRain
  exact List.forall_mem_append.mpr ⟨am_d_X6_tellRain_0, am_d_X6_tellRain_1⟩
theorem am_c_X6_tellRain : am_cl_X6_tellRain.all (am_chk mX6_tellRain) = true := by
  unfold am_cl_X6_tellRain
  simp only [List.all_append, Bool.and_eq_true]
  exact ⟨am_c_X6_tellRain_0, am_c_X6_tellRain_1⟩
theorem am_k_X6_tellRain : am_okK mX6_tellRain := ⟨am_d_X6_tellRain, am_c_X6_tellRain⟩
set_option maxRecDepth 100000 in
theorem am_d_X6_forget : ∀ e ∈ am_cl_X6_forget, decode cX6_forget e.1 = .ok (e.2.1, e.2.2.1) := by decide +kernel
set_option maxRecDepth 100000 in
theorem am_c_X6_forget : am_cl_X6_forget.all (am_chk mX6_forget) = true := by decide +kernel
theorem am_k_X6_forget : am_okK mX6_forget := ⟨am_d_X6_forget, am_c_X6_forget⟩
set_option maxRecDepth 100000 in
theorem am_d_X6_outputOf : ∀ e ∈ am_cl_X6_outputOf, decode cX6_outputOf e.1 = .ok (e.2.1, e.2.2.1) := by decide +kernel
set_option maxRecDepth 100000 in
theorem am_c_X6_outputOf : am_cl_X6_outputOf.all (am_chk mX6_outputOf) = true := by decide +kernel
theorem am_k_X6_outputOf : am_okK mX6_outputOf := ⟨am_d_X6_outputOf, am_c_X6_outputOf⟩
set_option maxRecDepth 100000 in
theorem am_d_X6_fill_0 : ∀ e ∈ am_cl_X6_fill_0, decode cX6_fill e.1 = .ok (e.2.1, e.2.2.1) := by decide +kernel
set_option maxRecDepth 100000 in
theorem am_c_X6_fill_0 : am_cl_X6_fill_0.all (am_chk mX6_fill) = true := by decide +kernel
set_option maxRecDepth 100000 in
theorem am_d_X6_fill_1 : ∀ e ∈ am_cl_X6_fill_1, decode cX6_fill e.1 = .ok (e.2.1, e.2.2.1) := by decide +kernel
set_option maxRecDepth 100000 in
theorem am_c_X6_fill_1 : am_cl_X6_fill_1.all (am_chk mX6_fill) = true := by decide +kernel
set_option maxRecDepth 100000 in
theorem am_d_X6_fill_2 : ∀ e ∈ am_cl_X6_fill_2, decode cX6_fill e.1 = .ok (e.2.1, e.2.2.1) := by decide +kernel
set_option maxRecDepth 100000 in
theorem am_c_X6_fill_2 : am_cl_X6_fill_2.all (am_chk mX6_fill) = true := by decide +kernel
theorem am_d_X6_fill : ∀ e ∈ am_cl_X6_fill, decode cX6_fill e.1 = .ok (e.2.1, e.2.2.1) := by
  unfold am_cl_X6_fill
  exact List.forall_mem_append.mpr ⟨am_d_X6_fill_0, List.forall_mem_append.mpr ⟨am_d_X6_fill_1, am_d_X6_fill_2⟩⟩
theorem am_c_X6_fill : am_cl_X6_fill.all (am_chk mX6_fill) = true := by
  unfold am_cl_X6_fill
  simp only [List.all_append, Bool.and_eq_true]
  exact ⟨am_c_X6_fill_0, ⟨am_c_X6_fill_1, am_c_X6_fill_2⟩⟩
theorem am_k_X6_fill : am_okK mX6_fill := ⟨am_d_X6_fill, am_c_X6_fill⟩
set_option maxRecDepth 100000 in
theorem am_d_X7_init : ∀ e ∈ am_cl_X7_init, decode cX7_init e.1 = .ok (e.2.1, e.2.2.1) := by decide +kernel
set_option maxRecDepth 100000 in
theorem am_c_X7_init : am_cl_X7_init.all (am_chk mX7_init) = true := by decide +kernel
theorem am_k_X7_init : am_okK mX7_init := ⟨am_d_X7_init, am_c_X7_init⟩
set_option maxRecDepth 100000 in
theorem am_d_X8_init : ∀ e ∈ am_cl_X8_init, decode cX8_init e.1 = .ok (e.2.1, e.2.2.1) := by decide +kernel
set_option maxRecDepth 100000 in
theorem am_c_X8_init : am_cl_X8_init.all (am_chk mX8_init) = true := by decide +kernel
theorem am_k_X8_init : am_okK mX8_init := ⟨am_d_X8_init, am_c_X8_init⟩
set_option maxRecDepth 100000 in
theorem am_d_X9_init_0 : ∀ e ∈ am_cl_X9_init_0, decode cX9_init e.1 = .ok (e.2.1, e.2.2.1) := by decide +kernel
set_option maxRecDepth 100000 in
theorem am_c_X9_init_0 : am_cl_X9_init_0.all (am_chk mX9_init) = true := by decide +kernel
set_option maxRecDepth 100000 in
theorem am_d_X9_init_1 : ∀ e ∈ am_cl_X9_init_1, decode cX9_init e.1 = .ok (e.2.1, e.2.2.1) := by decide +kernel
set_option maxRecDepth 100000 in
theorem am_c_X9_init_1 : am_cl_X9_init_1.all (am_chk mX9_init) = true := by decide +kernel
theorem am_d_X9_init : ∀ e ∈ am_cl_X9_init, decode cX9_init e.1 = .ok (e.2.1, e.2.2.1) := by
  unfold am_cl_X9_init
  exact List.forall_mem_append.mpr ⟨am_d_X9_init_0, am_d_X9_init_1⟩
theorem am_c_X9_init : am_cl_X9_init.all (am_chk mX9_init) = true := by
  unfold am_cl_X9_init
  simp only [List.all_append, Bool.and_eq_true]
  exact ⟨am_c_X9_init_0, am_c_X9_init_1⟩
theorem am_k_X9_init : am_okK mX9_init := ⟨am_d_X9_init, am_c_X9_init⟩
set_option maxRecDepth 100000 in
theorem am_d_X9_type : ∀ e ∈ am_cl_X9_type, decode cX9_type e.1 = .ok (e.2.1, e.2.2.1) := by decide +kernel
set_option maxRecDepth 100000 in
theorem am_c_X9_type : am_cl_X9_type.all (am_chk mX9_type) = true := by decide +kernel
theorem am_k_X9_type : am_okK mX9_type := ⟨am_d_X9_type, am_c_X9_type⟩
set_option maxRecDepth 100000 in
theorem am_d_X9_wipe : ∀ e ∈ am_cl_X9_wipe, decode cX9_wipe e.1 = .ok (e.2.1, e.2.2.1) := by decide +kernel
set_option maxRecDepth 100000 in
theorem am_c_X9_wipe : am_cl_X9_wipe.all (am_chk mX9_wipe) = true := by decide +kernel
theorem am_k_X9_wipe : am_okK mX9_wipe := ⟨am_d_X9_wipe, am_c_X9_wipe⟩
set_option maxRecDepth 100000 in
theorem am_d_X9_fault : ∀ e ∈ am_cl_X9_fault, decode cX9_fault e.1 = .ok (e.2.1, e.2.2.1) := by decide +kernel
set_option maxRecDepth 100000 in
theorem am_c_X9_fault : am_cl_X9_fault.all (am_chk mX9_fault) = true := by decide +kernel
theorem am_k_X9_fault : am_okK mX9_fault := ⟨am_d_X9_fault, am_c_X9_fault⟩
set_option maxRecDepth 100000 in
theorem am_d_X9_publish : ∀ e ∈ am_cl_X9_publish, decode cX9_publish e.1 = .ok (e.2.1, e.2.2.1) := by decide +kernel
set_option maxRecDepth 100000 in
theorem am_c_X9_publish : am_cl_X9_publish.all (am_chk mX9_publish) = true := by decide +kernel
theorem am_k_X9_publish : am_okK mX9_publish := ⟨am_d_X9_publish, am_c_X9_publish⟩
set_option maxRecDepth 100000 in
theorem am_d_X9_retire : ∀ e ∈ am_cl_X9_retire, decode cX9_retire e.1 = .ok (e.2.1, e.2.2.1) := by decide +kernel
set_option maxRecDepth 100000 in
theorem am_c_X9_retire : am_cl_X9_retire.all (am_chk mX9_retire) = true := by decide +kernel
theorem am_k_X9_retire : am_okK mX9_retire := ⟨am_d_X9_retire, am_c_X9_retire⟩
set_option maxRecDepth 100000 in
theorem am_d_X9_latest : ∀ e ∈ am_cl_X9_latest, decode cX9_latest e.1 = .ok (e.2.1, e.2.2.1) := by decide +kernel
set_option maxRecDepth 100000 in
theorem am_c_X9_latest : am_cl_X9_latest.all (am_chk mX9_latest) = true := by decide +kernel
theorem am_k_X9_latest : am_okK mX9_latest := ⟨am_d_X9_latest, am_c_X9_latest⟩
set_option maxRecDepth 100000 in
theorem am_d_X9_pin : ∀ e ∈ am_cl_X9_pin, decode cX9_pin e.1 = .ok (e.2.1, e.2.2.1) := by decide +kernel
set_option maxRecDepth 100000 in
theorem am_c_X9_pin : am_cl_X9_pin.all (am_chk mX9_pin) = true := by decide +kernel
theorem am_k_X9_pin : am_okK mX9_pin := ⟨am_d_X9_pin, am_c_X9_pin⟩
set_option maxRecDepth 100000 in
theorem am_d_X9_rain : ∀ e ∈ am_cl_X9_rain, decode cX9_rain e.1 = .ok (e.2.1, e.2.2.1) := by decide +kernel
set_option maxRecDepth 100000 in
theorem am_c_X9_rain : am_cl_X9_rain.all (am_chk mX9_rain) = true := by decide +kernel
theorem am_k_X9_rain : am_okK mX9_rain := ⟨am_d_X9_rain, am_c_X9_rain⟩
set_option maxRecDepth 100000 in
theorem am_d_X9_out : ∀ e ∈ am_cl_X9_out, decode cX9_out e.1 = .ok (e.2.1, e.2.2.1) := by decide +kernel
set_option maxRecDepth 100000 in
theorem am_c_X9_out : am_cl_X9_out.all (am_chk mX9_out) = true := by decide +kernel
theorem am_k_X9_out : am_okK mX9_out := ⟨am_d_X9_out, am_c_X9_out⟩
set_option maxRecDepth 100000 in
theorem am_d_X9_outAnew : ∀ e ∈ am_cl_X9_outAnew, decode cX9_outAnew e.1 = .ok (e.2.1, e.2.2.1) := by decide +kernel
set_option maxRecDepth 100000 in
theorem am_c_X9_outAnew : am_cl_X9_outAnew.all (am_chk mX9_outAnew) = true := by decide +kernel
theorem am_k_X9_outAnew : am_okK mX9_outAnew := ⟨am_d_X9_outAnew, am_c_X9_outAnew⟩
set_option maxRecDepth 100000 in
theorem am_d_X9_run_0 : ∀ e ∈ am_cl_X9_run_0, decode cX9_run e.1 = .ok (e.2.1, e.2.2.1) := by decide +kernel
set_option maxRecDepth 100000 in
theorem am_c_X9_run_0 : am_cl_X9_run_0.all (am_chk mX9_run) = true := by decide +kernel
set_option maxRecDepth 100000 in
theorem am_d_X9_run_1 : ∀ e ∈ am_cl_X9_run_1, decode cX9_run e.1 = .ok (e.2.1, e.2.2.1) := by decide +kernel
set_option maxRecDepth 100000 in
theorem am_c_X9_run_1 : am_cl_X9_run_1.all (am_chk mX9_run) = true := by decide +kernel
theorem am_d_X9_run : ∀ e ∈ am_cl_X9_run, decode cX9_run e.1 = .ok (e.2.1, e.2.2.1) := by
  unfold am_cl_X9_run
  exact List.forall_mem_append.mpr ⟨am_d_X9_run_0, am_d_X9_run_1⟩
theorem am_c_X9_run : am_cl_X9_run.all (am_chk mX9_run) = true := by
  unfold am_cl_X9_run
  simp only [List.all_append, Bool.and_eq_true]
  exact ⟨am_c_X9_run_0, am_c_X9_run_1⟩
theorem am_k_X9_run : am_okK mX9_run := ⟨am_d_X9_run, am_c_X9_run⟩
set_option maxRecDepth 100000 in
theorem am_d_X9_why : ∀ e ∈ am_cl_X9_why, decode cX9_why e.1 = .ok (e.2.1, e.2.2.1) := by decide +kernel
set_option maxRecDepth 100000 in
theorem am_c_X9_why : am_cl_X9_why.all (am_chk mX9_why) = true := by decide +kernel
theorem am_k_X9_why : am_okK mX9_why := ⟨am_d_X9_why, am_c_X9_why⟩
set_option maxRecDepth 100000 in
theorem am_d_X9_peak : ∀ e ∈ am_cl_X9_peak, decode cX9_peak e.1 = .ok (e.2.1, e.2.2.1) := by decide +kernel
set_option maxRecDepth 100000 in
theorem am_c_X9_peak : am_cl_X9_peak.all (am_chk mX9_peak) = true := by decide +kernel
theorem am_k_X9_peak : am_okK mX9_peak := ⟨am_d_X9_peak, am_c_X9_peak⟩
set_option maxRecDepth 100000 in
theorem am_d_X9_peakHour : ∀ e ∈ am_cl_X9_peakHour, decode cX9_peakHour e.1 = .ok (e.2.1, e.2.2.1) := by decide +kernel
set_option maxRecDepth 100000 in
theorem am_c_X9_peakHour : am_cl_X9_peakHour.all (am_chk mX9_peakHour) = true := by decide +kernel
theorem am_k_X9_peakHour : am_okK mX9_peakHour := ⟨am_d_X9_peakHour, am_c_X9_peakHour⟩
set_option maxRecDepth 100000 in
theorem am_d_X9_peakAnew : ∀ e ∈ am_cl_X9_peakAnew, decode cX9_peakAnew e.1 = .ok (e.2.1, e.2.2.1) := by decide +kernel
set_option maxRecDepth 100000 in
theorem am_c_X9_peakAnew : am_cl_X9_peakAnew.all (am_chk mX9_peakAnew) = true := by decide +kernel
theorem am_k_X9_peakAnew : am_okK mX9_peakAnew := ⟨am_d_X9_peakAnew, am_c_X9_peakAnew⟩
set_option maxRecDepth 100000 in
theorem am_d_X9_build : ∀ e ∈ am_cl_X9_build, decode cX9_build e.1 = .ok (e.2.1, e.2.2.1) := by decide +kernel
set_option maxRecDepth 100000 in
theorem am_c_X9_build : am_cl_X9_build.all (am_chk mX9_build) = true := by decide +kernel
theorem am_k_X9_build : am_okK mX9_build := ⟨am_d_X9_build, am_c_X9_build⟩
set_option maxRecDepth 100000 in
theorem am_d_X9_rule : ∀ e ∈ am_cl_X9_rule, decode cX9_rule e.1 = .ok (e.2.1, e.2.2.1) := by decide +kernel
set_option maxRecDepth 100000 in
theorem am_c_X9_rule : am_cl_X9_rule.all (am_chk mX9_rule) = true := by decide +kernel
theorem am_k_X9_rule : am_okK mX9_rule := ⟨am_d_X9_rule, am_c_X9_rule⟩
set_option maxRecDepth 100000 in
theorem am_d_X9_goBy : ∀ e ∈ am_cl_X9_goBy, decode cX9_goBy e.1 = .ok (e.2.1, e.2.2.1) := by decide +kernel
set_option maxRecDepth 100000 in
theorem am_c_X9_goBy : am_cl_X9_goBy.all (am_chk mX9_goBy) = true := by decide +kernel
theorem am_k_X9_goBy : am_okK mX9_goBy := ⟨am_d_X9_goBy, am_c_X9_goBy⟩
set_option maxRecDepth 100000 in
theorem am_d_X9_level : ∀ e ∈ am_cl_X9_level, decode cX9_level e.1 = .ok (e.2.1, e.2.2.1) := by decide +kernel
set_option maxRecDepth 100000 in
theorem am_c_X9_level : am_cl_X9_level.all (am_chk mX9_level) = true := by decide +kernel
theorem am_k_X9_level : am_okK mX9_level := ⟨am_d_X9_level, am_c_X9_level⟩
set_option maxRecDepth 100000 in
theorem am_d_X9_below : ∀ e ∈ am_cl_X9_below, decode cX9_below e.1 = .ok (e.2.1, e.2.2.1) := by decide +kernel
set_option maxRecDepth 100000 in
theorem am_c_X9_below : am_cl_X9_below.all (am_chk mX9_below) = true := by decide +kernel
theorem am_k_X9_below : am_okK mX9_below := ⟨am_d_X9_below, am_c_X9_below⟩
set_option maxRecDepth 100000 in
theorem am_d_X9_valley : ∀ e ∈ am_cl_X9_valley, decode cX9_valley e.1 = .ok (e.2.1, e.2.2.1) := by decide +kernel
set_option maxRecDepth 100000 in
theorem am_c_X9_valley : am_cl_X9_valley.all (am_chk mX9_valley) = true := by decide +kernel
theorem am_k_X9_valley : am_okK mX9_valley := ⟨am_d_X9_valley, am_c_X9_valley⟩
set_option maxRecDepth 100000 in
theorem am_d_X9_sound_0 : ∀ e ∈ am_cl_X9_sound_0, decode cX9_sound e.1 = .ok (e.2.1, e.2.2.1) := by decide +kernel
set_option maxRecDepth 100000 in
theorem am_c_X9_sound_0 : am_cl_X9_sound_0.all (am_chk mX9_sound) = true := by decide +kernel
set_option maxRecDepth 100000 in
theorem am_d_X9_sound_1 : ∀ e ∈ am_cl_X9_sound_1, decode cX9_sound e.1 = .ok (e.2.1, e.2.2.1) := by decide +kernel
set_option maxRecDepth 100000 in
theorem am_c_X9_sound_1 : am_cl_X9_sound_1.all (am_chk mX9_sound) = true := by decide +kernel
theorem am_d_X9_sound : ∀ e ∈ am_cl_X9_sound, decode cX9_sound e.1 = .ok (e.2.1, e.2.2.1) := by
  unfold am_cl_X9_sound
  exact List.forall_mem_append.mpr ⟨am_d_X9_sound_0, am_d_X9_sound_1⟩
theorem am_c_X9_sound : am_cl_X9_sound.all (am_chk mX9_sound) = true := by
  unfold am_cl_X9_sound
  simp only [List.all_append, Bool.and_eq_true]
  exact ⟨am_c_X9_sound_0, am_c_X9_sound_1⟩
theorem am_k_X9_sound : am_okK mX9_sound := ⟨am_d_X9_sound, am_c_X9_sound⟩
set_option maxRecDepth 100000 in
theorem am_d_X9_siren : ∀ e ∈ am_cl_X9_siren, decode cX9_siren e.1 = .ok (e.2.1, e.2.2.1) := by decide +kernel
set_option maxRecDepth 100000 in
theorem am_c_X9_siren : am_cl_X9_siren.all (am_chk mX9_siren) = true := by decide +kernel
theorem am_k_X9_siren : am_okK mX9_siren := ⟨am_d_X9_siren, am_c_X9_siren⟩
set_option maxRecDepth 100000 in
theorem am_d_X9_walkers : ∀ e ∈ am_cl_X9_walkers, decode cX9_walkers e.1 = .ok (e.2.1, e.2.2.1) := by decide +kernel
set_option maxRecDepth 100000 in
theorem am_c_X9_walkers : am_cl_X9_walkers.all (am_chk mX9_walkers) = true := by decide +kernel
theorem am_k_X9_walkers : am_okK mX9_walkers := ⟨am_d_X9_walkers, am_c_X9_walkers⟩
set_option maxRecDepth 100000 in
theorem am_d_X9_trust : ∀ e ∈ am_cl_X9_trust, decode cX9_trust e.1 = .ok (e.2.1, e.2.2.1) := by decide +kernel
set_option maxRecDepth 100000 in
theorem am_c_X9_trust : am_cl_X9_trust.all (am_chk mX9_trust) = true := by decide +kernel
theorem am_k_X9_trust : am_okK mX9_trust := ⟨am_d_X9_trust, am_c_X9_trust⟩
set_option maxRecDepth 100000 in
theorem am_d_X9_saved : ∀ e ∈ am_cl_X9_saved, decode cX9_saved e.1 = .ok (e.2.1, e.2.2.1) := by decide +kernel
set_option maxRecDepth 100000 in
theorem am_c_X9_saved : am_cl_X9_saved.all (am_chk mX9_saved) = true := by decide +kernel
theorem am_k_X9_saved : am_okK mX9_saved := ⟨am_d_X9_saved, am_c_X9_saved⟩
set_option maxRecDepth 100000 in
theorem am_d_X9_alarm_0 : ∀ e ∈ am_cl_X9_alarm_0, decode cX9_alarm e.1 = .ok (e.2.1, e.2.2.1) := by decide +kernel
set_option maxRecDepth 100000 in
theorem am_c_X9_alarm_0 : am_cl_X9_alarm_0.all (am_chk mX9_alarm) = true := by decide +kernel
set_option maxRecDepth 100000 in
theorem am_d_X9_alarm_1 : ∀ e ∈ am_cl_X9_alarm_1, decode cX9_alarm e.1 = .ok (e.2.1, e.2.2.1) := by decide +kernel
set_option maxRecDepth 100000 in
theorem am_c_X9_alarm_1 : am_cl_X9_alarm_1.all (am_chk mX9_alarm) = true := by decide +kernel
theorem am_d_X9_alarm : ∀ e ∈ am_cl_X9_alarm, decode cX9_alarm e.1 = .ok (e.2.1, e.2.2.1) := by
  unfold am_cl_X9_alarm
  exact List.forall_mem_append.mpr ⟨am_d_X9_alarm_0, am_d_X9_alarm_1⟩
theorem am_c_X9_alarm : am_cl_X9_alarm.all (am_chk mX9_alarm) = true := by
  unfold am_cl_X9_alarm
  simp only [List.all_append, Bool.and_eq_true]
  exact ⟨am_c_X9_alarm_0, am_c_X9_alarm_1⟩
theorem am_k_X9_alarm : am_okK mX9_alarm := ⟨am_d_X9_alarm, am_c_X9_alarm⟩
set_option maxRecDepth 100000 in
theorem am_d_X9_pass_0 : ∀ e ∈ am_cl_X9_pass_0, decode cX9_pass e.1 = .ok (e.2.1, e.2.2.1) := by decide +kernel
set_option maxRecDepth 100000 in
theorem am_c_X9_pass_0 : am_cl_X9_pass_0.all (am_chk mX9_pass) = true := by decide +kernel
set_option maxRecDepth 100000 in
theorem am_d_X9_pass_1 : ∀ e ∈ am_cl_X9_pass_1, decode cX9_pass e.1 = .ok (e.2.1, e.2.2.1) := by decide +kernel
set_option maxRecDepth 100000 in
theorem am_c_X9_pass_1 : am_cl_X9_pass_1.all (am_chk mX9_pass) = true := by decide +kernel
theorem am_d_X9_pass : ∀ e ∈ am_cl_X9_pass, decode cX9_pass e.1 = .ok (e.2.1, e.2.2.1) := by
  unfold am_cl_X9_pass
  exact List.forall_mem_append.mpr ⟨am_d_X9_pass_0, am_d_X9_pass_1⟩
theorem am_c_X9_pass : am_cl_X9_pass.all (am_chk mX9_pass) = true := by
  unfold am_cl_X9_pass
  simp only [List.all_append, Bool.and_eq_true]
  exact ⟨am_c_X9_pass_0, am_c_X9_pass_1⟩
theorem am_k_X9_pass : am_okK mX9_pass := ⟨am_d_X9_pass, am_c_X9_pass⟩
set_option maxRecDepth 100000 in
theorem am_d_X9_isModel : ∀ e ∈ am_cl_X9_isModel, decode cX9_isModel e.1 = .ok (e.2.1, e.2.2.1) := by decide +kernel
set_option maxRecDepth 100000 in
theorem am_c_X9_isModel : am_cl_X9_isModel.all (am_chk mX9_isModel) = true := by decide +kernel
theorem am_k_X9_isModel : am_okK mX9_isModel := ⟨am_d_X9_isModel, am_c_X9_isModel⟩
set_option maxRecDepth 100000 in
theorem am_d_X9_isHour : ∀ e ∈ am_cl_X9_isHour, decode cX9_isHour e.1 = .ok (e.2.1, e.2.2.1) := by decide +kernel
set_option maxRecDepth 100000 in
theorem am_c_X9_isHour : am_cl_X9_isHour.all (am_chk mX9_isHour) = true := by decide +kernel
theorem am_k_X9_isHour : am_okK mX9_isHour := ⟨am_d_X9_isHour, am_c_X9_isHour⟩
set_option maxRecDepth 100000 in
theorem am_d_X9_isDam : ∀ e ∈ am_cl_X9_isDam, decode cX9_isDam e.1 = .ok (e.2.1, e.2.2.1) := by decide +kernel
set_option maxRecDepth 100000 in
theorem am_c_X9_isDam : am_cl_X9_isDam.all (am_chk mX9_isDam) = true := by decide +kernel
theorem am_k_X9_isDam : am_okK mX9_isDam := ⟨am_d_X9_isDam, am_c_X9_isDam⟩
set_option maxRecDepth 100000 in
theorem am_d_X9_isRun : ∀ e ∈ am_cl_X9_isRun, decode cX9_isRun e.1 = .ok (e.2.1, e.2.2.1) := by decide +kernel
set_option maxRecDepth 100000 in
theorem am_c_X9_isRun : am_cl_X9_isRun.all (am_chk mX9_isRun) = true := by decide +kernel
theorem am_k_X9_isRun : am_okK mX9_isRun := ⟨am_d_X9_isRun, am_c_X9_isRun⟩
set_option maxRecDepth 100000 in
theorem am_d_X9_isSiren : ∀ e ∈ am_cl_X9_isSiren, decode cX9_isSiren e.1 = .ok (e.2.1, e.2.2.1) := by decide +kernel
set_option maxRecDepth 100000 in
theorem am_c_X9_isSiren : am_cl_X9_isSiren.all (am_chk mX9_isSiren) = true := by decide +kernel
theorem am_k_X9_isSiren : am_okK mX9_isSiren := ⟨am_d_X9_isSiren, am_c_X9_isSiren⟩
set_option maxRecDepth 100000 in
theorem am_d_X9_reasonAgainst : ∀ e ∈ am_cl_X9_reasonAgainst, decode cX9_reasonAgainst e.1 = .ok (e.2.1, e.2.2.1) := by decide +kernel
set_option maxRecDepth 100000 in
theorem am_c_X9_reasonAgainst : am_cl_X9_reasonAgainst.all (am_chk mX9_reasonAgainst) = true := by decide +kernel
theorem am_k_X9_reasonAgainst : am_okK mX9_reasonAgainst := ⟨am_d_X9_reasonAgainst, am_c_X9_reasonAgainst⟩
set_option maxRecDepth 100000 in
theorem am_d_X9_isGoodFor : ∀ e ∈ am_cl_X9_isGoodFor, decode cX9_isGoodFor e.1 = .ok (e.2.1, e.2.2.1) := by decide +kernel
set_option maxRecDepth 100000 in
theorem am_c_X9_isGoodFor : am_cl_X9_isGoodFor.all (am_chk mX9_isGoodFor) = true := by decide +kernel
theorem am_k_X9_isGoodFor : am_okK mX9_isGoodFor := ⟨am_d_X9_isGoodFor, am_c_X9_isGoodFor⟩
set_option maxRecDepth 100000 in
theorem am_d_X9_stampRuns : ∀ e ∈ am_cl_X9_stampRuns, decode cX9_stampRuns e.1 = .ok (e.2.1, e.2.2.1) := by decide +kernel
set_option maxRecDepth 100000 in
theorem am_c_X9_stampRuns : am_cl_X9_stampRuns.all (am_chk mX9_stampRuns) = true := by decide +kernel
theorem am_k_X9_stampRuns : am_okK mX9_stampRuns := ⟨am_d_X9_stampRuns, am_c_X9_stampRuns⟩
set_option maxRecDepth 100000 in
theorem am_d_X9_maySound_0 : ∀ e ∈ am_cl_X9_maySound_0, decode cX9_maySound e.1 = .ok (e.2.1, e.2.2.1) := by decide +kernel
set_option maxRecDepth 100000 in
theorem am_c_X9_maySound_0 : am_cl_X9_maySound_0.all (am_chk mX9_maySound) = true := by decide +kernel
set_option maxRecDepth 100000 in
theorem am_d_X9_maySound_1 : ∀ e ∈ am_cl_X9_maySound_1, decode cX9_maySound e.1 = .ok (e.2.1, e.2.2.1) := by decide +kernel
set_option maxRecDepth 100000 in
theorem am_c_X9_maySound_1 : am_cl_X9_maySound_1.all (am_chk mX9_maySound) = true := by decide +kernel
theorem am_d_X9_maySound : ∀ e ∈ am_cl_X9_maySound, decode cX9_maySound e.1 = .ok (e.2.1, e.2.2.1) := by
  unfold am_cl_X9_maySound
  exact List.forall_mem_append.mpr ⟨am_d_X9_maySound_0, am_d_X9_maySound_1⟩
theorem am_c_X9_maySound : am_cl_X9_maySound.all (am_chk mX9_maySound) = true := by
  unfold am_cl_X9_maySound
  simp only [List.all_append, Bool.and_eq_true]
  exact ⟨am_c_X9_maySound_0, am_c_X9_maySound_1⟩
theorem am_k_X9_maySound : am_okK mX9_maySound := ⟨am_d_X9_maySound, am_c_X9_maySound⟩
set_option maxRecDepth 100000 in
theorem am_d_X9_passHourAt_0 : ∀ e ∈ am_cl_X9_passHourAt_0, decode cX9_passHourAt e.1 = .ok (e.2.1, e.2.2.1) := by decide +kernel
set_option maxRecDepth 100000 in
theorem am_c_X9_passHourAt_0 : am_cl_X9_passHourAt_0.all (am_chk mX9_passHourAt) = true := by decide +kernel
set_option maxRecDepth 100000 in
theorem am_d_X9_passHourAt_1 : ∀ e ∈ am_cl_X9_passHourAt_1, decode cX9_passHourAt e.1 = .ok (e.2.1, e.2.2.1) := by decide +kernel
set_option maxRecDepth 100000 in
theorem am_c_X9_passHourAt_1 : am_cl_X9_passHourAt_1.all (am_chk mX9_passHourAt) = true := by decide +kernel
theorem am_d_X9_passHourAt : ∀ e ∈ am_cl_X9_passHourAt, decode cX9_passHourAt e.1 = .ok (e.2.1, e.2.2.1) := by
  unfold am_cl_X9_passHourAt
  exact List.forall_mem_append.mpr ⟨am_d_X9_passHourAt_0, am_d_X9_passHourAt_1⟩
theorem am_c_X9_passHourAt : am_cl_X9_passHourAt.all (am_chk mX9_passHourAt) = true := by
  unfold am_cl_X9_passHourAt
  simp only [List.all_append, Bool.and_eq_true]
  exact ⟨am_c_X9_passHourAt_0, am_c_X9_passHourAt_1⟩
theorem am_k_X9_passHourAt : am_okK mX9_passHourAt := ⟨am_d_X9_passHourAt, am_c_X9_passHourAt⟩
set_option maxRecDepth 100000 in
theorem am_d_X9_judge_0 : ∀ e ∈ am_cl_X9_judge_0, decode cX9_judge e.1 = .ok (e.2.1, e.2.2.1) := by decide +kernel
set_option maxRecDepth 100000 in
theorem am_c_X9_judge_0 : am_cl_X9_judge_0.all (am_chk mX9_judge) = true := by decide +kernel
set_option maxRecDepth 100000 in
theorem am_d_X9_judge_1 : ∀ e ∈ am_cl_X9_judge_1, decode cX9_judge e.1 = .ok (e.2.1, e.2.2.1) := by decide +kernel
set_option maxRecDepth 100000 in
theorem am_c_X9_judge_1 : am_cl_X9_judge_1.all (am_chk mX9_judge) = true := by decide +kernel
theorem am_d_X9_judge : ∀ e ∈ am_cl_X9_judge, decode cX9_judge e.1 = .ok (e.2.1, e.2.2.1) := by
  unfold am_cl_X9_judge
  exact List.forall_mem_append.mpr ⟨am_d_X9_judge_0, am_d_X9_judge_1⟩
theorem am_c_X9_judge : am_cl_X9_judge.all (am_chk mX9_judge) = true := by
  unfold am_cl_X9_judge
  simp only [List.all_append, Bool.and_eq_true]
  exact ⟨am_c_X9_judge_0, am_c_X9_judge_1⟩
theorem am_k_X9_judge : am_okK mX9_judge := ⟨am_d_X9_judge, am_c_X9_judge⟩
set_option maxRecDepth 100000 in
theorem am_d_X9_bitsOf_0 : ∀ e ∈ am_cl_X9_bitsOf_0, decode cX9_bitsOf e.1 = .ok (e.2.1, e.2.2.1) := by decide +kernel
set_option maxRecDepth 100000 in
theorem am_c_X9_bitsOf_0 : am_cl_X9_bitsOf_0.all (am_chk mX9_bitsOf) = true := by decide +kernel
set_option maxRecDepth 100000 in
theorem am_d_X9_bitsOf_1 : ∀ e ∈ am_cl_X9_bitsOf_1, decode cX9_bitsOf e.1 = .ok (e.2.1, e.2.2.1) := by decide +kernel
set_option maxRecDepth 100000 in
theorem am_c_X9_bitsOf_1 : am_cl_X9_bitsOf_1.all (am_chk mX9_bitsOf) = true := by decide +kernel
theorem am_d_X9_bitsOf : ∀ e ∈ am_cl_X9_bitsOf, decode cX9_bitsOf e.1 = .ok (e.2.1, e.2.2.1) := by
  unfold am_cl_X9_bitsOf
  exact List.forall_mem_append.mpr ⟨am_d_X9_bitsOf_0, am_d_X9_bitsOf_1⟩
theorem am_c_X9_bitsOf : am_cl_X9_bitsOf.all (am_chk mX9_bitsOf) = true := by
  unfold am_cl_X9_bitsOf
  simp only [List.all_append, Bool.and_eq_true]
  exact ⟨am_c_X9_bitsOf_0, am_c_X9_bitsOf_1⟩
theorem am_k_X9_bitsOf : am_okK mX9_bitsOf := ⟨am_d_X9_bitsOf, am_c_X9_bitsOf⟩
set_option maxRecDepth 100000 in
theorem am_d_J6_bitCount_0f7a4 : ∀ e ∈ am_cl_J6_bitCount_0f7a4, decode cJ6_bitCount_0f7a4 e.1 = .ok (e.2.1, e.2.2.1) := by decide +kernel
set_option maxRecDepth 100000 in
theorem am_c_J6_bitCount_0f7a4 : am_cl_J6_bitCount_0f7a4.all (am_chk mJ6_bitCount_0f7a4) = true := by decide +kernel
theorem am_k_J6_bitCount_0f7a4 : am_okK mJ6_bitCount_0f7a4 := ⟨am_d_J6_bitCount_0f7a4, am_c_J6_bitCount_0f7a4⟩
set_option maxRecDepth 100000 in
theorem am_d_J9_max_7cf53 : ∀ e ∈ am_cl_J9_max_7cf53, decode cJ9_max_7cf53 e.1 = .ok (e.2.1, e.2.2.1) := by decide +kernel
set_option maxRecDepth 100000 in
theorem am_c_J9_max_7cf53 : am_cl_J9_max_7cf53.all (am_chk mJ9_max_7cf53) = true := by decide +kernel
theorem am_k_J9_max_7cf53 : am_okK mJ9_max_7cf53 := ⟨am_d_J9_max_7cf53, am_c_J9_max_7cf53⟩
set_option maxRecDepth 100000 in
theorem am_d_J9_min_7cf53 : ∀ e ∈ am_cl_J9_min_7cf53, decode cJ9_min_7cf53 e.1 = .ok (e.2.1, e.2.2.1) := by decide +kernel
set_option maxRecDepth 100000 in
theorem am_c_J9_min_7cf53 : am_cl_J9_min_7cf53.all (am_chk mJ9_min_7cf53) = true := by decide +kernel
theorem am_k_J9_min_7cf53 : am_okK mJ9_min_7cf53 := ⟨am_d_J9_min_7cf53, am_c_J9_min_7cf53⟩
set_option maxRecDepth 100000 in
theorem am_d_J0_length_8abf5 : ∀ e ∈ am_cl_J0_length_8abf5, decode cJ0_length_8abf5 e.1 = .ok (e.2.1, e.2.2.1) := by decide +kernel
set_option maxRecDepth 100000 in
theorem am_c_J0_length_8abf5 : am_cl_J0_length_8abf5.all (am_chk mJ0_length_8abf5) = true := by decide +kernel
theorem am_k_J0_length_8abf5 : am_okK mJ0_length_8abf5 := ⟨am_d_J0_length_8abf5, am_c_J0_length_8abf5⟩
set_option maxRecDepth 100000 in
theorem am_d_J0_indexOf_0f7a4 : ∀ e ∈ am_cl_J0_indexOf_0f7a4, decode cJ0_indexOf_0f7a4 e.1 = .ok (e.2.1, e.2.2.1) := by decide +kernel
set_option maxRecDepth 100000 in
theorem am_c_J0_indexOf_0f7a4 : am_cl_J0_indexOf_0f7a4.all (am_chk mJ0_indexOf_0f7a4) = true := by decide +kernel
theorem am_k_J0_indexOf_0f7a4 : am_okK mJ0_indexOf_0f7a4 := ⟨am_d_J0_indexOf_0f7a4, am_c_J0_indexOf_0f7a4⟩
set_option maxRecDepth 100000 in
theorem am_d_J0_indexOf_7cf53 : ∀ e ∈ am_cl_J0_indexOf_7cf53, decode cJ0_indexOf_7cf53 e.1 = .ok (e.2.1, e.2.2.1) := by decide +kernel
set_option maxRecDepth 100000 in
theorem am_c_J0_indexOf_7cf53 : am_cl_J0_indexOf_7cf53.all (am_chk mJ0_indexOf_7cf53) = true := by decide +kernel
theorem am_k_J0_indexOf_7cf53 : am_okK mJ0_indexOf_7cf53 := ⟨am_d_J0_indexOf_7cf53, am_c_J0_indexOf_7cf53⟩
set_option maxRecDepth 100000 in
theorem am_d_J0_coder_7d493 : ∀ e ∈ am_cl_J0_coder_7d493, decode cJ0_coder_7d493 e.1 = .ok (e.2.1, e.2.2.1) := by decide +kernel
set_option maxRecDepth 100000 in
theorem am_c_J0_coder_7d493 : am_cl_J0_coder_7d493.all (am_chk mJ0_coder_7d493) = true := by decide +kernel
theorem am_k_J0_coder_7d493 : am_okK mJ0_coder_7d493 := ⟨am_d_J0_coder_7d493, am_c_J0_coder_7d493⟩
set_option maxRecDepth 100000 in
theorem am_d_J0_isLatin1_aae02 : ∀ e ∈ am_cl_J0_isLatin1_aae02, decode cJ0_isLatin1_aae02 e.1 = .ok (e.2.1, e.2.2.1) := by decide +kernel
set_option maxRecDepth 100000 in
theorem am_c_J0_isLatin1_aae02 : am_cl_J0_isLatin1_aae02.all (am_chk mJ0_isLatin1_aae02) = true := by decide +kernel
theorem am_k_J0_isLatin1_aae02 : am_okK mJ0_isLatin1_aae02 := ⟨am_d_J0_isLatin1_aae02, am_c_J0_isLatin1_aae02⟩
set_option maxRecDepth 100000 in
theorem am_d_J1_canEncode_9a6ad : ∀ e ∈ am_cl_J1_canEncode_9a6ad, decode cJ1_canEncode_9a6ad e.1 = .ok (e.2.1, e.2.2.1) := by decide +kernel
set_option maxRecDepth 100000 in
theorem am_c_J1_canEncode_9a6ad : am_cl_J1_canEncode_9a6ad.all (am_chk mJ1_canEncode_9a6ad) = true := by decide +kernel
theorem am_k_J1_canEncode_9a6ad : am_okK mJ1_canEncode_9a6ad := ⟨am_d_J1_canEncode_9a6ad, am_c_J1_canEncode_9a6ad⟩
set_option maxRecDepth 100000 in
theorem am_d_J1_indexOf_4cfef : ∀ e ∈ am_cl_J1_indexOf_4cfef, decode cJ1_indexOf_4cfef e.1 = .ok (e.2.1, e.2.2.1) := by decide +kernel
set_option maxRecDepth 100000 in
theorem am_c_J1_indexOf_4cfef : am_cl_J1_indexOf_4cfef.all (am_chk mJ1_indexOf_4cfef) = true := by decide +kernel
theorem am_k_J1_indexOf_4cfef : am_okK mJ1_indexOf_4cfef := ⟨am_d_J1_indexOf_4cfef, am_c_J1_indexOf_4cfef⟩
set_option maxRecDepth 100000 in
theorem am_d_J1_indexOfChar_4cfef : ∀ e ∈ am_cl_J1_indexOfChar_4cfef, decode cJ1_indexOfChar_4cfef e.1 = .ok (e.2.1, e.2.2.1) := by decide +kernel
set_option maxRecDepth 100000 in
theorem am_c_J1_indexOfChar_4cfef : am_cl_J1_indexOfChar_4cfef.all (am_chk mJ1_indexOfChar_4cfef) = true := by decide +kernel
theorem am_k_J1_indexOfChar_4cfef : am_okK mJ1_indexOfChar_4cfef := ⟨am_d_J1_indexOfChar_4cfef, am_c_J1_indexOfChar_4cfef⟩
set_option maxRecDepth 100000 in
theorem am_d_L_draw : ∀ e ∈ am_cl_L_draw, decode cL_draw e.1 = .ok (e.2.1, e.2.2.1) := by decide +kernel
set_option maxRecDepth 100000 in
theorem am_c_L_draw : am_cl_L_draw.all (am_chk mL_draw) = true := by decide +kernel
theorem am_k_L_draw : am_okK mL_draw := ⟨am_d_L_draw, am_c_L_draw⟩
set_option maxRecDepth 100000 in
theorem am_d_L_step_0 : ∀ e ∈ am_cl_L_step_0, decode cL_step e.1 = .ok (e.2.1, e.2.2.1) := by decide +kernel
set_option maxRecDepth 100000 in
theorem am_c_L_step_0 : am_cl_L_step_0.all (am_chk mL_step) = true := by decide +kernel
set_option maxRecDepth 100000 in
theorem am_d_L_step_1 : ∀ e ∈ am_cl_L_step_1, decode cL_step e.1 = .ok (e.2.1, e.2.2.1) := by decide +kernel
set_option maxRecDepth 100000 in
theorem am_c_L_step_1 : am_cl_L_step_1.all (am_chk mL_step) = true := by decide +kernel
set_option maxRecDepth 100000 in
theorem am_d_L_step_2 : ∀ e ∈ am_cl_L_step_2, decode cL_step e.1 = .ok (e.2.1, e.2.2.1) := by decide +kernel
set_option maxRecDepth 100000 in
theorem am_c_L_step_2 : am_cl_L_step_2.all (am_chk mL_step) = true := by decide +kernel
set_option maxRecDepth 100000 in
theorem am_d_L_step_3 : ∀ e ∈ am_cl_L_step_3, decode cL_step e.1 = .ok (e.2.1, e.2.2.1) := by decide +kernel
set_option maxRecDepth 100000 in
theorem am_c_L_step_3 : am_cl_L_step_3.all (am_chk mL_step) = true := by decide +kernel
set_option maxRecDepth 100000 in
theorem am_d_L_step_4 : ∀ e ∈ am_cl_L_step_4, decode cL_step e.1 = .ok (e.2.1, e.2.2.1) := by decide +kernel
set_option maxRecDepth 100000 in
theorem am_c_L_step_4 : am_cl_L_step_4.all (am_chk mL_step) = true := by decide +kernel
set_option maxRecDepth 100000 in
theorem am_d_L_step_5 : ∀ e ∈ am_cl_L_step_5, decode cL_step e.1 = .ok (e.2.1, e.2.2.1) := by decide +kernel
set_option maxRecDepth 100000 in
theorem am_c_L_step_5 : am_cl_L_step_5.all (am_chk mL_step) = true := by decide +kernel
set_option maxRecDepth 100000 in
theorem am_d_L_step_6 : ∀ e ∈ am_cl_L_step_6, decode cL_step e.1 = .ok (e.2.1, e.2.2.1) := by decide +kernel
set_option maxRecDepth 100000 in
theorem am_c_L_step_6 : am_cl_L_step_6.all (am_chk mL_step) = true := by decide +kernel
theorem am_d_L_step : ∀ e ∈ am_cl_L_step, decode cL_step e.1 = .ok (e.2.1, e.2.2.1) := by
  unfold am_cl_L_step
  exact List.forall_mem_append.mpr ⟨am_d_L_step_0, List.forall_mem_append.mpr ⟨am_d_L_step_1, List.forall_mem_append.mpr ⟨am_d_L_step_2, List.forall_mem_append.mpr ⟨am_d_L_step_3, List.forall_mem_append.mpr ⟨am_d_L_step_4, List.forall_mem_append.mpr ⟨am_d_L_step_5, am_d_L_step_6⟩⟩⟩⟩⟩⟩
theorem am_c_L_step : am_cl_L_step.all (am_chk mL_step) = true := by
  unfold am_cl_L_step
  simp only [List.all_append, Bool.and_eq_true]
  exact ⟨am_c_L_step_0, ⟨am_c_L_step_1, ⟨am_c_L_step_2, ⟨am_c_L_step_3, ⟨am_c_L_step_4, ⟨am_c_L_step_5, am_c_L_step_6⟩⟩⟩⟩⟩⟩
theorem am_k_L_step : am_okK mL_step := ⟨am_d_L_step, am_c_L_step⟩
set_option maxRecDepth 100000 in
theorem am_d_L_key : ∀ e ∈ am_cl_L_key, decode cL_key e.1 = .ok (e.2.1, e.2.2.1) := by decide +kernel
set_option maxRecDepth 100000 in
theorem am_c_L_key : am_cl_L_key.all (am_chk mL_key) = true := by decide +kernel
theorem am_k_L_key : am_okK mL_key := ⟨am_d_L_key, am_c_L_key⟩
set_option maxRecDepth 100000 in
theorem am_d_L_bits : ∀ e ∈ am_cl_L_bits, decode cL_bits e.1 = .ok (e.2.1, e.2.2.1) := by decide +kernel
set_option maxRecDepth 100000 in
theorem am_c_L_bits : am_cl_L_bits.all (am_chk mL_bits) = true := by decide +kernel
theorem am_k_L_bits : am_okK mL_bits := ⟨am_d_L_bits, am_c_L_bits⟩
set_option maxRecDepth 100000 in
theorem am_d_L_inputs : ∀ e ∈ am_cl_L_inputs, decode cL_inputs e.1 = .ok (e.2.1, e.2.2.1) := by decide +kernel
set_option maxRecDepth 100000 in
theorem am_c_L_inputs : am_cl_L_inputs.all (am_chk mL_inputs) = true := by decide +kernel
theorem am_k_L_inputs : am_okK mL_inputs := ⟨am_d_L_inputs, am_c_L_inputs⟩
set_option maxRecDepth 100000 in
theorem am_d_L_types : ∀ e ∈ am_cl_L_types, decode cL_types e.1 = .ok (e.2.1, e.2.2.1) := by decide +kernel
set_option maxRecDepth 100000 in
theorem am_c_L_types : am_cl_L_types.all (am_chk mL_types) = true := by decide +kernel
theorem am_k_L_types : am_okK mL_types := ⟨am_d_L_types, am_c_L_types⟩
set_option maxRecDepth 100000 in
theorem am_d_L_texts_0 : ∀ e ∈ am_cl_L_texts_0, decode cL_texts e.1 = .ok (e.2.1, e.2.2.1) := by decide +kernel
set_option maxRecDepth 100000 in
theorem am_c_L_texts_0 : am_cl_L_texts_0.all (am_chk mL_texts) = true := by decide +kernel
set_option maxRecDepth 100000 in
theorem am_d_L_texts_1 : ∀ e ∈ am_cl_L_texts_1, decode cL_texts e.1 = .ok (e.2.1, e.2.2.1) := by decide +kernel
set_option maxRecDepth 100000 in
theorem am_c_L_texts_1 : am_cl_L_texts_1.all (am_chk mL_texts) = true := by decide +kernel
set_option maxRecDepth 100000 in
theorem am_d_L_texts_2 : ∀ e ∈ am_cl_L_texts_2, decode cL_texts e.1 = .ok (e.2.1, e.2.2.1) := by decide +kernel
set_option maxRecDepth 100000 in
theorem am_c_L_texts_2 : am_cl_L_texts_2.all (am_chk mL_texts) = true := by decide +kernel
set_option maxRecDepth 100000 in
theorem am_d_L_texts_3 : ∀ e ∈ am_cl_L_texts_3, decode cL_texts e.1 = .ok (e.2.1, e.2.2.1) := by decide +kernel
set_option maxRecDepth 100000 in
theorem am_c_L_texts_3 : am_cl_L_texts_3.all (am_chk mL_texts) = true := by decide +kernel
set_option maxRecDepth 100000 in
theorem am_d_L_texts_4 : ∀ e ∈ am_cl_L_texts_4, decode cL_texts e.1 = .ok (e.2.1, e.2.2.1) := by decide +kernel
set_option maxRecDepth 100000 in
theorem am_c_L_texts_4 : am_cl_L_texts_4.all (am_chk mL_texts) = true := by decide +kernel
set_option maxRecDepth 100000 in
theorem am_d_L_texts_5 : ∀ e ∈ am_cl_L_texts_5, decode cL_texts e.1 = .ok (e.2.1, e.2.2.1) := by decide +kernel
set_option maxRecDepth 100000 in
theorem am_c_L_texts_5 : am_cl_L_texts_5.all (am_chk mL_texts) = true := by decide +kernel
theorem am_d_L_texts : ∀ e ∈ am_cl_L_texts, decode cL_texts e.1 = .ok (e.2.1, e.2.2.1) := by
  unfold am_cl_L_texts
  exact List.forall_mem_append.mpr ⟨am_d_L_texts_0, List.forall_mem_append.mpr ⟨am_d_L_texts_1, List.forall_mem_append.mpr ⟨am_d_L_texts_2, List.forall_mem_append.mpr ⟨am_d_L_texts_3, List.forall_mem_append.mpr ⟨am_d_L_texts_4, am_d_L_texts_5⟩⟩⟩⟩⟩
theorem am_c_L_texts : am_cl_L_texts.all (am_chk mL_texts) = true := by
  unfold am_cl_L_texts
  simp only [List.all_append, Bool.and_eq_true]
  exact ⟨am_c_L_texts_0, ⟨am_c_L_texts_1, ⟨am_c_L_texts_2, ⟨am_c_L_texts_3, ⟨am_c_L_texts_4, am_c_L_texts_5⟩⟩⟩⟩⟩
theorem am_k_L_texts : am_okK mL_texts := ⟨am_d_L_texts, am_c_L_texts⟩
set_option maxRecDepth 100000 in
theorem am_d_L_factor_0 : ∀ e ∈ am_cl_L_factor_0, decode cL_factor e.1 = .ok (e.2.1, e.2.2.1) := by decide +kernel
set_option maxRecDepth 100000 in
theorem am_c_L_factor_0 : am_cl_L_factor_0.all (am_chk mL_factor) = true := by decide +kernel
set_option maxRecDepth 100000 in
theorem am_d_L_factor_1 : ∀ e ∈ am_cl_L_factor_1, decode cL_factor e.1 = .ok (e.2.1, e.2.2.1) := by decide +kernel
set_option maxRecDepth 100000 in
theorem am_c_L_factor_1 : am_cl_L_factor_1.all (am_chk mL_factor) = true := by decide +kernel
set_option maxRecDepth 100000 in
theorem am_d_L_factor_2 : ∀ e ∈ am_cl_L_factor_2, decode cL_factor e.1 = .ok (e.2.1, e.2.2.1) := by decide +kernel
set_option maxRecDepth 100000 in
theorem am_c_L_factor_2 : am_cl_L_factor_2.all (am_chk mL_factor) = true := by decide +kernel
set_option maxRecDepth 100000 in
theorem am_d_L_factor_3 : ∀ e ∈ am_cl_L_factor_3, decode cL_factor e.1 = .ok (e.2.1, e.2.2.1) := by decide +kernel
set_option maxRecDepth 100000 in
theorem am_c_L_factor_3 : am_cl_L_factor_3.all (am_chk mL_factor) = true := by decide +kernel
theorem am_d_L_factor : ∀ e ∈ am_cl_L_factor, decode cL_factor e.1 = .ok (e.2.1, e.2.2.1) := by
  unfold am_cl_L_factor
  exact List.forall_mem_append.mpr ⟨am_d_L_factor_0, List.forall_mem_append.mpr ⟨am_d_L_factor_1, List.forall_mem_append.mpr ⟨am_d_L_factor_2, am_d_L_factor_3⟩⟩⟩
theorem am_c_L_factor : am_cl_L_factor.all (am_chk mL_factor) = true := by
  unfold am_cl_L_factor
  simp only [List.all_append, Bool.and_eq_true]
  exact ⟨am_c_L_factor_0, ⟨am_c_L_factor_1, ⟨am_c_L_factor_2, am_c_L_factor_3⟩⟩⟩
theorem am_k_L_factor : am_okK mL_factor := ⟨am_d_L_factor, am_c_L_factor⟩
set_option maxRecDepth 100000 in
theorem am_d_L_publishes_0 : ∀ e ∈ am_cl_L_publishes_0, decode cL_publishes e.1 = .ok (e.2.1, e.2.2.1) := by decide +kernel
set_option maxRecDepth 100000 in
theorem am_c_L_publishes_0 : am_cl_L_publishes_0.all (am_chk mL_publishes) = true := by decide +kernel
set_option maxRecDepth 100000 in
theorem am_d_L_publishes_1 : ∀ e ∈ am_cl_L_publishes_1, decode cL_publishes e.1 = .ok (e.2.1, e.2.2.1) := by decide +kernel
set_option maxRecDepth 100000 in
theorem am_c_L_publishes_1 : am_cl_L_publishes_1.all (am_chk mL_publishes) = true := by decide +kernel
theorem am_d_L_publishes : ∀ e ∈ am_cl_L_publishes, decode cL_publishes e.1 = .ok (e.2.1, e.2.2.1) := by
  unfold am_cl_L_publishes
  exact List.forall_mem_append.mpr ⟨am_d_L_publishes_0, am_d_L_publishes_1⟩
theorem am_c_L_publishes : am_cl_L_publishes.all (am_chk mL_publishes) = true := by
  unfold am_cl_L_publishes
  simp only [List.all_append, Bool.and_eq_true]
  exact ⟨am_c_L_publishes_0, am_c_L_publishes_1⟩
theorem am_k_L_publishes : am_okK mL_publishes := ⟨am_d_L_publishes, am_c_L_publishes⟩
set_option maxRecDepth 100000 in
theorem am_d_L_letters_0 : ∀ e ∈ am_cl_L_letters_0, decode cL_letters e.1 = .ok (e.2.1, e.2.2.1) := by decide +kernel
set_option maxRecDepth 100000 in
theorem am_c_L_letters_0 : am_cl_L_letters_0.all (am_chk mL_letters) = true := by decide +kernel
set_option maxRecDepth 100000 in
theorem am_d_L_letters_1 : ∀ e ∈ am_cl_L_letters_1, decode cL_letters e.1 = .ok (e.2.1, e.2.2.1) := by decide +kernel
set_option maxRecDepth 100000 in
theorem am_c_L_letters_1 : am_cl_L_letters_1.all (am_chk mL_letters) = true := by decide +kernel
set_option maxRecDepth 100000 in
theorem am_d_L_letters_2 : ∀ e ∈ am_cl_L_letters_2, decode cL_letters e.1 = .ok (e.2.1, e.2.2.1) := by decide +kernel
set_option maxRecDepth 100000 in
theorem am_c_L_letters_2 : am_cl_L_letters_2.all (am_chk mL_letters) = true := by decide +kernel
theorem am_d_L_letters : ∀ e ∈ am_cl_L_letters, decode cL_letters e.1 = .ok (e.2.1, e.2.2.1) := by
  unfold am_cl_L_letters
  exact List.forall_mem_append.mpr ⟨am_d_L_letters_0, List.forall_mem_append.mpr ⟨am_d_L_letters_1, am_d_L_letters_2⟩⟩
theorem am_c_L_letters : am_cl_L_letters.all (am_chk mL_letters) = true := by
  unfold am_cl_L_letters
  simp only [List.all_append, Bool.and_eq_true]
  exact ⟨am_c_L_letters_0, ⟨am_c_L_letters_1, am_c_L_letters_2⟩⟩
theorem am_k_L_letters : am_okK mL_letters := ⟨am_d_L_letters, am_c_L_letters⟩
set_option maxRecDepth 100000 in
theorem am_d_L_follows : ∀ e ∈ am_cl_L_follows, decode cL_follows e.1 = .ok (e.2.1, e.2.2.1) := by decide +kernel
set_option maxRecDepth 100000 in
theorem am_c_L_follows : am_cl_L_follows.all (am_chk mL_follows) = true := by decide +kernel
theorem am_k_L_follows : am_okK mL_follows := ⟨am_d_L_follows, am_c_L_follows⟩
set_option maxRecDepth 100000 in
theorem am_d_L_ofRetire : ∀ e ∈ am_cl_L_ofRetire, decode cL_ofRetire e.1 = .ok (e.2.1, e.2.2.1) := by decide +kernel
set_option maxRecDepth 100000 in
theorem am_c_L_ofRetire : am_cl_L_ofRetire.all (am_chk mL_ofRetire) = true := by decide +kernel
theorem am_k_L_ofRetire : am_okK mL_ofRetire := ⟨am_d_L_ofRetire, am_c_L_ofRetire⟩
set_option maxRecDepth 100000 in
theorem am_d_L_isNamed : ∀ e ∈ am_cl_L_isNamed, decode cL_isNamed e.1 = .ok (e.2.1, e.2.2.1) := by decide +kernel
set_option maxRecDepth 100000 in
theorem am_c_L_isNamed : am_cl_L_isNamed.all (am_chk mL_isNamed) = true := by decide +kernel
theorem am_k_L_isNamed : am_okK mL_isNamed := ⟨am_d_L_isNamed, am_c_L_isNamed⟩
set_option maxRecDepth 100000 in
theorem am_d_L_rules_0 : ∀ e ∈ am_cl_L_rules_0, decode cL_rules e.1 = .ok (e.2.1, e.2.2.1) := by decide +kernel
set_option maxRecDepth 100000 in
theorem am_c_L_rules_0 : am_cl_L_rules_0.all (am_chk mL_rules) = true := by decide +kernel
set_option maxRecDepth 100000 in
theorem am_d_L_rules_1 : ∀ e ∈ am_cl_L_rules_1, decode cL_rules e.1 = .ok (e.2.1, e.2.2.1) := by decide +kernel
set_option maxRecDepth 100000 in
theorem am_c_L_rules_1 : am_cl_L_rules_1.all (am_chk mL_rules) = true := by decide +kernel
set_option maxRecDepth 100000 in
theorem am_d_L_rules_2 : ∀ e ∈ am_cl_L_rules_2, decode cL_rules e.1 = .ok (e.2.1, e.2.2.1) := by decide +kernel
set_option maxRecDepth 100000 in
theorem am_c_L_rules_2 : am_cl_L_rules_2.all (am_chk mL_rules) = true := by decide +kernel
theorem am_d_L_rules : ∀ e ∈ am_cl_L_rules, decode cL_rules e.1 = .ok (e.2.1, e.2.2.1) := by
  unfold am_cl_L_rules
  exact List.forall_mem_append.mpr ⟨am_d_L_rules_0, List.forall_mem_append.mpr ⟨am_d_L_rules_1, am_d_L_rules_2⟩⟩
theorem am_c_L_rules : am_cl_L_rules.all (am_chk mL_rules) = true := by
  unfold am_cl_L_rules
  simp only [List.all_append, Bool.and_eq_true]
  exact ⟨am_c_L_rules_0, ⟨am_c_L_rules_1, am_c_L_rules_2⟩⟩
theorem am_k_L_rules : am_okK mL_rules := ⟨am_d_L_rules, am_c_L_rules⟩
set_option maxRecDepth 100000 in
theorem am_d_L_runs_0 : ∀ e ∈ am_cl_L_runs_0, decode cL_runs e.1 = .ok (e.2.1, e.2.2.1) := by decide +kernel
set_option maxRecDepth 100000 in
theorem am_c_L_runs_0 : am_cl_L_runs_0.all (am_chk mL_runs) = true := by decide +kernel
set_option maxRecDepth 100000 in
theorem am_d_L_runs_1 : ∀ e ∈ am_cl_L_runs_1, decode cL_runs e.1 = .ok (e.2.1, e.2.2.1) := by decide +kernel
set_option maxRecDepth 100000 in
theorem am_c_L_runs_1 : am_cl_L_runs_1.all (am_chk mL_runs) = true := by decide +kernel
set_option maxRecDepth 100000 in
theorem am_d_L_runs_2 : ∀ e ∈ am_cl_L_runs_2, decode cL_runs e.1 = .ok (e.2.1, e.2.2.1) := by decide +kernel
set_option maxRecDepth 100000 in
theorem am_c_L_runs_2 : am_cl_L_runs_2.all (am_chk mL_runs) = true := by decide +kernel
theorem am_d_L_runs : ∀ e ∈ am_cl_L_runs, decode cL_runs e.1 = .ok (e.2.1, e.2.2.1) := by
  unfold am_cl_L_runs
  exact List.forall_mem_append.mpr ⟨am_d_L_runs_0, List.forall_mem_append.mpr ⟨am_d_L_runs_1, am_d_L_runs_2⟩⟩
theorem am_c_L_runs : am_cl_L_runs.all (am_chk mL_runs) = true := by
  unfold am_cl_L_runs
  simp only [List.all_append, Bool.and_eq_true]
  exact ⟨am_c_L_runs_0, ⟨am_c_L_runs_1, am_c_L_runs_2⟩⟩
theorem am_k_L_runs : am_okK mL_runs := ⟨am_d_L_runs, am_c_L_runs⟩
set_option maxRecDepth 100000 in
theorem am_d_L_isPeak_0 : ∀ e ∈ am_cl_L_isPeak_0, decode cL_isPeak e.1 = .ok (e.2.1, e.2.2.1) := by decide +kernel
set_option maxRecDepth 100000 in
theorem am_c_L_isPeak_0 : am_cl_L_isPeak_0.all (am_chk mL_isPeak) = true := by decide +kernel
set_option maxRecDepth 100000 in
theorem am_d_L_isPeak_1 : ∀ e ∈ am_cl_L_isPeak_1, decode cL_isPeak e.1 = .ok (e.2.1, e.2.2.1) := by decide +kernel
set_option maxRecDepth 100000 in
theorem am_c_L_isPeak_1 : am_cl_L_isPeak_1.all (am_chk mL_isPeak) = true := by decide +kernel
theorem am_d_L_isPeak : ∀ e ∈ am_cl_L_isPeak, decode cL_isPeak e.1 = .ok (e.2.1, e.2.2.1) := by
  unfold am_cl_L_isPeak
  exact List.forall_mem_append.mpr ⟨am_d_L_isPeak_0, am_d_L_isPeak_1⟩
theorem am_c_L_isPeak : am_cl_L_isPeak.all (am_chk mL_isPeak) = true := by
  unfold am_cl_L_isPeak
  simp only [List.all_append, Bool.and_eq_true]
  exact ⟨am_c_L_isPeak_0, am_c_L_isPeak_1⟩
theorem am_k_L_isPeak : am_okK mL_isPeak := ⟨am_d_L_isPeak, am_c_L_isPeak⟩
set_option maxRecDepth 100000 in
theorem am_d_L_goes : ∀ e ∈ am_cl_L_goes, decode cL_goes e.1 = .ok (e.2.1, e.2.2.1) := by decide +kernel
set_option maxRecDepth 100000 in
theorem am_c_L_goes : am_cl_L_goes.all (am_chk mL_goes) = true := by decide +kernel
theorem am_k_L_goes : am_okK mL_goes := ⟨am_d_L_goes, am_c_L_goes⟩
set_option maxRecDepth 100000 in
theorem am_d_L_ofGo : ∀ e ∈ am_cl_L_ofGo, decode cL_ofGo e.1 = .ok (e.2.1, e.2.2.1) := by decide +kernel
set_option maxRecDepth 100000 in
theorem am_c_L_ofGo : am_cl_L_ofGo.all (am_chk mL_ofGo) = true := by decide +kernel
theorem am_k_L_ofGo : am_okK mL_ofGo := ⟨am_d_L_ofGo, am_c_L_ofGo⟩
set_option maxRecDepth 100000 in
theorem am_d_L_ofSound : ∀ e ∈ am_cl_L_ofSound, decode cL_ofSound e.1 = .ok (e.2.1, e.2.2.1) := by decide +kernel
set_option maxRecDepth 100000 in
theorem am_c_L_ofSound : am_cl_L_ofSound.all (am_chk mL_ofSound) = true := by decide +kernel
theorem am_k_L_ofSound : am_okK mL_ofSound := ⟨am_d_L_ofSound, am_c_L_ofSound⟩
set_option maxRecDepth 100000 in
theorem am_d_L_sounds_0 : ∀ e ∈ am_cl_L_sounds_0, decode cL_sounds e.1 = .ok (e.2.1, e.2.2.1) := by decide +kernel
set_option maxRecDepth 100000 in
theorem am_c_L_sounds_0 : am_cl_L_sounds_0.all (am_chk mL_sounds) = true := by decide +kernel
set_option maxRecDepth 100000 in
theorem am_d_L_sounds_1 : ∀ e ∈ am_cl_L_sounds_1, decode cL_sounds e.1 = .ok (e.2.1, e.2.2.1) := by decide +kernel
set_option maxRecDepth 100000 in
theorem am_c_L_sounds_1 : am_cl_L_sounds_1.all (am_chk mL_sounds) = true := by decide +kernel
set_option maxRecDepth 100000 in
theorem am_d_L_sounds_2 : ∀ e ∈ am_cl_L_sounds_2, decode cL_sounds e.1 = .ok (e.2.1, e.2.2.1) := by decide +kernel
set_option maxRecDepth 100000 in
theorem am_c_L_sounds_2 : am_cl_L_sounds_2.all (am_chk mL_sounds) = true := by decide +kernel
theorem am_d_L_sounds : ∀ e ∈ am_cl_L_sounds, decode cL_sounds e.1 = .ok (e.2.1, e.2.2.1) := by
  unfold am_cl_L_sounds
  exact List.forall_mem_append.mpr ⟨am_d_L_sounds_0, List.forall_mem_append.mpr ⟨am_d_L_sounds_1, am_d_L_sounds_2⟩⟩
theorem am_c_L_sounds : am_cl_L_sounds.all (am_chk mL_sounds) = true := by
  unfold am_cl_L_sounds
  simp only [List.all_append, Bool.and_eq_true]
  exact ⟨am_c_L_sounds_0, ⟨am_c_L_sounds_1, am_c_L_sounds_2⟩⟩
theorem am_k_L_sounds : am_okK mL_sounds := ⟨am_d_L_sounds, am_c_L_sounds⟩
set_option maxRecDepth 100000 in
theorem am_d_L_passes_0 : ∀ e ∈ am_cl_L_passes_0, decode cL_passes e.1 = .ok (e.2.1, e.2.2.1) := by decide +kernel
set_option maxRecDepth 100000 in
theorem am_c_L_passes_0 : am_cl_L_passes_0.all (am_chk mL_passes) = true := by decide +kernel
set_option maxRecDepth 100000 in
theorem am_d_L_passes_1 : ∀ e ∈ am_cl_L_passes_1, decode cL_passes e.1 = .ok (e.2.1, e.2.2.1) := by decide +kernel
set_option maxRecDepth 100000 in
theorem am_c_L_passes_1 : am_cl_L_passes_1.all (am_chk mL_passes) = true := by decide +kernel
theorem am_d_L_passes : ∀ e ∈ am_cl_L_passes, decode cL_passes e.1 = .ok (e.2.1, e.2.2.1) := by
  unfold am_cl_L_passes
  exact List.forall_mem_append.mpr ⟨am_d_L_passes_0, am_d_L_passes_1⟩
theorem am_c_L_passes : am_cl_L_passes.all (am_chk mL_passes) = true := by
  unfold am_cl_L_passes
  simp only [List.all_append, Bool.and_eq_true]
  exact ⟨am_c_L_passes_0, am_c_L_passes_1⟩
theorem am_k_L_passes : am_okK mL_passes := ⟨am_d_L_passes, am_c_L_passes⟩
set_option maxRecDepth 100000 in
theorem am_d_L_isAll_0 : ∀ e ∈ am_cl_L_isAll_0, decode cL_isAll e.1 = .ok (e.2.1, e.2.2.1) := by decide +kernel
set_option maxRecDepth 100000 in
theorem am_c_L_isAll_0 : am_cl_L_isAll_0.all (am_chk mL_isAll) = true := by decide +kernel
set_option maxRecDepth 100000 in
theorem am_d_L_isAll_1 : ∀ e ∈ am_cl_L_isAll_1, decode cL_isAll e.1 = .ok (e.2.1, e.2.2.1) := by decide +kernel
set_option maxRecDepth 100000 in
theorem am_c_L_isAll_1 : am_cl_L_isAll_1.all (am_chk mL_isAll) = true := by decide +kernel
set_option maxRecDepth 100000 in
theorem am_d_L_isAll_2 : ∀ e ∈ am_cl_L_isAll_2, decode cL_isAll e.1 = .ok (e.2.1, e.2.2.1) := by decide +kernel
set_option maxRecDepth 100000 in
theorem am_c_L_isAll_2 : am_cl_L_isAll_2.all (am_chk mL_isAll) = true := by decide +kernel
set_option maxRecDepth 100000 in
theorem am_d_L_isAll_3 : ∀ e ∈ am_cl_L_isAll_3, decode cL_isAll e.1 = .ok (e.2.1, e.2.2.1) := by decide +kernel
set_option maxRecDepth 100000 in
theorem am_c_L_isAll_3 : am_cl_L_isAll_3.all (am_chk mL_isAll) = true := by decide +kernel
set_option maxRecDepth 100000 in
theorem am_d_L_isAll_4 : ∀ e ∈ am_cl_L_isAll_4, decode cL_isAll e.1 = .ok (e.2.1, e.2.2.1) := by decide +kernel
set_option maxRecDepth 100000 in
theorem am_c_L_isAll_4 : am_cl_L_isAll_4.all (am_chk mL_isAll) = true := by decide +kernel
theorem am_d_L_isAll : ∀ e ∈ am_cl_L_isAll, decode cL_isAll e.1 = .ok (e.2.1, e.2.2.1) := by
  unfold am_cl_L_isAll
  exact List.forall_mem_append.mpr ⟨am_d_L_isAll_0, List.forall_mem_append.mpr ⟨am_d_L_isAll_1, List.forall_mem_append.mpr ⟨am_d_L_isAll_2, List.forall_mem_append.mpr ⟨am_d_L_isAll_3, am_d_L_isAll_4⟩⟩⟩⟩
theorem am_c_L_isAll : am_cl_L_isAll.all (am_chk mL_isAll) = true := by
  unfold am_cl_L_isAll
  simp only [List.all_append, Bool.and_eq_true]
  exact ⟨am_c_L_isAll_0, ⟨am_c_L_isAll_1, ⟨am_c_L_isAll_2, ⟨am_c_L_isAll_3, am_c_L_isAll_4⟩⟩⟩⟩
theorem am_k_L_isAll : am_okK mL_isAll := ⟨am_d_L_isAll, am_c_L_isAll⟩
set_option maxRecDepth 100000 in
theorem am_d_L_law_0 : ∀ e ∈ am_cl_L_law_0, decode cL_law e.1 = .ok (e.2.1, e.2.2.1) := by decide +kernel
set_option maxRecDepth 100000 in
theorem am_c_L_law_0 : am_cl_L_law_0.all (am_chk mL_law) = true := by decide +kernel
set_option maxRecDepth 100000 in
theorem am_d_L_law_1 : ∀ e ∈ am_cl_L_law_1, decode cL_law e.1 = .ok (e.2.1, e.2.2.1) := by decide +kernel
set_option maxRecDepth 100000 in
theorem am_c_L_law_1 : am_cl_L_law_1.all (am_chk mL_law) = true := by decide +kernel
set_option maxRecDepth 100000 in
theorem am_d_L_law_2 : ∀ e ∈ am_cl_L_law_2, decode cL_law e.1 = .ok (e.2.1, e.2.2.1) := by decide +kernel
set_option maxRecDepth 100000 in
theorem am_c_L_law_2 : am_cl_L_law_2.all (am_chk mL_law) = true := by decide +kernel
theorem am_d_L_law : ∀ e ∈ am_cl_L_law, decode cL_law e.1 = .ok (e.2.1, e.2.2.1) := by
  unfold am_cl_L_law
  exact List.forall_mem_append.mpr ⟨am_d_L_law_0, List.forall_mem_append.mpr ⟨am_d_L_law_1, am_d_L_law_2⟩⟩
theorem am_c_L_law : am_cl_L_law.all (am_chk mL_law) = true := by
  unfold am_cl_L_law
  simp only [List.all_append, Bool.and_eq_true]
  exact ⟨am_c_L_law_0, ⟨am_c_L_law_1, am_c_L_law_2⟩⟩
theorem am_k_L_law : am_okK mL_law := ⟨am_d_L_law, am_c_L_law⟩
def am_allC_0 : List Nat := [0, 1, 2, 3, 4, 5, 6, 7, 8, 9, 10, 11, 12, 13, 14, 15]
theorem am_kks_0 : ∀ k ∈ am_allC_0, am_okK k := List.forall_mem_cons.mpr ⟨am_k_X0_init, List.forall_mem_cons.mpr ⟨am_k_X0_letThrough, List.forall_mem_cons.mpr ⟨am_k_X1_init, List.forall_mem_cons.mpr ⟨am_k_X1_mayHold, List.forall_mem_cons.mpr ⟨am_k_X1_isFull, List.forall_mem_cons.mpr ⟨am_k_X1_add, List.forall_mem_cons.mpr ⟨am_k_X1_clear, List.forall_mem_cons.mpr ⟨am_k_X2_init, List.forall_mem_cons.mpr ⟨am_k_X2_clear, List.forall_mem_cons.mpr ⟨am_k_X2_add, List.forall_mem_cons.mpr ⟨am_k_X2_addName, List.forall_mem_cons.mpr ⟨am_k_X2_copy, List.forall_mem_cons.mpr ⟨am_k_X3_init, List.forall_mem_cons.mpr ⟨am_k_X3_read, List.forall_mem_cons.mpr ⟨am_k_X3_takes, List.forall_mem_cons.mpr ⟨am_k_X3_startsNumber, fun _ h => absurd h List.not_mem_nil⟩⟩⟩⟩⟩⟩⟩⟩⟩⟩⟩⟩⟩⟩⟩⟩
def am_allC_1 : List Nat := [16, 17, 18, 19, 20, 21, 22, 23, 24, 25, 26, 27, 28, 29, 30, 31]
theorem am_kks_1 : ∀ k ∈ am_allC_1, am_okK k := List.forall_mem_cons.mpr ⟨am_k_X3_startsFactor, List.forall_mem_cons.mpr ⟨am_k_X3_startsFunction, List.forall_mem_cons.mpr ⟨am_k_X3_endsName, List.forall_mem_cons.mpr ⟨am_k_X3_startsName, List.forall_mem_cons.mpr ⟨am_k_X3_takesFigure, List.forall_mem_cons.mpr ⟨am_k_X3_endNumber, List.forall_mem_cons.mpr ⟨am_k_X3_goesOn, List.forall_mem_cons.mpr ⟨am_k_X3_operates, List.forall_mem_cons.mpr ⟨am_k_X3_takesComma, List.forall_mem_cons.mpr ⟨am_k_X3_takesBracket, List.forall_mem_cons.mpr ⟨am_k_X3_hold, List.forall_mem_cons.mpr ⟨am_k_X3_settle, List.forall_mem_cons.mpr ⟨am_k_X3_strengthOf, List.forall_mem_cons.mpr ⟨am_k_X4_init, List.forall_mem_cons.mpr ⟨am_k_X4_workOut, List.forall_mem_cons.mpr ⟨am_k_X4_operate, fun _ h => absurd h List.not_mem_nil⟩⟩⟩⟩⟩⟩⟩⟩⟩⟩⟩⟩⟩⟩⟩⟩
def am_allC_2 : List Nat := [32, 33, 34, 35, 36, 37, 38, 39, 40, 41, 42, 43, 44, 45, 46, 47]
theorem am_kks_2 : ∀ k ∈ am_allC_2, am_okK k := List.forall_mem_cons.mpr ⟨am_k_X4_join, List.forall_mem_cons.mpr ⟨am_k_X4_keep, List.forall_mem_cons.mpr ⟨am_k_X4_take, List.forall_mem_cons.mpr ⟨am_k_X5_init, List.forall_mem_cons.mpr ⟨am_k_X5_lookAhead, List.forall_mem_cons.mpr ⟨am_k_X6_init, List.forall_mem_cons.mpr ⟨am_k_X6_has, List.forall_mem_cons.mpr ⟨am_k_X6_latestOf, List.forall_mem_cons.mpr ⟨am_k_X6_isLatest, List.forall_mem_cons.mpr ⟨am_k_X6_modelOf, List.forall_mem_cons.mpr ⟨am_k_X6_pinOf, List.forall_mem_cons.mpr ⟨am_k_X6_names, List.forall_mem_cons.mpr ⟨am_k_X6_modelsUnder, List.forall_mem_cons.mpr ⟨am_k_X6_namedBy, List.forall_mem_cons.mpr ⟨am_k_X6_modelsOn, List.forall_mem_cons.mpr ⟨am_k_X6_mayTake, fun _ h => absurd h List.not_mem_nil⟩⟩⟩⟩⟩⟩⟩⟩⟩⟩⟩⟩⟩⟩⟩⟩
def am_allC_3 : List Nat := [48, 49, 50, 51, 52, 53, 54, 55, 56, 57, 58, 59, 60, 61, 62, 63]
theorem am_kks_3 : ∀ k ∈ am_allC_3, am_okK k := List.forall_mem_cons.mpr ⟨am_k_X6_take, List.forall_mem_cons.mpr ⟨am_k_X6_shelve, List.forall_mem_cons.mpr ⟨am_k_X6_nextToBind, List.forall_mem_cons.mpr ⟨am_k_X6_pinsOld, List.forall_mem_cons.mpr ⟨am_k_X6_giveUp, List.forall_mem_cons.mpr ⟨am_k_X6_tellRain, List.forall_mem_cons.mpr ⟨am_k_X6_forget, List.forall_mem_cons.mpr ⟨am_k_X6_outputOf, List.forall_mem_cons.mpr ⟨am_k_X6_fill, List.forall_mem_cons.mpr ⟨am_k_X7_init, List.forall_mem_cons.mpr ⟨am_k_X8_init, List.forall_mem_cons.mpr ⟨am_k_X9_init, List.forall_mem_cons.mpr ⟨am_k_X9_type, List.forall_mem_cons.mpr ⟨am_k_X9_wipe, List.forall_mem_cons.mpr ⟨am_k_X9_fault, List.forall_mem_cons.mpr ⟨am_k_X9_publish, fun _ h => absurd h List.not_mem_nil⟩⟩⟩⟩⟩⟩⟩⟩⟩⟩⟩⟩⟩⟩⟩⟩
def am_allC_4 : List Nat := [64, 65, 66, 67, 68, 69, 70, 71, 72, 73, 74, 75, 76, 77, 78, 79]
theorem am_kks_4 : ∀ k ∈ am_allC_4, am_okK k := List.forall_mem_cons.mpr ⟨am_k_X9_retire, List.forall_mem_cons.mpr ⟨am_k_X9_latest, List.forall_mem_cons.mpr ⟨am_k_X9_pin, List.forall_mem_cons.mpr ⟨am_k_X9_rain, List.forall_mem_cons.mpr ⟨am_k_X9_out, List.forall_mem_cons.mpr ⟨am_k_X9_outAnew, List.forall_mem_cons.mpr ⟨am_k_X9_run, List.forall_mem_cons.mpr ⟨am_k_X9_why, List.forall_mem_cons.mpr ⟨am_k_X9_peak, List.forall_mem_cons.mpr ⟨am_k_X9_peakHour, List.forall_mem_cons.mpr ⟨am_k_X9_peakAnew, List.forall_mem_cons.mpr ⟨am_k_X9_build, List.forall_mem_cons.mpr ⟨am_k_X9_rule, List.forall_mem_cons.mpr ⟨am_k_X9_goBy, List.forall_mem_cons.mpr ⟨am_k_X9_level, List.forall_mem_cons.mpr ⟨am_k_X9_below, fun _ h => absurd h List.not_mem_nil⟩⟩⟩⟩⟩⟩⟩⟩⟩⟩⟩⟩⟩⟩⟩⟩
def am_allC_5 : List Nat := [80, 81, 82, 83, 84, 85, 86, 87, 88, 89, 90, 91, 92, 93, 94, 95]
theorem am_kks_5 : ∀ k ∈ am_allC_5, am_okK k := List.forall_mem_cons.mpr ⟨am_k_X9_valley, List.forall_mem_cons.mpr ⟨am_k_X9_sound, List.forall_mem_cons.mpr ⟨am_k_X9_siren, List.forall_mem_cons.mpr ⟨am_k_X9_walkers, List.forall_mem_cons.mpr ⟨am_k_X9_trust, List.forall_mem_cons.mpr ⟨am_k_X9_saved, List.forall_mem_cons.mpr ⟨am_k_X9_alarm, List.forall_mem_cons.mpr ⟨am_k_X9_pass, List.forall_mem_cons.mpr ⟨am_k_X9_isModel, List.forall_mem_cons.mpr ⟨am_k_X9_isHour, List.forall_mem_cons.mpr ⟨am_k_X9_isDam, List.forall_mem_cons.mpr ⟨am_k_X9_isRun, List.forall_mem_cons.mpr ⟨am_k_X9_isSiren, List.forall_mem_cons.mpr ⟨am_k_X9_reasonAgainst, List.forall_mem_cons.mpr ⟨am_k_X9_isGoodFor, List.forall_mem_cons.mpr ⟨am_k_X9_stampRuns, fun _ h => absurd h List.not_mem_nil⟩⟩⟩⟩⟩⟩⟩⟩⟩⟩⟩⟩⟩⟩⟩⟩
def am_allC_6 : List Nat := [96, 97, 98, 99, 100, 101, 102, 103, 104, 105, 106, 107, 108, 109, 110, 111]
theorem am_kks_6 : ∀ k ∈ am_allC_6, am_okK k := List.forall_mem_cons.mpr ⟨am_k_X9_maySound, List.forall_mem_cons.mpr ⟨am_k_X9_passHourAt, List.forall_mem_cons.mpr ⟨am_k_X9_judge, List.forall_mem_cons.mpr ⟨am_k_X9_bitsOf, List.forall_mem_cons.mpr ⟨am_k_J6_bitCount_0f7a4, List.forall_mem_cons.mpr ⟨am_k_J9_max_7cf53, List.forall_mem_cons.mpr ⟨am_k_J9_min_7cf53, List.forall_mem_cons.mpr ⟨am_k_J0_length_8abf5, List.forall_mem_cons.mpr ⟨am_k_J0_indexOf_0f7a4, List.forall_mem_cons.mpr ⟨am_k_J0_indexOf_7cf53, List.forall_mem_cons.mpr ⟨am_k_J0_coder_7d493, List.forall_mem_cons.mpr ⟨am_k_J0_isLatin1_aae02, List.forall_mem_cons.mpr ⟨am_k_J1_canEncode_9a6ad, List.forall_mem_cons.mpr ⟨am_k_J1_indexOf_4cfef, List.forall_mem_cons.mpr ⟨am_k_J1_indexOfChar_4cfef, List.forall_mem_cons.mpr ⟨am_k_L_draw, fun _ h => absurd h List.not_mem_nil⟩⟩⟩⟩⟩⟩⟩⟩⟩⟩⟩⟩⟩⟩⟩⟩
def am_allC_7 : List Nat := [112, 113, 114, 115, 116, 117, 118, 119, 120, 121, 122, 123, 124, 125, 126, 127]
theorem am_kks_7 : ∀ k ∈ am_allC_7, am_okK k := List.forall_mem_cons.mpr ⟨am_k_L_step, List.forall_mem_cons.mpr ⟨am_k_L_key, List.forall_mem_cons.mpr ⟨am_k_L_bits, List.forall_mem_cons.mpr ⟨am_k_L_inputs, List.forall_mem_cons.mpr ⟨am_k_L_types, List.forall_mem_cons.mpr ⟨am_k_L_texts, List.forall_mem_cons.mpr ⟨am_k_L_factor, List.forall_mem_cons.mpr ⟨am_k_L_publishes, List.forall_mem_cons.mpr ⟨am_k_L_letters, List.forall_mem_cons.mpr ⟨am_k_L_follows, List.forall_mem_cons.mpr ⟨am_k_L_ofRetire, List.forall_mem_cons.mpr ⟨am_k_L_isNamed, List.forall_mem_cons.mpr ⟨am_k_L_rules, List.forall_mem_cons.mpr ⟨am_k_L_runs, List.forall_mem_cons.mpr ⟨am_k_L_isPeak, List.forall_mem_cons.mpr ⟨am_k_L_goes, fun _ h => absurd h List.not_mem_nil⟩⟩⟩⟩⟩⟩⟩⟩⟩⟩⟩⟩⟩⟩⟩⟩
def am_allC_8 : List Nat := [128, 129, 130, 131, 132, 133]
theorem am_kks_8 : ∀ k ∈ am_allC_8, am_okK k := List.forall_mem_cons.mpr ⟨am_k_L_ofGo, List.forall_mem_cons.mpr ⟨am_k_L_ofSound, List.forall_mem_cons.mpr ⟨am_k_L_sounds, List.forall_mem_cons.mpr ⟨am_k_L_passes, List.forall_mem_cons.mpr ⟨am_k_L_isAll, List.forall_mem_cons.mpr ⟨am_k_L_law, fun _ h => absurd h List.not_mem_nil⟩⟩⟩⟩⟩⟩
def am_inC (k : Nat) : Bool := decide (k ∈ am_allC_0) || decide (k ∈ am_allC_1) || decide (k ∈ am_allC_2) || decide (k ∈ am_allC_3) || decide (k ∈ am_allC_4) || decide (k ∈ am_allC_5) || decide (k ∈ am_allC_6) || decide (k ∈ am_allC_7) || decide (k ∈ am_allC_8)
theorem am_inC_ok : (List.range 134).all am_inC = true := by decide +kernel
theorem am_kks : ∀ k, k < 134 → am_okK k := by
  intro k hk
  have hm := List.all_eq_true.mp am_inC_ok k (List.mem_range.mpr hk)
  unfold am_inC at hm
  simp only [Bool.or_eq_true, decide_eq_true_eq, or_assoc] at hm
  rcases hm with h | h | h | h | h | h | h | h | h
  · exact am_kks_0 k h
  · exact am_kks_1 k h
  · exact am_kks_2 k h
  · exact am_kks_3 k h
  · exact am_kks_4 k h
  · exact am_kks_5 k h
  · exact am_kks_6 k h
  · exact am_kks_7 k h
  · exact am_kks_8 k h
