/-! own: the rules of WP, an instruction each -/
def am_rw (k pc : Nat) : Option (Instr × Nat × Nat × Nat) := match am_thx k pc with
  | some _ => none
  | none => am_code k pc
def am_popf : Nat → List Value → List Value → Option (List Value × List Value)
  | 0, st, as => some (as, st)
  | n + 1, v :: r, as => am_popf n r (v :: as)
  | _ + 1, [], _ => none
theorem am_popf_spec {f : List Value → List Value → Prop} : ∀ (n : Nat) (st as a r : List Value), am_popf n st as = some (a, r) → f a r → am_pop n st as f
  | 0, st, as, a, r, h, z => by cases h; exact z
  | n + 1, v :: st, as, a, r, h, z => am_popf_spec n st (v :: as) a r h z
  | _ + 1, [], _, _, _, h, _ => by cases h
section WPR
variable {k pc a b : Nat} {L : List (Option Value)} {st r : List Value} {h : AH} {c s : Nat} {Q : AQ}
theorem WP.go {i : Instr} {len : Nat} (hr : am_rw k pc = some (i, len, a, b)) (q : am_x WP k pc i a b L st h c s Q) : WP k pc L st h c s Q := by
  refine WP.step ?_
  unfold am_s
  unfold am_rw at hr
  cases ht : am_thx k pc with
  | some w => rw [ht] at hr; cases hr
  | none =>
    rw [ht] at hr
    dsimp only at hr ⊢
    rw [hr]
    exact q
theorem w_throw {q : Nat × Nat × Nat × Nat × Nat × String} (ht : am_thx k pc = some q) (h1 : c + 1 ≤ am_bc k) (h2 : s + 6 ≤ am_bs k) (h3 : am_cats st ≤ 8) (z : Q (.inr q.1) h) : WP k pc L st h c s Q := by
  refine WP.step ?_
  unfold am_s
  rw [ht]
  exact ⟨⟨h1, h2, h3⟩, z⟩
theorem w_iload_n {j : Fin 4} {x : Int32} (hr : am_rw k pc = some (.iload_n j, 1, a, b)) (e : am_nth L j = some (.int x)) (q : WP k (pc + 1) L (.int x :: st) h c s Q) : WP k pc L (st) h c s Q := WP.go hr (by show am_oint _ _; rw [e]; exact q)
theorem w_iload {j : Nat} {x : Int32} (hr : am_rw k pc = some (.iload j, 2, a, b)) (e : am_nth L j = some (.int x)) (q : WP k (pc + 2) L (.int x :: st) h c s Q) : WP k pc L (st) h c s Q := WP.go hr (by show am_oint _ _; rw [e]; exact q)
theorem w_aload_n {j : Fin 4} {x : Nat} (hr : am_rw k pc = some (.aload_n j, 1, a, b)) (e : am_nth L j = some (.ref x)) (q : WP k (pc + 1) L (.ref x :: st) h c s Q) : WP k pc L (st) h c s Q := WP.go hr (by show am_oref _ _; rw [e]; exact q)
theorem w_aload {j : Nat} {x : Nat} (hr : am_rw k pc = some (.aload j, 2, a, b)) (e : am_nth L j = some (.ref x)) (q : WP k (pc + 2) L (.ref x :: st) h c s Q) : WP k pc L (st) h c s Q := WP.go hr (by show am_oref _ _; rw [e]; exact q)
theorem w_fload_n {j : Fin 4} {x : UInt32} (hr : am_rw k pc = some (.fload_n j, 1, a, b)) (e : am_nth L j = some (.float x)) (q : WP k (pc + 1) L (.float x :: st) h c s Q) : WP k pc L (st) h c s Q := WP.go hr (by show am_oflt _ _; rw [e]; exact q)
theorem w_fload {j : Nat} {x : UInt32} (hr : am_rw k pc = some (.fload j, 2, a, b)) (e : am_nth L j = some (.float x)) (q : WP k (pc + 2) L (.float x :: st) h c s Q) : WP k pc L (st) h c s Q := WP.go hr (by show am_oflt _ _; rw [e]; exact q)
theorem w_lload_n {j : Fin 4} {x : Int64} (hr : am_rw k pc = some (.lload_n j, 1, a, b)) (e : am_nth L j = some (.long x)) (q : WP k (pc + 1) L (.long x :: st) h c s Q) : WP k pc L (st) h c s Q := WP.go hr (by show am_olong _ _; rw [e]; exact q)
theorem w_istore_n {j : Fin 4} {x : Int32} (hr : am_rw k pc = some (.istore_n j, 1, a, b)) (hj : Nat.blt j (am_ml k) = true) (hl : am_nl L j) (q : WP k (pc + 1) (am_set L j (some (.int x))) (r) h c s Q) : WP k pc L (.int x :: r) h c s Q := WP.go hr (⟨Nat.blt_eq.mp hj, hl, q⟩)
theorem w_istore {j : Nat} {x : Int32} (hr : am_rw k pc = some (.istore j, 2, a, b)) (hj : Nat.blt j (am_ml k) = true) (hl : am_nl L j) (q : WP k (pc + 2) (am_set L j (some (.int x))) (r) h c s Q) : WP k pc L (.int x :: r) h c s Q := WP.go hr (⟨Nat.blt_eq.mp hj, hl, q⟩)
theorem w_astore_n {j : Fin 4} {x : Nat} (hr : am_rw k pc = some (.astore_n j, 1, a, b)) (hj : Nat.blt j (am_ml k) = true) (hl : am_nl L j) (q : WP k (pc + 1) (am_set L j (some (.ref x))) (r) h c s Q) : WP k pc L (.ref x :: r) h c s Q := WP.go hr (⟨Nat.blt_eq.mp hj, hl, q⟩)
theorem w_astore {j : Nat} {x : Nat} (hr : am_rw k pc = some (.astore j, 2, a, b)) (hj : Nat.blt j (am_ml k) = true) (hl : am_nl L j) (q : WP k (pc + 2) (am_set L j (some (.ref x))) (r) h c s Q) : WP k pc L (.ref x :: r) h c s Q := WP.go hr (⟨Nat.blt_eq.mp hj, hl, q⟩)
theorem w_fstore_n {j : Fin 4} {x : UInt32} (hr : am_rw k pc = some (.fstore_n j, 1, a, b)) (hj : Nat.blt j (am_ml k) = true) (hl : am_nl L j) (q : WP k (pc + 1) (am_set L j (some (.float x))) (r) h c s Q) : WP k pc L (.float x :: r) h c s Q := WP.go hr (⟨Nat.blt_eq.mp hj, hl, q⟩)
theorem w_fstore {j : Nat} {x : UInt32} (hr : am_rw k pc = some (.fstore j, 2, a, b)) (hj : Nat.blt j (am_ml k) = true) (hl : am_nl L j) (q : WP k (pc + 2) (am_set L j (some (.float x))) (r) h c s Q) : WP k pc L (.float x :: r) h c s Q := WP.go hr (⟨Nat.blt_eq.mp hj, hl, q⟩)
theorem w_lstore_n {j : Fin 4} {x : Int64} (hr : am_rw k pc = some (.lstore_n j, 1, a, b)) (hj : Nat.blt (j + 1) (am_ml k) = true) (hl : am_nl L j) (q : WP k (pc + 1) (am_set (am_set L j (some (.long x))) (j + 1) none) (r) h c s Q) : WP k pc L (.long x :: r) h c s Q := WP.go hr (⟨Nat.blt_eq.mp hj, hl, q⟩)
theorem w_iinc {j : Nat} {n : Int} {x : Int32} (hr : am_rw k pc = some (.iinc j n, 3, a, b)) (e : am_nth L j = some (.int x)) (hj : Nat.blt j (am_ml k) = true) (hl : am_nl L j) (q : WP k (pc + 3) (am_set L j (some (.int (x + Int32.ofInt n)))) (st) h c s Q) : WP k pc L (st) h c s Q := WP.go hr (by show am_oint _ _; rw [e]; exact ⟨Nat.blt_eq.mp hj, hl, q⟩)
theorem w_iconst {n : Int} {x : Int32} (hr : am_rw k pc = some (.iconst n, 1, a, b)) (e : am_kc a b = x) (q : WP k (pc + 1) L (.int x :: st) h c s Q) : WP k pc L (st) h c s Q := WP.go hr (by show WP k (pc + 1) L (.int (am_kc a b) :: st) h c s Q; rw [e]; exact q)
theorem w_bipush {n : Int} {x : Int32} (hr : am_rw k pc = some (.bipush n, 2, a, b)) (e : am_kc a b = x) (q : WP k (pc + 2) L (.int x :: st) h c s Q) : WP k pc L (st) h c s Q := WP.go hr (by show WP k (pc + 2) L (.int (am_kc a b) :: st) h c s Q; rw [e]; exact q)
theorem w_sipush {n : Int} {x : Int32} (hr : am_rw k pc = some (.sipush n, 3, a, b)) (e : am_kc a b = x) (q : WP k (pc + 3) L (.int x :: st) h c s Q) : WP k pc L (st) h c s Q := WP.go hr (by show WP k (pc + 3) L (.int (am_kc a b) :: st) h c s Q; rw [e]; exact q)
theorem w_lconst {j : Fin 2} {x : Int64} (hr : am_rw k pc = some (.lconst j, 1, a, b)) (e : lN j = x) (q : WP k (pc + 1) L (.long x :: st) h c s Q) : WP k pc L (st) h c s Q := WP.go hr (by show WP k (pc + 1) L (.long (lN j) :: st) h c s Q; rw [e]; exact q)
def am_fc (j : Fin 3) : UInt32 := match j with
  | 0 => 0
  | 1 => 1065353216
  | 2 => 1073741824
theorem w_fconst {j : Fin 3} {x : UInt32} (hr : am_rw k pc = some (.fconst j, 1, a, b)) (e : am_fc j = x) (q : WP k (pc + 1) L (.float x :: st) h c s Q) : WP k pc L (st) h c s Q := WP.go hr (by
  have q2 : WP k (pc + 1) L (.float (am_fc j) :: st) h c s Q := by rw [e]; exact q
  exact q2)
theorem w_ldcI {n : Nat} {x : Int32} (hr : am_rw k pc = some (.ldc n, 2, 0, b)) (e : nI b = x) (q : WP k (pc + 2) L (.int x :: st) h c s Q) : WP k pc L (st) h c s Q := WP.go hr (by show WP k (pc + 2) L (.int (nI b) :: st) h c s Q; rw [e]; exact q)
theorem w_ldcF {n : Nat} {x : UInt32} (hr : am_rw k pc = some (.ldc n, 2, 1, b)) (e : UInt32.ofNat b = x) (q : WP k (pc + 2) L (.float x :: st) h c s Q) : WP k pc L (st) h c s Q := WP.go hr (by show WP k (pc + 2) L (.float (UInt32.ofNat b) :: st) h c s Q; rw [e]; exact q)
theorem w_ldc_wI {n : Nat} {x : Int32} (hr : am_rw k pc = some (.ldc_w n, 3, 0, b)) (e : nI b = x) (q : WP k (pc + 3) L (.int x :: st) h c s Q) : WP k pc L (st) h c s Q := WP.go hr (by show WP k (pc + 3) L (.int (nI b) :: st) h c s Q; rw [e]; exact q)
theorem w_ldc_wF {n : Nat} {x : UInt32} (hr : am_rw k pc = some (.ldc_w n, 3, 1, b)) (e : UInt32.ofNat b = x) (q : WP k (pc + 3) L (.float x :: st) h c s Q) : WP k pc L (st) h c s Q := WP.go hr (by show WP k (pc + 3) L (.float (UInt32.ofNat b) :: st) h c s Q; rw [e]; exact q)
theorem w_ldc_wN {n : Nat} {x : Int32} (hr : am_rw k pc = some (.ldc_w n, 3, 3, b)) (e : -(nI b) = x) (q : WP k (pc + 3) L (.int x :: st) h c s Q) : WP k pc L (st) h c s Q := WP.go hr (by show WP k (pc + 3) L (.int (-(nI b)) :: st) h c s Q; rw [e]; exact q)
theorem w_ldcS {n : Nat} (hr : am_rw k pc = some (.ldc n, 2, 2, b)) (q : WP k (pc + 2) L (.ref 1000001 :: st) h c s Q) : WP k pc L (st) h c s Q := WP.go hr (q)
theorem w_getstatic {n : Nat} {x : Int32} (hr : am_rw k pc = some (.getstatic n, 3, a, b)) (e : nI a = x) (q : WP k (pc + 3) L (.int x :: st) h c s Q) : WP k pc L (st) h c s Q := WP.go hr (by show WP k (pc + 3) L (.int (nI a) :: st) h c s Q; rw [e]; exact q)
theorem w_iadd {x y : Int32} (hr : am_rw k pc = some (.iadd, 1, a, b)) (q : WP k (pc + 1) L (.int (x + y) :: r) h c s Q) : WP k pc L (.int y :: .int x :: r) h c s Q := WP.go hr (q)
theorem w_isub {x y : Int32} (hr : am_rw k pc = some (.isub, 1, a, b)) (q : WP k (pc + 1) L (.int (x - y) :: r) h c s Q) : WP k pc L (.int y :: .int x :: r) h c s Q := WP.go hr (q)
theorem w_imul {x y : Int32} (hr : am_rw k pc = some (.imul, 1, a, b)) (q : WP k (pc + 1) L (.int (x * y) :: r) h c s Q) : WP k pc L (.int y :: .int x :: r) h c s Q := WP.go hr (q)
theorem w_iand {x y : Int32} (hr : am_rw k pc = some (.iand, 1, a, b)) (q : WP k (pc + 1) L (.int (x &&& y) :: r) h c s Q) : WP k pc L (.int y :: .int x :: r) h c s Q := WP.go hr (q)
theorem w_ior {x y : Int32} (hr : am_rw k pc = some (.ior, 1, a, b)) (q : WP k (pc + 1) L (.int (x ||| y) :: r) h c s Q) : WP k pc L (.int y :: .int x :: r) h c s Q := WP.go hr (q)
theorem w_ixor {x y : Int32} (hr : am_rw k pc = some (.ixor, 1, a, b)) (q : WP k (pc + 1) L (.int (x ^^^ y) :: r) h c s Q) : WP k pc L (.int y :: .int x :: r) h c s Q := WP.go hr (q)
theorem w_ishl {x y : Int32} (hr : am_rw k pc = some (.ishl, 1, a, b)) (q : WP k (pc + 1) L (.int (x <<< (y &&& 31)) :: r) h c s Q) : WP k pc L (.int y :: .int x :: r) h c s Q := WP.go hr (q)
theorem w_ishr {x y : Int32} (hr : am_rw k pc = some (.ishr, 1, a, b)) (q : WP k (pc + 1) L (.int (x >>> (y &&& 31)) :: r) h c s Q) : WP k pc L (.int y :: .int x :: r) h c s Q := WP.go hr (q)
theorem w_iushr {x y : Int32} (hr : am_rw k pc = some (.iushr, 1, a, b)) (q : WP k (pc + 1) L (.int ((x.toUInt32 >>> (y.toUInt32 &&& Int32.toUInt32 31)).toInt32) :: r) h c s Q) : WP k pc L (.int y :: .int x :: r) h c s Q := WP.go hr (q)
theorem w_idiv {x y : Int32} (hr : am_rw k pc = some (.idiv, 1, a, b)) (z : ¬ y = 0) (q : WP k (pc + 1) L (.int (x / y) :: r) h c s Q) : WP k pc L (.int y :: .int x :: r) h c s Q := WP.go hr (⟨z, q⟩)
theorem w_irem {x y : Int32} (hr : am_rw k pc = some (.irem, 1, a, b)) (z : ¬ y = 0) (q : WP k (pc + 1) L (.int (x - x / y * y) :: r) h c s Q) : WP k pc L (.int y :: .int x :: r) h c s Q := WP.go hr (⟨z, q⟩)
theorem w_land {x y : Int64} (hr : am_rw k pc = some (.land, 1, a, b)) (q : WP k (pc + 1) L (.long (x &&& y) :: r) h c s Q) : WP k pc L (.long y :: .long x :: r) h c s Q := WP.go hr (q)
theorem w_lor {x y : Int64} (hr : am_rw k pc = some (.lor, 1, a, b)) (q : WP k (pc + 1) L (.long (x ||| y) :: r) h c s Q) : WP k pc L (.long y :: .long x :: r) h c s Q := WP.go hr (q)
theorem w_lshl {x : Int64} {y : Int32} (hr : am_rw k pc = some (.lshl, 1, a, b)) (q : WP k (pc + 1) L (.long (x <<< (y.toInt64 &&& 63)) :: r) h c s Q) : WP k pc L (.int y :: .long x :: r) h c s Q := WP.go hr (q)
theorem w_lshr {x : Int64} {y : Int32} (hr : am_rw k pc = some (.lshr, 1, a, b)) (q : WP k (pc + 1) L (.long (x >>> (y.toInt64 &&& 63)) :: r) h c s Q) : WP k pc L (.int y :: .long x :: r) h c s Q := WP.go hr (q)
theorem w_lcmp {x y : Int64} (hr : am_rw k pc = some (.lcmp, 1, a, b)) (q : WP k (pc + 1) L (.int (lg_cmp x y) :: r) h c s Q) : WP k pc L (.long y :: .long x :: r) h c s Q := WP.go hr (q)
theorem w_i2l {x : Int32} (hr : am_rw k pc = some (.i2l, 1, a, b)) (q : WP k (pc + 1) L (.long (x.toInt64) :: r) h c s Q) : WP k pc L (.int x :: r) h c s Q := WP.go hr (q)
theorem w_i2c {x : Int32} (hr : am_rw k pc = some (.i2c, 1, a, b)) (q : WP k (pc + 1) L (.int ((x.toUInt32 % 65536).toInt32) :: r) h c s Q) : WP k pc L (.int x :: r) h c s Q := WP.go hr (q)
theorem w_i2b {x : Int32} (hr : am_rw k pc = some (.i2b, 1, a, b)) (q : WP k (pc + 1) L (.int (x.toInt8.toInt32) :: r) h c s Q) : WP k pc L (.int x :: r) h c s Q := WP.go hr (q)
theorem w_i2f {x : Int32} (hr : am_rw k pc = some (.i2f, 1, a, b)) (q : WP k (pc + 1) L (.float (FP.i2f x) :: r) h c s Q) : WP k pc L (.int x :: r) h c s Q := WP.go hr (q)
theorem w_f2i {x : UInt32} (hr : am_rw k pc = some (.f2i, 1, a, b)) (q : WP k (pc + 1) L (.int (FP.f2i x) :: r) h c s Q) : WP k pc L (.float x :: r) h c s Q := WP.go hr (q)
theorem w_fneg {x : UInt32} (hr : am_rw k pc = some (.fneg, 1, a, b)) (q : WP k (pc + 1) L (.float (FP.fneg x) :: r) h c s Q) : WP k pc L (.float x :: r) h c s Q := WP.go hr (q)
theorem w_fadd {x y : UInt32} (hr : am_rw k pc = some (.fadd, 1, a, b)) (z : vf_n32 (FP.fadd x y)) (q : WP k (pc + 1) L (.float (FP.fadd x y) :: r) h c s Q) : WP k pc L (.float y :: .float x :: r) h c s Q := WP.go hr (⟨z, q⟩)
theorem w_fsub {x y : UInt32} (hr : am_rw k pc = some (.fsub, 1, a, b)) (z : vf_n32 (FP.fsub x y)) (q : WP k (pc + 1) L (.float (FP.fsub x y) :: r) h c s Q) : WP k pc L (.float y :: .float x :: r) h c s Q := WP.go hr (⟨z, q⟩)
theorem w_fmul {x y : UInt32} (hr : am_rw k pc = some (.fmul, 1, a, b)) (z : vf_n32 (FP.fmul x y)) (q : WP k (pc + 1) L (.float (FP.fmul x y) :: r) h c s Q) : WP k pc L (.float y :: .float x :: r) h c s Q := WP.go hr (⟨z, q⟩)
theorem w_fdiv {x y : UInt32} (hr : am_rw k pc = some (.fdiv, 1, a, b)) (z : vf_n32 (FP.fdiv x y)) (q : WP k (pc + 1) L (.float (FP.fdiv x y) :: r) h c s Q) : WP k pc L (.float y :: .float x :: r) h c s Q := WP.go hr (⟨z, q⟩)
theorem w_fcmp {x y : UInt32} {op : CmpOp} (hr : am_rw k pc = some (.fcmp op, 1, a, b)) (q : WP k (pc + 1) L (.int (Op.cmpValue (FP.fcmp x y) op) :: r) h c s Q) : WP k pc L (.float y :: .float x :: r) h c s Q := WP.go hr (q)
theorem w_dup {v : Value} (hr : am_rw k pc = some (.dup, 1, a, b)) (z : am_one v) (q : WP k (pc + 1) L (v :: v :: r) h c s Q) : WP k pc L (v :: r) h c s Q := WP.go hr (⟨z, q⟩)
theorem w_dup2 {v u : Value} (hr : am_rw k pc = some (.dup2, 1, a, b)) (z : am_one v) (z2 : am_one u) (q : WP k (pc + 1) L (v :: u :: v :: u :: r) h c s Q) : WP k pc L (v :: u :: r) h c s Q := WP.go hr (⟨z, z2, q⟩)
theorem w_pop {v : Value} (hr : am_rw k pc = some (.pop, 1, a, b)) (z : am_one v) (q : WP k (pc + 1) L (r) h c s Q) : WP k pc L (v :: r) h c s Q := WP.go hr (⟨z, q⟩)
theorem w_ifeq {x : Int32} {off : Int} (hr : am_rw k pc = some (.ifCond .eq off, 3, a, b)) (q1 : x = 0 → WP k (a) L (r) h c s Q) (q2 : ¬ x = 0 → WP k (pc + 3) L (r) h c s Q) : WP k pc L (.int x :: r) h c s Q := WP.go hr (⟨q1, q2⟩)
theorem w_icmpeq {x y : Int32} {off : Int} (hr : am_rw k pc = some (.if_icmp .eq off, 3, a, b)) (q1 : x = y → WP k (a) L (r) h c s Q) (q2 : ¬ x = y → WP k (pc + 3) L (r) h c s Q) : WP k pc L (.int y :: .int x :: r) h c s Q := WP.go hr (⟨q1, q2⟩)
theorem w_ifne {x : Int32} {off : Int} (hr : am_rw k pc = some (.ifCond .ne off, 3, a, b)) (q1 : ¬ x = 0 → WP k (a) L (r) h c s Q) (q2 : x = 0 → WP k (pc + 3) L (r) h c s Q) : WP k pc L (.int x :: r) h c s Q := WP.go hr (⟨q1, q2⟩)
theorem w_icmpne {x y : Int32} {off : Int} (hr : am_rw k pc = some (.if_icmp .ne off, 3, a, b)) (q1 : ¬ x = y → WP k (a) L (r) h c s Q) (q2 : x = y → WP k (pc + 3) L (r) h c s Q) : WP k pc L (.int y :: .int x :: r) h c s Q := WP.go hr (⟨q1, q2⟩)
theorem w_iflt {x : Int32} {off : Int} (hr : am_rw k pc = some (.ifCond .lt off, 3, a, b)) (q1 : x < 0 → WP k (a) L (r) h c s Q) (q2 : ¬ x < 0 → WP k (pc + 3) L (r) h c s Q) : WP k pc L (.int x :: r) h c s Q := WP.go hr (⟨q1, q2⟩)
theorem w_icmplt {x y : Int32} {off : Int} (hr : am_rw k pc = some (.if_icmp .lt off, 3, a, b)) (q1 : x < y → WP k (a) L (r) h c s Q) (q2 : ¬ x < y → WP k (pc + 3) L (r) h c s Q) : WP k pc L (.int y :: .int x :: r) h c s Q := WP.go hr (⟨q1, q2⟩)
theorem w_ifge {x : Int32} {off : Int} (hr : am_rw k pc = some (.ifCond .ge off, 3, a, b)) (q1 : 0 ≤ x → WP k (a) L (r) h c s Q) (q2 : ¬ 0 ≤ x → WP k (pc + 3) L (r) h c s Q) : WP k pc L (.int x :: r) h c s Q := WP.go hr (⟨q1, q2⟩)
theorem w_icmpge {x y : Int32} {off : Int} (hr : am_rw k pc = some (.if_icmp .ge off, 3, a, b)) (q1 : y ≤ x → WP k (a) L (r) h c s Q) (q2 : ¬ y ≤ x → WP k (pc + 3) L (r) h c s Q) : WP k pc L (.int y :: .int x :: r) h c s Q := WP.go hr (⟨q1, q2⟩)
theorem w_ifgt {x : Int32} {off : Int} (hr : am_rw k pc = some (.ifCond .gt off, 3, a, b)) (q1 : 0 < x → WP k (a) L (r) h c s Q) (q2 : ¬ 0 < x → WP k (pc + 3) L (r) h c s Q) : WP k pc L (.int x :: r) h c s Q := WP.go hr (⟨q1, q2⟩)
theorem w_icmpgt {x y : Int32} {off : Int} (hr : am_rw k pc = some (.if_icmp .gt off, 3, a, b)) (q1 : y < x → WP k (a) L (r) h c s Q) (q2 : ¬ y < x → WP k (pc + 3) L (r) h c s Q) : WP k pc L (.int y :: .int x :: r) h c s Q := WP.go hr (⟨q1, q2⟩)
theorem w_ifle {x : Int32} {off : Int} (hr : am_rw k pc = some (.ifCond .le off, 3, a, b)) (q1 : x ≤ 0 → WP k (a) L (r) h c s Q) (q2 : ¬ x ≤ 0 → WP k (pc + 3) L (r) h c s Q) : WP k pc L (.int x :: r) h c s Q := WP.go hr (⟨q1, q2⟩)
theorem w_icmple {x y : Int32} {off : Int} (hr : am_rw k pc = some (.if_icmp .le off, 3, a, b)) (q1 : x ≤ y → WP k (a) L (r) h c s Q) (q2 : ¬ x ≤ y → WP k (pc + 3) L (r) h c s Q) : WP k pc L (.int y :: .int x :: r) h c s Q := WP.go hr (⟨q1, q2⟩)
theorem w_goto {off : Int} (hr : am_rw k pc = some (.goto off, 3, a, b)) (q : WP k (a) L (st) h c s Q) : WP k pc L (st) h c s Q := WP.go hr (q)
theorem w_tsw {dflt lo hi : Int} {offs : Array Int} {len : Nat} {x : Int32} (hr : am_rw k pc = some (.tableswitch dflt lo hi offs, len, a, b)) (q : am_swc x (fun t => WP k (t) L (r) h c s Q) (am_sw k pc).1 (am_sw k pc).2) : WP k pc L (.int x :: r) h c s Q := WP.go hr (q)
theorem w_lsw {dflt : Int} {ps : Array (Int × Int)} {len : Nat} {x : Int32} (hr : am_rw k pc = some (.lookupswitch dflt ps, len, a, b)) (q : am_swc x (fun t => WP k (t) L (r) h c s Q) (am_sw k pc).1 (am_sw k pc).2) : WP k pc L (.int x :: r) h c s Q := WP.go hr (q)
theorem w_getI {n o : Nat} (hr : am_rw k pc = some (.getfield n, 3, a, b)) (ha : Nat.beq a 20 = false) (ht : am_ft a b = 0) (z : am_is h o a) (q : WP k (pc + 3) L (.int (hI h o b) :: r) h c s Q) : WP k pc L (.ref o :: r) h c s Q := WP.go hr (by
  dsimp only [am_x, am_r1]
  split
  · cases ha
  · exact ⟨z, by rw [ht]; exact q⟩)
theorem w_putI {n o : Nat} {x : Int32} (hr : am_rw k pc = some (.putfield n, 3, a, b)) (ht : am_ft a b = 0) (z : am_is h o a) (z2 : am_b01 (am_fz a b) x) (q : WP k (pc + 3) L (r) (sI h o b x) c s Q) : WP k pc L (.int x :: .ref o :: r) h c s Q := WP.go hr (by
  dsimp only [am_x, am_vr]
  exact ⟨z, by rw [ht]; exact ⟨z2, q⟩⟩)
theorem w_getL {n o : Nat} (hr : am_rw k pc = some (.getfield n, 3, a, b)) (ha : Nat.beq a 20 = false) (ht : am_ft a b = 1) (z : am_is h o a) (q : WP k (pc + 3) L (.long (hL h o b) :: r) h c s Q) : WP k pc L (.ref o :: r) h c s Q := WP.go hr (by
  dsimp only [am_x, am_r1]
  split
  · cases ha
  · exact ⟨z, by rw [ht]; exact q⟩)
theorem w_putL {n o : Nat} {x : Int64} (hr : am_rw k pc = some (.putfield n, 3, a, b)) (ht : am_ft a b = 1) (z : am_is h o a) (q : WP k (pc + 3) L (r) (sL h o b x) c s Q) : WP k pc L (.long x :: .ref o :: r) h c s Q := WP.go hr (by
  dsimp only [am_x, am_vr]
  exact ⟨z, by rw [ht]; exact q⟩)
theorem w_getF {n o : Nat} (hr : am_rw k pc = some (.getfield n, 3, a, b)) (ha : Nat.beq a 20 = false) (ht : am_ft a b = 2) (z : am_is h o a) (q : WP k (pc + 3) L (.float (hF h o b) :: r) h c s Q) : WP k pc L (.ref o :: r) h c s Q := WP.go hr (by
  dsimp only [am_x, am_r1]
  split
  · cases ha
  · exact ⟨z, by rw [ht]; exact q⟩)
theorem w_putF {n o : Nat} {x : UInt32} (hr : am_rw k pc = some (.putfield n, 3, a, b)) (ht : am_ft a b = 2) (z : am_is h o a) (q : WP k (pc + 3) L (r) (sF h o b x) c s Q) : WP k pc L (.float x :: .ref o :: r) h c s Q := WP.go hr (by
  dsimp only [am_x, am_vr]
  exact ⟨z, by rw [ht]; exact q⟩)
theorem w_getR {n o x : Nat} (hr : am_rw k pc = some (.getfield n, 3, a, b)) (ha : Nat.beq a 20 = false) (ht : am_ft a b = 3) (z : am_is h o a) (e : hR h o b = some x) (q : WP k (pc + 3) L (.ref x :: r) h c s Q) : WP k pc L (.ref o :: r) h c s Q := WP.go hr (by
  dsimp only [am_x, am_r1]
  split
  · cases ha
  · exact ⟨z, by rw [ht]; exact ⟨x, e, q⟩⟩)
theorem w_putR {n o x : Nat} (hr : am_rw k pc = some (.putfield n, 3, a, b)) (ht : am_ft a b = 3) (z : am_is h o a) (z2 : x < hn h) (q : WP k (pc + 3) L (r) (sR h o b (some x)) c s Q) : WP k pc L (.ref x :: .ref o :: r) h c s Q := WP.go hr (by
  dsimp only [am_x, am_vr]
  exact ⟨z, by rw [ht]; exact ⟨z2, q⟩⟩)
theorem w_getSv {n : Nat} (hr : am_rw k pc = some (.getfield n, 3, 20, 0)) (q : WP k (pc + 3) L (.ref 1000002 :: r) h c s Q) : WP k pc L (.ref 1000001 :: r) h c s Q := WP.go hr (⟨rfl, q⟩)
theorem w_getSc {n : Nat} (hr : am_rw k pc = some (.getfield n, 3, 20, 1)) (q : WP k (pc + 3) L (.int 0 :: r) h c s Q) : WP k pc L (.ref 1000001 :: r) h c s Q := WP.go hr (⟨rfl, q⟩)
theorem w_new {n : Nat} (hr : am_rw k pc = some (.new n, 3, a, b)) (z : am_room h k c s 1 (am_nf a)) (q : WP k (pc + 3) L (.ref (hn h) :: st) (hnew h a 0) (c + 1) (s + am_nf a) Q) : WP k pc L (st) h c s Q := WP.go hr (⟨z, q⟩)
theorem w_newarray {t : ArrayType} {x : Int32} {n : Nat} (hr : am_rw k pc = some (.newarray t, 2, a, b)) (e : x.toNatClampNeg = n) (z1 : ¬ x < 0) (z2 : n ≤ 20000) (z : am_room h k c s 1 n) (q : WP k (pc + 2) L (.ref (hn h) :: r) (hnew h a n) (c + 1) (s + n) Q) : WP k pc L (.int x :: r) h c s Q := WP.go hr (by subst e; exact ⟨z1, z2, z, q⟩)
theorem w_anewarray {t : Nat} {x : Int32} {n : Nat} (hr : am_rw k pc = some (.anewarray t, 3, a, b)) (e : x.toNatClampNeg = n) (z1 : ¬ x < 0) (z2 : n ≤ 20000) (z : am_room h k c s 1 n) (q : WP k (pc + 3) L (.ref (hn h) :: r) (hnew h a n) (c + 1) (s + n) Q) : WP k pc L (.int x :: r) h c s Q := WP.go hr (by subst e; exact ⟨z1, z2, z, q⟩)
theorem w_grid {t d : Nat} {x : Int32} {n : Nat} (hr : am_rw k pc = some (.multianewarray t d, 4, a, b)) (e : x.toNatClampNeg = n) (z1 : ¬ x < 0) (z2 : n ≤ 20000) (z : am_room h k c s 4 (3 + 3 * n)) (q : WP k (pc + 4) L (.ref (hn h) :: r) (hgrid h n) (c + 4) (s + (3 + 3 * n)) Q) : WP k pc L (.int x :: .int 3 :: r) h c s Q := WP.go hr (by subst e; exact ⟨rfl, z1, z2, z, q⟩)
theorem w_len {o : Nat} (hr : am_rw k pc = some (.arraylength, 1, 0, b)) (z : o < hn h ∧ 20 ≤ hK h o) (q : WP k (pc + 1) L (.int (nI (hN h o)) :: r) h c s Q) : WP k pc L (.ref o :: r) h c s Q := WP.go hr (⟨z, q⟩)
theorem w_lenX (hr : am_rw k pc = some (.arraylength, 1, 1, b)) (q : WP k (pc + 1) L (.int (nI (hX h).1) :: r) h c s Q) : WP k pc L (.ref 1000000 :: r) h c s Q := WP.go hr (⟨rfl, q⟩)
theorem w_lenS (hr : am_rw k pc = some (.arraylength, 1, 2, b)) (q : WP k (pc + 1) L (.int 8 :: r) h c s Q) : WP k pc L (.ref 1000002 :: r) h c s Q := WP.go hr (⟨rfl, q⟩)
theorem w_iaload {o : Nat} {j : Int32} (hr : am_rw k pc = some (.iaload, 1, 0, b)) (z : am_at h o 20 j) (q : WP k (pc + 1) L (.int (hI h o j.toNatClampNeg) :: r) h c s Q) : WP k pc L (.int j :: .ref o :: r) h c s Q := WP.go hr (⟨z, q⟩)
theorem w_ialoadX {j : Int32} (hr : am_rw k pc = some (.iaload, 1, 1, b)) (z2 : vp_in j (hX h).1) (q : WP k (pc + 1) L (.int ((hX h).2 j.toNatClampNeg) :: r) h c s Q) : WP k pc L (.int j :: .ref 1000000 :: r) h c s Q := WP.go hr (⟨⟨rfl, z2⟩, q⟩)
theorem w_faload {o : Nat} {j : Int32} (hr : am_rw k pc = some (.faload, 1, a, b)) (z : am_at h o 22 j) (q : WP k (pc + 1) L (.float (hF h o j.toNatClampNeg) :: r) h c s Q) : WP k pc L (.int j :: .ref o :: r) h c s Q := WP.go hr (⟨z, q⟩)
theorem w_caload {o : Nat} {j : Int32} (hr : am_rw k pc = some (.caload, 1, a, b)) (z : am_at h o 24 j) (q : WP k (pc + 1) L (.int (hI h o j.toNatClampNeg) :: r) h c s Q) : WP k pc L (.int j :: .ref o :: r) h c s Q := WP.go hr (⟨z, q⟩)
theorem w_baloadS {j : Int32} (hr : am_rw k pc = some (.baload, 1, 2, b)) (z : vp_in j 8) (q : WP k (pc + 1) L (.int (am_nt [43, 45, 42, 47, 40, 41, 44, 46] j.toNatClampNeg 0) :: r) h c s Q) : WP k pc L (.int j :: .ref 1000002 :: r) h c s Q := WP.go hr (⟨⟨rfl, z⟩, q⟩)
theorem w_aaload {o x : Nat} {j : Int32} (hr : am_rw k pc = some (.aaload, 1, a, b)) (z : o < hn h ∧ 30 ≤ hK h o ∧ vp_in j (hN h o)) (e : hR h o j.toNatClampNeg = some x) (q : WP k (pc + 1) L (.ref x :: r) h c s Q) : WP k pc L (.int j :: .ref o :: r) h c s Q := WP.go hr (⟨z, x, e, q⟩)
theorem w_iastore {o : Nat} {j : Int32} {x : Int32} (hr : am_rw k pc = some (.iastore, 1, a, b)) (z : am_at h o 20 j) (q : WP k (pc + 1) L (r) (sI h o j.toNatClampNeg x) c s Q) : WP k pc L (.int x :: .int j :: .ref o :: r) h c s Q := WP.go hr (⟨z, q⟩)
theorem w_fastore {o : Nat} {j : Int32} {x : UInt32} (hr : am_rw k pc = some (.fastore, 1, a, b)) (z : am_at h o 22 j) (q : WP k (pc + 1) L (r) (sF h o j.toNatClampNeg x) c s Q) : WP k pc L (.float x :: .int j :: .ref o :: r) h c s Q := WP.go hr (⟨z, q⟩)
theorem w_castore {o : Nat} {j : Int32} {x : Int32} (hr : am_rw k pc = some (.castore, 1, a, b)) (z : am_at h o 24 j) (q : WP k (pc + 1) L (r) (sI h o j.toNatClampNeg (vp_nar .char x)) c s Q) : WP k pc L (.int x :: .int j :: .ref o :: r) h c s Q := WP.go hr (⟨z, q⟩)
theorem w_aastore {o x : Nat} {j : Int32} (hr : am_rw k pc = some (.aastore, 1, a, b)) (z : o < hn h ∧ 30 ≤ hK h o ∧ hK h o ≤ 33 ∧ vp_in j (hN h o)) (z2 : x < hn h ∧ hK h x = am_el (hK h o)) (q : WP k (pc + 1) L (r) (sR h o j.toNatClampNeg (some x)) c s Q) : WP k pc L (.ref x :: .int j :: .ref o :: r) h c s Q := WP.go hr (⟨z, z2, q⟩)
theorem w_lreturn {x : Int64} (hr : am_rw k pc = some (.lreturn, 1, a, b)) (q : Q (.inl (some (.long x))) h) : WP k pc L ([.long x]) h c s Q := WP.go hr (q)
theorem w_freturn {x : UInt32} (hr : am_rw k pc = some (.freturn, 1, a, b)) (q : Q (.inl (some (.float x))) h) : WP k pc L ([.float x]) h c s Q := WP.go hr (q)
theorem w_ireturn {x : Int32} (hr : am_rw k pc = some (.ireturn, 1, a, b)) (z : am_b01 (am_rz k) x) (q : Q (.inl (some (.int x))) h) : WP k pc L ([.int x]) h c s Q := WP.go hr (⟨z, q⟩)
theorem w_return (hr : am_rw k pc = some (.return_, 1, a, b)) (q : Q (.inl none) h) : WP k pc L ([]) h c s Q := WP.go hr (q)
/-- what a caller goes on with -/
def am_kq (k pc : Nat) (L : List (Option Value)) (r : List Value) (c s : Nat) (Q : AQ) : AQ := fun ret h1 => match ret with
  | .inl none => WP k (pc + 3) L r h1 c s Q
  | .inl (some v) => WP k (pc + 3) L (v :: r) h1 c s Q
  | .inr e => ∃ q, am_hnd k pc e = some q ∧ am_nl L q.2.2.2.2.2.2.1 ∧ WP k q.2.2.2.2.2.2.2 (am_set L q.2.2.2.2.2.2.1 none) [] h1 c s Q
theorem am_kq_back {y : Nat} : am_back WP k pc y L r c s Q (am_kq k pc L r (c + am_bc y) (s + am_bs y) Q) := by
  refine ⟨?_, ?_⟩
  · split
    · exact fun h1 z => z
    · exact fun x h1 z => z
    · exact fun x h1 z => z
    · exact fun x h1 z => z
  · split
    · exact fun e h1 z => z
    · trivial
theorem w_inv {as : List Value} (ha : Nat.beq a 999 = false) (ha2 : Nat.beq a 998 = false) (e : am_popf b st [] = some (as, r)) (h1 : am_cats r ≤ 8) (h2 : am_ones as) (h3 : am_rcv h a as) (hc : c + am_bc a ≤ am_bc k) (hs : s + am_bs a ≤ am_bs k) (q : WP a 0 (am_ent (am_ml a) as) [] h 0 0 (am_kq k pc L r (c + am_bc a) (s + am_bs a) Q)) : am_inv WP k pc a b L st h c s Q := by
  unfold am_inv
  split
  · cases ha
  · cases ha2
  · exact am_popf_spec b st [] as r e ⟨⟨h1, h2, h3⟩, hc, hs, _, q, am_kq_back⟩
theorem w_invokestatic {n : Nat} {as : List Value} (hr : am_rw k pc = some (.invokestatic n, 3, a, b)) (ha : Nat.beq a 999 = false) (ha2 : Nat.beq a 998 = false) (e : am_popf b st [] = some (as, r)) (h1 : am_cats r ≤ 8) (h2 : am_ones as) (h3 : am_rcv h a as) (hc : c + am_bc a ≤ am_bc k) (hs : s + am_bs a ≤ am_bs k) (q : WP a 0 (am_ent (am_ml a) as) [] h 0 0 (am_kq k pc L r (c + am_bc a) (s + am_bs a) Q)) : WP k pc L st h c s Q := WP.go hr (w_inv ha ha2 e h1 h2 h3 hc hs q)
theorem w_invokevirtual {n : Nat} {as : List Value} (hr : am_rw k pc = some (.invokevirtual n, 3, a, b)) (ha : Nat.beq a 999 = false) (ha2 : Nat.beq a 998 = false) (e : am_popf b st [] = some (as, r)) (h1 : am_cats r ≤ 8) (h2 : am_ones as) (h3 : am_rcv h a as) (hc : c + am_bc a ≤ am_bc k) (hs : s + am_bs a ≤ am_bs k) (q : WP a 0 (am_ent (am_ml a) as) [] h 0 0 (am_kq k pc L r (c + am_bc a) (s + am_bs a) Q)) : WP k pc L st h c s Q := WP.go hr (w_inv ha ha2 e h1 h2 h3 hc hs q)
theorem w_invokespecial {n : Nat} {as : List Value} (hr : am_rw k pc = some (.invokespecial n, 3, a, b)) (ha : Nat.beq a 999 = false) (ha2 : Nat.beq a 998 = false) (e : am_popf b st [] = some (as, r)) (h1 : am_cats r ≤ 8) (h2 : am_ones as) (h3 : am_rcv h a as) (hc : c + am_bc a ≤ am_bc k) (hs : s + am_bs a ≤ am_bs k) (q : WP a 0 (am_ent (am_ml a) as) [] h 0 0 (am_kq k pc L r (c + am_bc a) (s + am_bs a) Q)) : WP k pc L st h c s Q := WP.go hr (w_inv ha ha2 e h1 h2 h3 hc hs q)
theorem w_objinit {n x : Nat} (hr : am_rw k pc = some (.invokespecial n, 3, 999, b)) (h1 : am_cats r ≤ 8) (q : WP k (pc + 3) L r h c s Q) : WP k pc L (.ref x :: r) h c s Q := WP.go hr ⟨h1, q⟩
end WPR
