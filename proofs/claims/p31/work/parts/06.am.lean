/-! own: a small machine over numbered cells, typed by kinds; what a method does is said over it, and 04 carries that to the real one -/
abbrev AH : Type := Nat × (Nat → Nat) × (Nat → Nat) × (Nat → Nat → Int32) × (Nat → Nat → Int64) × (Nat → Nat → UInt32) × (Nat → Nat → Option Nat) × (Nat × (Nat → Int32))
def hn (h : AH) : Nat := h.1
def hK (h : AH) : Nat → Nat := h.2.1
def hN (h : AH) : Nat → Nat := h.2.2.1
def hI (h : AH) : Nat → Nat → Int32 := h.2.2.2.1
def hL (h : AH) : Nat → Nat → Int64 := h.2.2.2.2.1
def hF (h : AH) : Nat → Nat → UInt32 := h.2.2.2.2.2.1
def hR (h : AH) : Nat → Nat → Option Nat := h.2.2.2.2.2.2.1
def hX (h : AH) : Nat × (Nat → Int32) := h.2.2.2.2.2.2.2
def am_u {α : Type} (f : Nat → Nat → α) (o k : Nat) (v : α) : Nat → Nat → α := fun a b => if a = o ∧ b = k then v else f a b
def am_z {α : Type} (f : Nat → Nat → α) (o : Nat) (z : α) : Nat → Nat → α := fun a b => if a = o then z else f a b
def sI (h : AH) (o k : Nat) (v : Int32) : AH := (hn h, hK h, hN h, am_u (hI h) o k v, hL h, hF h, hR h, hX h)
def sL (h : AH) (o k : Nat) (v : Int64) : AH := (hn h, hK h, hN h, hI h, am_u (hL h) o k v, hF h, hR h, hX h)
def sF (h : AH) (o k : Nat) (v : UInt32) : AH := (hn h, hK h, hN h, hI h, hL h, am_u (hF h) o k v, hR h, hX h)
def sR (h : AH) (o k : Nat) (v : Option Nat) : AH := (hn h, hK h, hN h, hI h, hL h, hF h, am_u (hR h) o k v, hX h)
/-- a new cell of a kind, with n places -/
def hnew (h : AH) (kd n : Nat) : AH := (hn h + 1, va_up (hK h) (hn h) kd, va_up (hN h) (hn h) n, am_z (hI h) (hn h) 0, am_z (hL h) (hn h) 0, am_z (hF h) (hn h) 0, am_z (hR h) (hn h) none, hX h)
/-- three rows of n ints, and the row of them -/
def hgrid (h : AH) (n : Nat) : AH := sR (sR (sR (hnew (hnew (hnew (hnew h 34 3) 20 n) 20 n) 20 n) (hn h) 0 (some (hn h + 1))) (hn h) 1 (some (hn h + 2))) (hn h) 2 (some (hn h + 3))
def am_nth : List (Option Value) → Nat → Option Value
  | [], _ => none
  | a :: _, 0 => a
  | _ :: l, n + 1 => am_nth l n
def am_set : List (Option Value) → Nat → Option Value → List (Option Value)
  | [], _, _ => []
  | _ :: l, 0, v => v :: l
  | a :: l, n + 1, v => a :: am_set l n v
/-- the place ahead holds no long -/
def am_nl (L : List (Option Value)) : Nat → Prop
  | 0 => True
  | i + 1 => match am_nth L i with
    | some (.long _) => False
    | some (.double _) => False
    | _ => True
def am_cats : List Value → Nat
  | [] => 0
  | v :: l => v.category + am_cats l
def am_cv (ad : Nat → Nat) (v : Value) : Value := match v with
  | .ref a => .ref (ad a)
  | w => w
abbrev AQ : Type := (Option Value ⊕ Nat) → AH → Prop
abbrev AP : Type := Nat → Nat → List (Option Value) → List Value → AH → Nat → Nat → AQ → Prop
def am_is (h : AH) (o kd : Nat) : Prop := o < hn h ∧ hK h o = kd
def am_at (h : AH) (o kd : Nat) (j : Int32) : Prop := o < hn h ∧ hK h o = kd ∧ vp_in j (hN h o)
def am_i1 (st : List Value) (f : Int32 → List Value → Prop) : Prop := match st with
  | .int x :: r => f x r
  | _ => False
def am_i2 (st : List Value) (f : Int32 → Int32 → List Value → Prop) : Prop := match st with
  | .int y :: .int x :: r => f x y r
  | _ => False
def am_l2 (st : List Value) (f : Int64 → Int64 → List Value → Prop) : Prop := match st with
  | .long y :: .long x :: r => f x y r
  | _ => False
def am_li (st : List Value) (f : Int64 → Int32 → List Value → Prop) : Prop := match st with
  | .int y :: .long x :: r => f x y r
  | _ => False
def am_f1 (st : List Value) (f : UInt32 → List Value → Prop) : Prop := match st with
  | .float x :: r => f x r
  | _ => False
def am_f2 (st : List Value) (f : UInt32 → UInt32 → List Value → Prop) : Prop := match st with
  | .float y :: .float x :: r => f x y r
  | _ => False
def am_r1 (st : List Value) (f : Nat → List Value → Prop) : Prop := match st with
  | .ref x :: r => f x r
  | _ => False
/-- an index over a row -/
def am_ir (st : List Value) (f : Nat → Int32 → List Value → Prop) : Prop := match st with
  | .int j :: .ref o :: r => f o j r
  | _ => False
/-- a value, an index, a row -/
def am_vir (st : List Value) (f : Value → Nat → Int32 → List Value → Prop) : Prop := match st with
  | v :: .int j :: .ref o :: r => f v o j r
  | _ => False
def am_vr (st : List Value) (f : Value → Nat → List Value → Prop) : Prop := match st with
  | v :: .ref o :: r => f v o r
  | _ => False
def am_int (v : Value) (f : Int32 → Prop) : Prop := match v with
  | .int x => f x
  | _ => False
def am_long (v : Value) (f : Int64 → Prop) : Prop := match v with
  | .long x => f x
  | _ => False
def am_flt (v : Value) (f : UInt32 → Prop) : Prop := match v with
  | .float x => f x
  | _ => False
def am_ref (v : Value) (f : Nat → Prop) : Prop := match v with
  | .ref x => f x
  | _ => False
/-- a value of one word -/
def am_one (v : Value) : Prop := match v with
  | .int _ => True
  | .float _ => True
  | .ref _ => True
  | _ => False
def am_oint (v : Option Value) (f : Int32 → Prop) : Prop := match v with
  | some (.int x) => f x
  | _ => False
def am_olong (v : Option Value) (f : Int64 → Prop) : Prop := match v with
  | some (.long x) => f x
  | _ => False
def am_oflt (v : Option Value) (f : UInt32 → Prop) : Prop := match v with
  | some (.float x) => f x
  | _ => False
def am_oref (v : Option Value) (f : Nat → Prop) : Prop := match v with
  | some (.ref x) => f x
  | _ => False
def am_b01 (z : Nat) (x : Int32) : Prop := match z with
  | 0 => True
  | _ => x = 0 ∨ x = 1
def am_pop : Nat → List Value → List Value → (List Value → List Value → Prop) → Prop
  | 0, st, as, f => f as st
  | n + 1, st, as, f => match st with
    | v :: r => am_pop n r (v :: as) f
    | [] => False
/-- the locals at a method's entry -/
def am_ent (n : Nat) (as : List Value) : List (Option Value) := as.map some ++ List.replicate (n - as.length) none
def am_swc (x : Int32) (F : Nat → Prop) (d : Nat) : List (Int32 × Nat) → Prop
  | [] => F d
  | q :: l => (x = q.1 → F q.2) ∧ (¬ x = q.1 → am_swc x F d l)
/-- the class of what a row of references holds -/
def am_el (kd : Nat) : Nat := match kd with
  | 30 => 8
  | 31 => 5
  | 32 => 0
  | _ => 7
def am_hok (k e pc : Nat) (q : Nat × Nat × Nat × Nat × Nat × Nat × Nat × Nat) : Bool := Nat.beq q.1 k && Nat.beq q.2.1 e && Nat.ble q.2.2.1 pc && Nat.blt pc q.2.2.2.1
def am_hnd (k pc e : Nat) : Option (Nat × Nat × Nat × Nat × Nat × Nat × Nat × Nat) := am_hndL.find? (am_hok k e pc)

/-- the receiver is of the method's class -/
def am_rcv (h : AH) (y : Nat) (as : List Value) : Prop := match am_st y with
  | 1 => True
  | _ => match as with
    | .ref o :: _ => (match am_oc y with
      | 15 => o = 1000001
      | c => am_is h o c)
    | _ => False
def am_ones : List Value → Prop
  | [] => True
  | v :: l => am_one v ∧ am_ones l
/-- behind a call -/
def am_back (P : AP) (k pc y : Nat) (L : List (Option Value)) (r : List Value) (c s : Nat) (Q Q' : AQ) : Prop :=
  (match am_rc y with
    | 0 => ∀ h1 : AH, Q' (.inl none) h1 → P k (pc + 3) L r h1 (c + am_bc y) (s + am_bs y) Q
    | 1 => ∀ (x : Int32) (h1 : AH), Q' (.inl (some (.int x))) h1 → P k (pc + 3) L (.int x :: r) h1 (c + am_bc y) (s + am_bs y) Q
    | 2 => ∀ (x : Int64) (h1 : AH), Q' (.inl (some (.long x))) h1 → P k (pc + 3) L (.long x :: r) h1 (c + am_bc y) (s + am_bs y) Q
    | _ => ∀ (x : UInt32) (h1 : AH), Q' (.inl (some (.float x))) h1 → P k (pc + 3) L (.float x :: r) h1 (c + am_bc y) (s + am_bs y) Q) ∧
  (match am_th y with
    | true => ∀ (e : Nat) (h1 : AH), Q' (.inr e) h1 → ∃ q, am_hnd k pc e = some q ∧ am_nl L q.2.2.2.2.2.2.1 ∧ P k q.2.2.2.2.2.2.2 (am_set L q.2.2.2.2.2.2.1 none) [] h1 (c + am_bc y) (s + am_bs y) Q
    | false => True)
def am_inv (P : AP) (k pc a b : Nat) (L : List (Option Value)) (st : List Value) (h : AH) (c s : Nat) (Q : AQ) : Prop :=
  match a with
  | 999 => am_r1 st fun _ r => am_cats r ≤ 8 ∧ P k (pc + 3) L r h c s Q
  | 998 => False
  | y => am_pop b st [] fun as r => (am_cats r ≤ 8 ∧ am_ones as ∧ am_rcv h y as) ∧ c + am_bc y ≤ am_bc k ∧ s + am_bs y ≤ am_bs k ∧ ∃ Q' : AQ, P y 0 (am_ent (am_ml y) as) [] h 0 0 Q' ∧ am_back P k pc y L r c s Q Q'
def am_if (cd : Jvm.ClassFile.Cond) (x y : Int32) (A B : Prop) : Prop := match cd with
  | .eq => (x = y → A) ∧ (¬ x = y → B)
  | .ne => (¬ x = y → A) ∧ (x = y → B)
  | .lt => (x < y → A) ∧ (¬ x < y → B)
  | .ge => (y ≤ x → A) ∧ (¬ y ≤ x → B)
  | .gt => (y < x → A) ∧ (¬ y < x → B)
  | .le => (x ≤ y → A) ∧ (¬ x ≤ y → B)
def am_room (h : AH) (k c s n m : Nat) : Prop := hn h + 4 ≤ 1000000 ∧ c + n ≤ am_bc k ∧ s + m ≤ am_bs k
/-- a throw's place -/
def am_thx (k pc : Nat) : Option (Nat × Nat × Nat × Nat × Nat × String) := bif Nat.blt pc 10000 then am_thr k pc else none
/-- one instruction -/
def am_x (P : AP) (k pc : Nat) (i : Instr) (a b : Nat) (L : List (Option Value)) (st : List Value) (h : AH) (c s : Nat) (Q : AQ) : Prop :=
  match i with
  | .aload_n j => am_oref (am_nth L j) fun x => P k (pc + 1) L (.ref x :: st) h c s Q
  | .aload j => am_oref (am_nth L j) fun x => P k (pc + 2) L (.ref x :: st) h c s Q
  | .iload_n j => am_oint (am_nth L j) fun x => P k (pc + 1) L (.int x :: st) h c s Q
  | .iload j => am_oint (am_nth L j) fun x => P k (pc + 2) L (.int x :: st) h c s Q
  | .fload_n j => am_oflt (am_nth L j) fun x => P k (pc + 1) L (.float x :: st) h c s Q
  | .fload j => am_oflt (am_nth L j) fun x => P k (pc + 2) L (.float x :: st) h c s Q
  | .lload_n j => am_olong (am_nth L j) fun x => P k (pc + 1) L (.long x :: st) h c s Q
  | .istore_n j => am_i1 st fun x r => (j : Nat) < am_ml k ∧ am_nl L j ∧ P k (pc + 1) (am_set L j (some (.int x))) r h c s Q
  | .istore j => am_i1 st fun x r => j < am_ml k ∧ am_nl L j ∧ P k (pc + 2) (am_set L j (some (.int x))) r h c s Q
  | .fstore_n j => am_f1 st fun x r => (j : Nat) < am_ml k ∧ am_nl L j ∧ P k (pc + 1) (am_set L j (some (.float x))) r h c s Q
  | .fstore j => am_f1 st fun x r => j < am_ml k ∧ am_nl L j ∧ P k (pc + 2) (am_set L j (some (.float x))) r h c s Q
  | .astore_n j => am_r1 st fun x r => (j : Nat) < am_ml k ∧ am_nl L j ∧ P k (pc + 1) (am_set L j (some (.ref x))) r h c s Q
  | .astore j => am_r1 st fun x r => j < am_ml k ∧ am_nl L j ∧ P k (pc + 2) (am_set L j (some (.ref x))) r h c s Q
  | .lstore_n j => (match st with
      | .long x :: r => (j : Nat) + 1 < am_ml k ∧ am_nl L j ∧ P k (pc + 1) (am_set (am_set L j (some (.long x))) (j + 1) none) r h c s Q
      | _ => False)
  | .iinc j n => am_oint (am_nth L j) fun x => j < am_ml k ∧ am_nl L j ∧ P k (pc + 3) (am_set L j (some (.int (x + Int32.ofInt n)))) st h c s Q
  | .iconst _ => P k (pc + 1) L (.int (am_kc a b) :: st) h c s Q
  | .bipush _ => P k (pc + 2) L (.int (am_kc a b) :: st) h c s Q
  | .sipush _ => P k (pc + 3) L (.int (am_kc a b) :: st) h c s Q
  | .lconst j => P k (pc + 1) L (.long (lN j) :: st) h c s Q
  | .fconst j => P k (pc + 1) L (.float (match j with
      | 0 => 0
      | 1 => 1065353216
      | 2 => 1073741824) :: st) h c s Q
  | .ldc _ => (match a with
      | 0 => P k (pc + 2) L (.int (nI b) :: st) h c s Q
      | 1 => P k (pc + 2) L (.float (UInt32.ofNat b) :: st) h c s Q
      | 2 => P k (pc + 2) L (.ref 1000001 :: st) h c s Q
      | _ => False)
  | .ldc_w _ => (match a with
      | 0 => P k (pc + 3) L (.int (nI b) :: st) h c s Q
      | 1 => P k (pc + 3) L (.float (UInt32.ofNat b) :: st) h c s Q
      | 3 => P k (pc + 3) L (.int (-(nI b)) :: st) h c s Q
      | _ => False)
  | .iadd => am_i2 st fun x y r => P k (pc + 1) L (.int (x + y) :: r) h c s Q
  | .isub => am_i2 st fun x y r => P k (pc + 1) L (.int (x - y) :: r) h c s Q
  | .imul => am_i2 st fun x y r => P k (pc + 1) L (.int (x * y) :: r) h c s Q
  | .iand => am_i2 st fun x y r => P k (pc + 1) L (.int (x &&& y) :: r) h c s Q
  | .ior => am_i2 st fun x y r => P k (pc + 1) L (.int (x ||| y) :: r) h c s Q
  | .ixor => am_i2 st fun x y r => P k (pc + 1) L (.int (x ^^^ y) :: r) h c s Q
  | .ishl => am_i2 st fun x y r => P k (pc + 1) L (.int (x <<< (y &&& 31)) :: r) h c s Q
  | .ishr => am_i2 st fun x y r => P k (pc + 1) L (.int (x >>> (y &&& 31)) :: r) h c s Q
  | .iushr => am_i2 st fun x y r => P k (pc + 1) L (.int (x.toUInt32 >>> (y.toUInt32 &&& Int32.toUInt32 31)).toInt32 :: r) h c s Q
  | .idiv => am_i2 st fun x y r => ¬ y = 0 ∧ P k (pc + 1) L (.int (x / y) :: r) h c s Q
  | .irem => am_i2 st fun x y r => ¬ y = 0 ∧ P k (pc + 1) L (.int (x - x / y * y) :: r) h c s Q
  | .land => am_l2 st fun x y r => P k (pc + 1) L (.long (x &&& y) :: r) h c s Q
  | .lor => am_l2 st fun x y r => P k (pc + 1) L (.long (x ||| y) :: r) h c s Q
  | .lshl => am_li st fun x y r => P k (pc + 1) L (.long (x <<< (y.toInt64 &&& 63)) :: r) h c s Q
  | .lshr => am_li st fun x y r => P k (pc + 1) L (.long (x >>> (y.toInt64 &&& 63)) :: r) h c s Q
  | .lcmp => am_l2 st fun x y r => P k (pc + 1) L (.int (lg_cmp x y) :: r) h c s Q
  | .i2l => am_i1 st fun x r => P k (pc + 1) L (.long x.toInt64 :: r) h c s Q
  | .i2c => am_i1 st fun x r => P k (pc + 1) L (.int (x.toUInt32 % 65536).toInt32 :: r) h c s Q
  | .i2b => am_i1 st fun x r => P k (pc + 1) L (.int x.toInt8.toInt32 :: r) h c s Q
  | .i2f => am_i1 st fun x r => P k (pc + 1) L (.float (FP.i2f x) :: r) h c s Q
  | .f2i => am_f1 st fun x r => P k (pc + 1) L (.int (FP.f2i x) :: r) h c s Q
  | .fneg => am_f1 st fun x r => P k (pc + 1) L (.float (FP.fneg x) :: r) h c s Q
  | .fadd => am_f2 st fun x y r => vf_n32 (FP.fadd x y) ∧ P k (pc + 1) L (.float (FP.fadd x y) :: r) h c s Q
  | .fsub => am_f2 st fun x y r => vf_n32 (FP.fsub x y) ∧ P k (pc + 1) L (.float (FP.fsub x y) :: r) h c s Q
  | .fmul => am_f2 st fun x y r => vf_n32 (FP.fmul x y) ∧ P k (pc + 1) L (.float (FP.fmul x y) :: r) h c s Q
  | .fdiv => am_f2 st fun x y r => vf_n32 (FP.fdiv x y) ∧ P k (pc + 1) L (.float (FP.fdiv x y) :: r) h c s Q
  | .fcmp op => am_f2 st fun x y r => P k (pc + 1) L (.int (Op.cmpValue (FP.fcmp x y) op) :: r) h c s Q
  | .dup => (match st with
      | v :: r => am_one v ∧ P k (pc + 1) L (v :: v :: r) h c s Q
      | [] => False)
  | .dup2 => (match st with
      | v :: w :: r => am_one v ∧ am_one w ∧ P k (pc + 1) L (v :: w :: v :: w :: r) h c s Q
      | _ => False)
  | .pop => (match st with
      | v :: r => am_one v ∧ P k (pc + 1) L r h c s Q
      | [] => False)
  | .ifCond cd _ => am_i1 st fun x r => am_if cd x 0 (P k a L r h c s Q) (P k (pc + 3) L r h c s Q)
  | .if_icmp cd _ => am_i2 st fun x y r => am_if cd x y (P k a L r h c s Q) (P k (pc + 3) L r h c s Q)
  | .goto _ => P k a L st h c s Q
  | .tableswitch _ _ _ _ => am_i1 st fun x r => am_swc x (fun t => P k t L r h c s Q) (am_sw k pc).1 (am_sw k pc).2
  | .lookupswitch _ _ => am_i1 st fun x r => am_swc x (fun t => P k t L r h c s Q) (am_sw k pc).1 (am_sw k pc).2
  | .getfield _ => am_r1 st fun o r => (match a with
      | 20 => o = 1000001 ∧ (match b with
        | 0 => P k (pc + 3) L (.ref 1000002 :: r) h c s Q
        | _ => P k (pc + 3) L (.int 0 :: r) h c s Q)
      | a => am_is h o a ∧ (match am_ft a b with
        | 0 => P k (pc + 3) L (.int (hI h o b) :: r) h c s Q
        | 1 => P k (pc + 3) L (.long (hL h o b) :: r) h c s Q
        | 2 => P k (pc + 3) L (.float (hF h o b) :: r) h c s Q
        | _ => ∃ q, hR h o b = some q ∧ P k (pc + 3) L (.ref q :: r) h c s Q))
  | .putfield _ => am_vr st fun v o r => am_is h o a ∧ (match am_ft a b with
      | 0 => am_int v fun x => am_b01 (am_fz a b) x ∧ P k (pc + 3) L r (sI h o b x) c s Q
      | 1 => am_long v fun x => P k (pc + 3) L r (sL h o b x) c s Q
      | 2 => am_flt v fun x => P k (pc + 3) L r (sF h o b x) c s Q
      | _ => am_ref v fun x => x < hn h ∧ P k (pc + 3) L r (sR h o b (some x)) c s Q)
  | .getstatic _ => P k (pc + 3) L (.int (nI a) :: st) h c s Q
  | .new _ => am_room h k c s 1 (am_nf a) ∧ P k (pc + 3) L (.ref (hn h) :: st) (hnew h a 0) (c + 1) (s + am_nf a) Q
  | .newarray _ => am_i1 st fun n r => ¬ n < 0 ∧ n.toNatClampNeg ≤ 20000 ∧ am_room h k c s 1 n.toNatClampNeg ∧ P k (pc + 2) L (.ref (hn h) :: r) (hnew h a n.toNatClampNeg) (c + 1) (s + n.toNatClampNeg) Q
  | .anewarray _ => am_i1 st fun n r => ¬ n < 0 ∧ n.toNatClampNeg ≤ 20000 ∧ am_room h k c s 1 n.toNatClampNeg ∧ P k (pc + 3) L (.ref (hn h) :: r) (hnew h a n.toNatClampNeg) (c + 1) (s + n.toNatClampNeg) Q
  | .multianewarray _ _ => am_i2 st fun n x r => n = 3 ∧ ¬ x < 0 ∧ x.toNatClampNeg ≤ 20000 ∧ am_room h k c s 4 (3 + 3 * x.toNatClampNeg) ∧ P k (pc + 4) L (.ref (hn h) :: r) (hgrid h x.toNatClampNeg) (c + 4) (s + (3 + 3 * x.toNatClampNeg)) Q
  | .arraylength => am_r1 st fun o r => (match a with
      | 1 => o = 1000000 ∧ P k (pc + 1) L (.int (nI (hX h).1) :: r) h c s Q
      | 2 => o = 1000002 ∧ P k (pc + 1) L (.int 8 :: r) h c s Q
      | _ => (o < hn h ∧ 20 ≤ hK h o) ∧ P k (pc + 1) L (.int (nI (hN h o)) :: r) h c s Q)
  | .iaload => am_ir st fun o j r => (match a with
      | 1 => (o = 1000000 ∧ vp_in j (hX h).1) ∧ P k (pc + 1) L (.int ((hX h).2 j.toNatClampNeg) :: r) h c s Q
      | _ => am_at h o 20 j ∧ P k (pc + 1) L (.int (hI h o j.toNatClampNeg) :: r) h c s Q)
  | .faload => am_ir st fun o j r => am_at h o 22 j ∧ P k (pc + 1) L (.float (hF h o j.toNatClampNeg) :: r) h c s Q
  | .caload => am_ir st fun o j r => am_at h o 24 j ∧ P k (pc + 1) L (.int (hI h o j.toNatClampNeg) :: r) h c s Q
  | .baload => am_ir st fun o j r => (match a with
      | 2 => (o = 1000002 ∧ vp_in j 8) ∧ P k (pc + 1) L (.int (am_nt [43, 45, 42, 47, 40, 41, 44, 46] j.toNatClampNeg 0) :: r) h c s Q
      | _ => False)
  | .aaload => am_ir st fun o j r => (o < hn h ∧ 30 ≤ hK h o ∧ vp_in j (hN h o)) ∧ ∃ q, hR h o j.toNatClampNeg = some q ∧ P k (pc + 1) L (.ref q :: r) h c s Q
  | .iastore => am_vir st fun v o j r => am_at h o 20 j ∧ am_int v fun x => P k (pc + 1) L r (sI h o j.toNatClampNeg x) c s Q
  | .fastore => am_vir st fun v o j r => am_at h o 22 j ∧ am_flt v fun x => P k (pc + 1) L r (sF h o j.toNatClampNeg x) c s Q
  | .castore => am_vir st fun v o j r => am_at h o 24 j ∧ am_int v fun x => P k (pc + 1) L r (sI h o j.toNatClampNeg (vp_nar .char x)) c s Q
  | .aastore => am_vir st fun v o j r => (o < hn h ∧ 30 ≤ hK h o ∧ hK h o ≤ 33 ∧ vp_in j (hN h o)) ∧ am_ref v fun x => (x < hn h ∧ hK h x = am_el (hK h o)) ∧ P k (pc + 1) L r (sR h o j.toNatClampNeg (some x)) c s Q
  | .invokestatic _ => am_inv P k pc a b L st h c s Q
  | .invokevirtual _ => am_inv P k pc a b L st h c s Q
  | .invokespecial _ => am_inv P k pc a b L st h c s Q
  | .ireturn => (match st with
      | [.int x] => am_b01 (am_rz k) x ∧ Q (.inl (some (.int x))) h
      | _ => False)
  | .lreturn => (match st with
      | [.long x] => Q (.inl (some (.long x))) h
      | _ => False)
  | .freturn => (match st with
      | [.float x] => Q (.inl (some (.float x))) h
      | _ => False)
  | .return_ => (match st with
      | [] => Q (.inl none) h
      | _ => False)
  | _ => False
def am_s (P : AP) (k pc : Nat) (L : List (Option Value)) (st : List Value) (h : AH) (c s : Nat) (Q : AQ) : Prop :=
  match am_thx k pc with
  | some q => (c + 1 ≤ am_bc k ∧ s + 6 ≤ am_bs k ∧ am_cats st ≤ 8) ∧ Q (.inr q.1) h
  | none => match am_code k pc with
    | some q => am_x P k pc q.1 q.2.2.1 q.2.2.2 L st h c s Q
    | none => False
/-- from here the method ends with Q: what holds of every P that each step carries back -/
def WP : AP := fun k pc L st h c s Q => ∀ P : AP, (∀ k pc L st h c s Q, am_s P k pc L st h c s Q → P k pc L st h c s Q) → P k pc L st h c s Q
