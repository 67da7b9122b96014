/-! own: a step is monotone; the rules of WP -/
theorem am_i1_m {st : List Value} {f g : Int32 → List Value → Prop} (h : ∀ x r, f x r → g x r) (q : am_i1 st f) : am_i1 st g := by
  unfold am_i1 at q ⊢
  split at q
  · exact h _ _ q
  · exact q.elim
theorem am_i2_m {st : List Value} {f g : Int32 → Int32 → List Value → Prop} (h : ∀ x y r, f x y r → g x y r) (q : am_i2 st f) : am_i2 st g := by
  unfold am_i2 at q ⊢
  split at q
  · exact h _ _ _ q
  · exact q.elim
theorem am_l2_m {st : List Value} {f g : Int64 → Int64 → List Value → Prop} (h : ∀ x y r, f x y r → g x y r) (q : am_l2 st f) : am_l2 st g := by
  unfold am_l2 at q ⊢
  split at q
  · exact h _ _ _ q
  · exact q.elim
theorem am_li_m {st : List Value} {f g : Int64 → Int32 → List Value → Prop} (h : ∀ x y r, f x y r → g x y r) (q : am_li st f) : am_li st g := by
  unfold am_li at q ⊢
  split at q
  · exact h _ _ _ q
  · exact q.elim
theorem am_f1_m {st : List Value} {f g : UInt32 → List Value → Prop} (h : ∀ x r, f x r → g x r) (q : am_f1 st f) : am_f1 st g := by
  unfold am_f1 at q ⊢
  split at q
  · exact h _ _ q
  · exact q.elim
theorem am_f2_m {st : List Value} {f g : UInt32 → UInt32 → List Value → Prop} (h : ∀ x y r, f x y r → g x y r) (q : am_f2 st f) : am_f2 st g := by
  unfold am_f2 at q ⊢
  split at q
  · exact h _ _ _ q
  · exact q.elim
theorem am_r1_m {st : List Value} {f g : Nat → List Value → Prop} (h : ∀ x r, f x r → g x r) (q : am_r1 st f) : am_r1 st g := by
  unfold am_r1 at q ⊢
  split at q
  · exact h _ _ q
  · exact q.elim
theorem am_ir_m {st : List Value} {f g : Nat → Int32 → List Value → Prop} (h : ∀ x y r, f x y r → g x y r) (q : am_ir st f) : am_ir st g := by
  unfold am_ir at q ⊢
  split at q
  · exact h _ _ _ q
  · exact q.elim
theorem am_vir_m {st : List Value} {f g : Value → Nat → Int32 → List Value → Prop} (h : ∀ v x y r, f v x y r → g v x y r) (q : am_vir st f) : am_vir st g := by
  unfold am_vir at q ⊢
  split at q
  · exact h _ _ _ _ q
  · exact q.elim
theorem am_vr_m {st : List Value} {f g : Value → Nat → List Value → Prop} (h : ∀ v x r, f v x r → g v x r) (q : am_vr st f) : am_vr st g := by
  unfold am_vr at q ⊢
  split at q
  · exact h _ _ _ q
  · exact q.elim
theorem am_int_m {v : Value} {f g : Int32 → Prop} (h : ∀ x, f x → g x) (q : am_int v f) : am_int v g := by
  unfold am_int at q ⊢
  split at q
  · exact h _ q
  · exact q.elim
theorem am_long_m {v : Value} {f g : Int64 → Prop} (h : ∀ x, f x → g x) (q : am_long v f) : am_long v g := by
  unfold am_long at q ⊢
  split at q
  · exact h _ q
  · exact q.elim
theorem am_flt_m {v : Value} {f g : UInt32 → Prop} (h : ∀ x, f x → g x) (q : am_flt v f) : am_flt v g := by
  unfold am_flt at q ⊢
  split at q
  · exact h _ q
  · exact q.elim
theorem am_ref_m {v : Value} {f g : Nat → Prop} (h : ∀ x, f x → g x) (q : am_ref v f) : am_ref v g := by
  unfold am_ref at q ⊢
  split at q
  · exact h _ q
  · exact q.elim
theorem am_oint_m {v : Option Value} {f g : Int32 → Prop} (h : ∀ x, f x → g x) (q : am_oint v f) : am_oint v g := by
  unfold am_oint at q ⊢
  split at q
  · exact h _ q
  · exact q.elim
theorem am_olong_m {v : Option Value} {f g : Int64 → Prop} (h : ∀ x, f x → g x) (q : am_olong v f) : am_olong v g := by
  unfold am_olong at q ⊢
  split at q
  · exact h _ q
  · exact q.elim
theorem am_oflt_m {v : Option Value} {f g : UInt32 → Prop} (h : ∀ x, f x → g x) (q : am_oflt v f) : am_oflt v g := by
  unfold am_oflt at q ⊢
  split at q
  · exact h _ q
  · exact q.elim
theorem am_oref_m {v : Option Value} {f g : Nat → Prop} (h : ∀ x, f x → g x) (q : am_oref v f) : am_oref v g := by
  unfold am_oref at q ⊢
  split at q
  · exact h _ q
  · exact q.elim
theorem am_pop_m {f g : List Value → List Value → Prop} (h : ∀ a r, f a r → g a r) : ∀ (n : Nat) (st as : List Value), am_pop n st as f → am_pop n st as g
  | 0, st, as, q => h _ _ q
  | n + 1, v :: r, as, q => am_pop_m h n r (v :: as) q
  | n + 1, [], as, q => q.elim
theorem am_swc_m {x : Int32} {F G : Nat → Prop} (h : ∀ t, F t → G t) {d : Nat} : ∀ (l : List (Int32 × Nat)), am_swc x F d l → am_swc x G d l
  | [], q => h _ q
  | a :: l, q => ⟨fun e => h _ (q.1 e), fun e => am_swc_m h l (q.2 e)⟩
theorem am_if_m {cd : Jvm.ClassFile.Cond} {x y : Int32} {A B C D : Prop} (h1 : A → C) (h2 : B → D) (q : am_if cd x y A B) : am_if cd x y C D := by
  cases cd <;> exact ⟨fun e => h1 (q.1 e), fun e => h2 (q.2 e)⟩
section AMM
variable {P P' : AP} (hPP : ∀ k pc L st h c s Q, P k pc L st h c s Q → P' k pc L st h c s Q)
theorem am_back_m {P P' : AP} (hPP : ∀ k pc L st h c s Q, P k pc L st h c s Q → P' k pc L st h c s Q) {k pc y : Nat} {L : List (Option Value)} {r : List Value} {c s : Nat} {Q Q' : AQ} (q : am_back P k pc y L r c s Q Q') : am_back P' k pc y L r c s Q Q' := by
  obtain ⟨q1, q2⟩ := q
  refine ⟨?_, ?_⟩
  · split at q1
    · exact fun h1 z => hPP _ _ _ _ _ _ _ _ (q1 h1 z)
    · exact fun x h1 z => hPP _ _ _ _ _ _ _ _ (q1 x h1 z)
    · exact fun x h1 z => hPP _ _ _ _ _ _ _ _ (q1 x h1 z)
    · exact fun x h1 z => hPP _ _ _ _ _ _ _ _ (q1 x h1 z)
  · split at q2
    · intro e h1 z
      obtain ⟨w, h2, h3, h4⟩ := q2 e h1 z
      exact ⟨w, h2, h3, hPP _ _ _ _ _ _ _ _ h4⟩
    · trivial
theorem am_inv_m {P P' : AP} (hPP : ∀ k pc L st h c s Q, P k pc L st h c s Q → P' k pc L st h c s Q) {k pc a b : Nat} {L : List (Option Value)} {st : List Value} {h : AH} {c s : Nat} {Q : AQ} (q : am_inv P k pc a b L st h c s Q) : am_inv P' k pc a b L st h c s Q := by
  unfold am_inv at q ⊢
  split at q
  · exact am_r1_m (fun x r z => ⟨z.1, hPP _ _ _ _ _ _ _ _ z.2⟩) q
  · exact q.elim
  · refine am_pop_m (fun as r z => ?_) _ _ _ q
    obtain ⟨z1, z2, z3, Q', z4, z5⟩ := z
    exact ⟨z1, z2, z3, Q', hPP _ _ _ _ _ _ _ _ z4, am_back_m hPP z5⟩

theorem am_x_m {P P' : AP} (hPP : ∀ k pc L st h c s Q, P k pc L st h c s Q → P' k pc L st h c s Q) {k pc : Nat} {a b : Nat} {L : List (Option Value)} {st : List Value} {h : AH} {c s : Nat} {Q : AQ} : ∀ i : Instr, am_x P k pc i a b L st h c s Q → am_x P' k pc i a b L st h c s Q := by
  intro i
  cases i
  case aload_n => exact am_oref_m (fun _ z => hPP _ _ _ _ _ _ _ _ z)
  case aload => exact am_oref_m (fun _ z => hPP _ _ _ _ _ _ _ _ z)
  case iload_n => exact am_oint_m (fun _ z => hPP _ _ _ _ _ _ _ _ z)
  case iload => exact am_oint_m (fun _ z => hPP _ _ _ _ _ _ _ _ z)
  case fload_n => exact am_oflt_m (fun _ z => hPP _ _ _ _ _ _ _ _ z)
  case fload => exact am_oflt_m (fun _ z => hPP _ _ _ _ _ _ _ _ z)
  case lload_n => exact am_olong_m (fun _ z => hPP _ _ _ _ _ _ _ _ z)
  case istore_n => exact am_i1_m (fun _ _ z => ⟨z.1, z.2.1, hPP _ _ _ _ _ _ _ _ z.2.2⟩)
  case istore => exact am_i1_m (fun _ _ z => ⟨z.1, z.2.1, hPP _ _ _ _ _ _ _ _ z.2.2⟩)
  case fstore_n => exact am_f1_m (fun _ _ z => ⟨z.1, z.2.1, hPP _ _ _ _ _ _ _ _ z.2.2⟩)
  case fstore => exact am_f1_m (fun _ _ z => ⟨z.1, z.2.1, hPP _ _ _ _ _ _ _ _ z.2.2⟩)
  case astore_n => exact am_r1_m (fun _ _ z => ⟨z.1, z.2.1, hPP _ _ _ _ _ _ _ _ z.2.2⟩)
  case astore => exact am_r1_m (fun _ _ z => ⟨z.1, z.2.1, hPP _ _ _ _ _ _ _ _ z.2.2⟩)
  case iinc => exact am_oint_m (fun _ z => ⟨z.1, z.2.1, hPP _ _ _ _ _ _ _ _ z.2.2⟩)
  case iconst => exact hPP _ _ _ _ _ _ _ _
  case bipush => exact hPP _ _ _ _ _ _ _ _
  case sipush => exact hPP _ _ _ _ _ _ _ _
  case lconst => exact hPP _ _ _ _ _ _ _ _
  case fconst => exact hPP _ _ _ _ _ _ _ _
  case goto => exact hPP _ _ _ _ _ _ _ _
  case getstatic => exact hPP _ _ _ _ _ _ _ _
  case iadd => exact am_i2_m (fun _ _ _ z => hPP _ _ _ _ _ _ _ _ z)
  case isub => exact am_i2_m (fun _ _ _ z => hPP _ _ _ _ _ _ _ _ z)
  case imul => exact am_i2_m (fun _ _ _ z => hPP _ _ _ _ _ _ _ _ z)
  case iand => exact am_i2_m (fun _ _ _ z => hPP _ _ _ _ _ _ _ _ z)
  case ior => exact am_i2_m (fun _ _ _ z => hPP _ _ _ _ _ _ _ _ z)
  case ixor => exact am_i2_m (fun _ _ _ z => hPP _ _ _ _ _ _ _ _ z)
  case ishl => exact am_i2_m (fun _ _ _ z => hPP _ _ _ _ _ _ _ _ z)
  case ishr => exact am_i2_m (fun _ _ _ z => hPP _ _ _ _ _ _ _ _ z)
  case iushr => exact am_i2_m (fun _ _ _ z => hPP _ _ _ _ _ _ _ _ z)
  case idiv => exact am_i2_m (fun _ _ _ z => ⟨z.1, hPP _ _ _ _ _ _ _ _ z.2⟩)
  case irem => exact am_i2_m (fun _ _ _ z => ⟨z.1, hPP _ _ _ _ _ _ _ _ z.2⟩)
  case land => exact am_l2_m (fun _ _ _ z => hPP _ _ _ _ _ _ _ _ z)
  case lor => exact am_l2_m (fun _ _ _ z => hPP _ _ _ _ _ _ _ _ z)
  case lcmp => exact am_l2_m (fun _ _ _ z => hPP _ _ _ _ _ _ _ _ z)
  case lshl => exact am_li_m (fun _ _ _ z => hPP _ _ _ _ _ _ _ _ z)
  case lshr => exact am_li_m (fun _ _ _ z => hPP _ _ _ _ _ _ _ _ z)
  case i2l => exact am_i1_m (fun _ _ z => hPP _ _ _ _ _ _ _ _ z)
  case i2c => exact am_i1_m (fun _ _ z => hPP _ _ _ _ _ _ _ _ z)
  case i2b => exact am_i1_m (fun _ _ z => hPP _ _ _ _ _ _ _ _ z)
  case i2f => exact am_i1_m (fun _ _ z => hPP _ _ _ _ _ _ _ _ z)
  case f2i => exact am_f1_m (fun _ _ z => hPP _ _ _ _ _ _ _ _ z)
  case fneg => exact am_f1_m (fun _ _ z => hPP _ _ _ _ _ _ _ _ z)
  case fadd => exact am_f2_m (fun _ _ _ z => ⟨z.1, hPP _ _ _ _ _ _ _ _ z.2⟩)
  case fsub => exact am_f2_m (fun _ _ _ z => ⟨z.1, hPP _ _ _ _ _ _ _ _ z.2⟩)
  case fmul => exact am_f2_m (fun _ _ _ z => ⟨z.1, hPP _ _ _ _ _ _ _ _ z.2⟩)
  case fdiv => exact am_f2_m (fun _ _ _ z => ⟨z.1, hPP _ _ _ _ _ _ _ _ z.2⟩)
  case fcmp => exact am_f2_m (fun _ _ _ z => hPP _ _ _ _ _ _ _ _ z)
  case ifCond => exact am_i1_m (fun _ _ z => am_if_m (hPP _ _ _ _ _ _ _ _) (hPP _ _ _ _ _ _ _ _) z)
  case if_icmp => exact am_i2_m (fun _ _ _ z => am_if_m (hPP _ _ _ _ _ _ _ _) (hPP _ _ _ _ _ _ _ _) z)
  case tableswitch => exact am_i1_m (fun _ _ z => am_swc_m (fun _ w => hPP _ _ _ _ _ _ _ _ w) _ z)
  case lookupswitch => exact am_i1_m (fun _ _ z => am_swc_m (fun _ w => hPP _ _ _ _ _ _ _ _ w) _ z)
  case new => exact fun z => ⟨z.1, hPP _ _ _ _ _ _ _ _ z.2⟩
  case newarray => exact am_i1_m (fun _ _ z => ⟨z.1, z.2.1, z.2.2.1, hPP _ _ _ _ _ _ _ _ z.2.2.2⟩)
  case anewarray => exact am_i1_m (fun _ _ z => ⟨z.1, z.2.1, z.2.2.1, hPP _ _ _ _ _ _ _ _ z.2.2.2⟩)
  case multianewarray => exact am_i2_m (fun _ _ _ z => ⟨z.1, z.2.1, z.2.2.1, z.2.2.2.1, hPP _ _ _ _ _ _ _ _ z.2.2.2.2⟩)
  case faload => exact am_ir_m (fun _ _ _ z => ⟨z.1, hPP _ _ _ _ _ _ _ _ z.2⟩)
  case caload => exact am_ir_m (fun _ _ _ z => ⟨z.1, hPP _ _ _ _ _ _ _ _ z.2⟩)
  case aaload => exact am_ir_m (fun _ _ _ z => ⟨z.1, z.2.choose, z.2.choose_spec.1, hPP _ _ _ _ _ _ _ _ z.2.choose_spec.2⟩)
  case iastore => exact am_vir_m (fun _ _ _ _ z => ⟨z.1, am_int_m (fun _ w => hPP _ _ _ _ _ _ _ _ w) z.2⟩)
  case fastore => exact am_vir_m (fun _ _ _ _ z => ⟨z.1, am_flt_m (fun _ w => hPP _ _ _ _ _ _ _ _ w) z.2⟩)
  case castore => exact am_vir_m (fun _ _ _ _ z => ⟨z.1, am_int_m (fun _ w => hPP _ _ _ _ _ _ _ _ w) z.2⟩)
  case aastore => exact am_vir_m (fun _ _ _ _ z => ⟨z.1, am_ref_m (fun _ w => ⟨w.1, hPP _ _ _ _ _ _ _ _ w.2⟩) z.2⟩)
  case invokestatic => exact am_inv_m hPP
  case invokevirtual => exact am_inv_m hPP
  case invokespecial => exact am_inv_m hPP
  case ireturn => exact id
  case lreturn => exact id
  case freturn => exact id
  case return_ => exact id
  case lstore_n j =>
    intro z
    dsimp only [am_x] at z ⊢
    split at z
    · exact ⟨z.1, z.2.1, hPP _ _ _ _ _ _ _ _ z.2.2⟩
    · exact z.elim
  case ldc j =>
    intro z
    dsimp only [am_x] at z ⊢
    split at z
    · exact hPP _ _ _ _ _ _ _ _ z
    · exact hPP _ _ _ _ _ _ _ _ z
    · exact hPP _ _ _ _ _ _ _ _ z
    · exact z.elim
  case ldc_w j =>
    intro z
    dsimp only [am_x] at z ⊢
    split at z
    · exact hPP _ _ _ _ _ _ _ _ z
    · exact hPP _ _ _ _ _ _ _ _ z
    · exact hPP _ _ _ _ _ _ _ _ z
    · exact z.elim
  case dup =>
    intro z
    dsimp only [am_x] at z ⊢
    split at z
    · exact ⟨z.1, hPP _ _ _ _ _ _ _ _ z.2⟩
    · exact z.elim
  case dup2 =>
    intro z
    dsimp only [am_x] at z ⊢
    split at z
    · exact ⟨z.1, z.2.1, hPP _ _ _ _ _ _ _ _ z.2.2⟩
    · exact z.elim
  case pop =>
    intro z
    dsimp only [am_x] at z ⊢
    split at z
    · exact ⟨z.1, hPP _ _ _ _ _ _ _ _ z.2⟩
    · exact z.elim
  case getfield j =>
    refine am_r1_m (fun o r z => ?_)
    split at z
    · refine ⟨z.1, ?_⟩
      have z2 := z.2
      split at z2
      · exact hPP _ _ _ _ _ _ _ _ z2
      · exact hPP _ _ _ _ _ _ _ _ z2
    · refine ⟨z.1, ?_⟩
      have z2 := z.2
      split at z2
      · exact hPP _ _ _ _ _ _ _ _ z2
      · exact hPP _ _ _ _ _ _ _ _ z2
      · exact hPP _ _ _ _ _ _ _ _ z2
      · obtain ⟨q, h1, h2⟩ := z2
        exact ⟨q, h1, hPP _ _ _ _ _ _ _ _ h2⟩
  case putfield j =>
    refine am_vr_m (fun v o r z => ?_)
    refine ⟨z.1, ?_⟩
    have z2 := z.2
    split at z2
    · exact am_int_m (fun _ w => ⟨w.1, hPP _ _ _ _ _ _ _ _ w.2⟩) z2
    · exact am_long_m (fun _ w => hPP _ _ _ _ _ _ _ _ w) z2
    · exact am_flt_m (fun _ w => hPP _ _ _ _ _ _ _ _ w) z2
    · exact am_ref_m (fun _ w => ⟨w.1, hPP _ _ _ _ _ _ _ _ w.2⟩) z2
  case arraylength =>
    refine am_r1_m (fun o r z => ?_)
    split at z
    · exact ⟨z.1, hPP _ _ _ _ _ _ _ _ z.2⟩
    · exact ⟨z.1, hPP _ _ _ _ _ _ _ _ z.2⟩
    · exact ⟨z.1, hPP _ _ _ _ _ _ _ _ z.2⟩
  case iaload =>
    refine am_ir_m (fun o x r z => ?_)
    split at z
    · exact ⟨z.1, hPP _ _ _ _ _ _ _ _ z.2⟩
    · exact ⟨z.1, hPP _ _ _ _ _ _ _ _ z.2⟩
  case baload =>
    refine am_ir_m (fun o x r z => ?_)
    split at z
    · exact ⟨z.1, hPP _ _ _ _ _ _ _ _ z.2⟩
    · exact z.elim
  all_goals exact fun z => z.elim
theorem am_s_m {P P' : AP} (hPP : ∀ k pc L st h c s Q, P k pc L st h c s Q → P' k pc L st h c s Q) {k pc : Nat} {L : List (Option Value)} {st : List Value} {h : AH} {c s : Nat} {Q : AQ} (q : am_s P k pc L st h c s Q) : am_s P' k pc L st h c s Q := by
  unfold am_s at q ⊢
  split at q
  · exact q
  · split at q
    · exact am_x_m hPP _ q
    · exact q.elim
theorem WP.step {k pc : Nat} {L : List (Option Value)} {st : List Value} {h : AH} {c s : Nat} {Q : AQ} (q : am_s WP k pc L st h c s Q) : WP k pc L st h c s Q := fun P hP => hP k pc L st h c s Q (am_s_m (fun k pc L st h c s Q z => z P hP) q)
end AMM
