/-! own: methods as functions, written by a program -/
set_option maxRecDepth 100000
def f_X1_isFull (I : Nat → Nat → Int32) : Int32 := (if (I 1 1) < 40 then 0 else 1 : Int32)
theorem s_X1_isFull {X : Nat × (Nat × (Nat → Int32))} {I : Nat → Nat → Int32} {L : Nat → Nat → Int64} {F : Nat → Nat → UInt32} {Q : AQ}  (q : Q (.inl (some (.int (f_X1_isFull I)))) (G X I L F)) : WP mX1_isFull 0 (am_ent 1 [.ref 1]) [] (G X I L F) 0 0 Q := by
  unfold f_X1_isFull at q
  refine w_aload_n rX1_isFull_0 rfl ?_
  refine x_getI rX1_isFull_1 rfl rfl (G_is (by decide) rfl) ?_
  refine w_aload_n rX1_isFull_4 rfl ?_
  refine w_getR rX1_isFull_5 rfl rfl (G_is (by decide) rfl) (x := 2) rfl ?_
  refine G_lenc rX1_isFull_8 (by decide) rfl (n := 40) rfl (x := 40) (by decide) ?_
  have j9 : ∀ s9_0 : Int32, s9_0 = (if (I 1 1) < 40 then 0 else 1 : Int32) → WP mX1_isFull 17 [some (.ref 1)] [.int s9_0] (G X I L F) 0 0 Q := by
    intro s9_0 es9_0
    subst es9_0
    skip
    refine w_ireturn rX1_isFull_17 (show (if (I 1 1) < 40 then 0 else 1 : Int32) = 0 ∨ (if (I 1 1) < 40 then 0 else 1 : Int32) = 1 from by repeat' first | refine b01_ite ?_ ?_ | exact Or.inl rfl | exact Or.inr rfl) ?_
    exact q
  refine w_icmplt rX1_isFull_9 (fun h9 => ?_) (fun h9 => ?_)
  · skip
    refine w_iconst rX1_isFull_16 (x := 0) (by decide) ?_
    exact j9 _ (if_pos h9).symm
  · skip
    refine w_iconst rX1_isFull_12 (x := 1) (by decide) ?_
    refine w_goto rX1_isFull_13 ?_
    exact j9 _ (if_neg h9).symm
theorem b01_X1_isFull {I : Nat → Nat → Int32} : (f_X1_isFull I) = 0 ∨ (f_X1_isFull I) = 1 := by
  unfold f_X1_isFull
  repeat' first | refine b01_ite ?_ ?_ | exact Or.inl rfl | exact Or.inr rfl
def f_X1_add (ch : Int32) (I : Nat → Nat → Int32) : Int32 := ((if (I 1 1) < 0 then I else (if 40 ≤ (I 1 1) then I else (am_u (am_u I 2 (Int32.toNatClampNeg (I 1 1)) (vp_nar .char ch)) 1 1 ((I 1 1) + 1)) : Nat → Nat → Int32) : Nat → Nat → Int32) 1 1)
def fI_X1_add (ch : Int32) (I : Nat → Nat → Int32) : Nat → Nat → Int32 := (if (I 1 1) < 0 then I else (if 40 ≤ (I 1 1) then I else (am_u (am_u I 2 (Int32.toNatClampNeg (I 1 1)) (vp_nar .char ch)) 1 1 ((I 1 1) + 1)) : Nat → Nat → Int32) : Nat → Nat → Int32)
theorem s_X1_add {X : Nat × (Nat × (Nat → Int32))} {I : Nat → Nat → Int32} {L : Nat → Nat → Int64} {F : Nat → Nat → UInt32} {Q : AQ} {ch : Int32} (q : Q (.inl (some (.int (f_X1_add ch I)))) (G X (fI_X1_add ch I) L F)) : WP mX1_add 0 (am_ent 2 [.ref 1, .int ch]) [] (G X I L F) 0 0 Q := by
  unfold f_X1_add fI_X1_add at q
  refine w_aload_n rX1_add_0 rfl ?_
  refine x_getI rX1_add_1 rfl rfl (G_is (by decide) rfl) ?_
  have j4 : ∀ I4 : Nat → Nat → Int32, I4 = (if (I 1 1) < 0 then I else (if 40 ≤ (I 1 1) then I else (am_u (am_u I 2 (Int32.toNatClampNeg (I 1 1)) (vp_nar .char ch)) 1 1 ((I 1 1) + 1)) : Nat → Nat → Int32) : Nat → Nat → Int32) → WP mX1_add 39 [some (.ref 1), some (.int ch)] [] (G X I4 L F) 0 0 Q := by
    intro I4 eI4
    subst eI4
    skip
    refine w_aload_n rX1_add_39 rfl ?_
    refine x_getI rX1_add_40 rfl rfl (G_is (by decide) rfl) ?_
    refine w_ireturn rX1_add_43 trivial ?_
    exact q
  refine w_iflt rX1_add_4 (fun h4 => ?_) (fun h4 => ?_)
  · skip
    exact j4 _ (if_pos h4).symm
  · skip
    refine w_aload_n rX1_add_7 rfl ?_
    refine x_getI rX1_add_8 rfl rfl (G_is (by decide) rfl) ?_
    refine w_aload_n rX1_add_11 rfl ?_
    refine w_getR rX1_add_12 rfl rfl (G_is (by decide) rfl) (x := 2) rfl ?_
    refine G_lenc rX1_add_15 (by decide) rfl (n := 40) rfl (x := 40) (by decide) ?_
    refine w_icmpge rX1_add_16 (fun h16 => ?_) (fun h16 => ?_)
    · skip
      exact j4 _ ((if_neg h4).trans (if_pos h16)).symm
    · skip
      refine w_aload_n rX1_add_19 rfl ?_
      refine w_getR rX1_add_20 rfl rfl (G_is (by decide) rfl) (x := 2) rfl ?_
      refine w_aload_n rX1_add_23 rfl ?_
      refine x_getI rX1_add_24 rfl rfl (G_is (by decide) rfl) ?_
      refine w_iload_n rX1_add_27 rfl ?_
      refine x_castore rX1_add_28 (G_at (by decide) rfl rfl (vi_b (n := 40) (by decide) (by decide) h4 h16)) ?_
      refine w_aload_n rX1_add_29 rfl ?_
      refine w_dup rX1_add_30 trivial ?_
      refine x_getI rX1_add_31 rfl rfl (G_is (by decide) rfl) ?_
      rw [au_ne (f := I) (o := 2) (k := (Int32.toNatClampNeg (I 1 1))) (a := 1) (b := 1) (fun z => absurd z.1 (by decide))]
      refine w_iconst rX1_add_34 (x := 1) (by decide) ?_
      refine w_iadd rX1_add_35 ?_
      refine x_putI rX1_add_36 rfl (G_is (by decide) rfl) trivial ?_
      exact j4 _ ((if_neg h4).trans (if_neg h16)).symm
def f_X1_clear (I : Nat → Nat → Int32) : Int32 := (I 1 1)
def fI_X1_clear (I : Nat → Nat → Int32) : Nat → Nat → Int32 := (am_u I 1 1 0)
theorem s_X1_clear {X : Nat × (Nat × (Nat → Int32))} {I : Nat → Nat → Int32} {L : Nat → Nat → Int64} {F : Nat → Nat → UInt32} {Q : AQ}  (q : Q (.inl (some (.int (f_X1_clear I)))) (G X (fI_X1_clear I) L F)) : WP mX1_clear 0 (am_ent 2 [.ref 1]) [] (G X I L F) 0 0 Q := by
  unfold f_X1_clear fI_X1_clear at q
  refine w_aload_n rX1_clear_0 rfl ?_
  refine x_getI rX1_clear_1 rfl rfl (G_is (by decide) rfl) ?_
  refine w_istore_n rX1_clear_4 rfl trivial ?_
  refine w_aload_n rX1_clear_5 rfl ?_
  refine w_iconst rX1_clear_6 (x := 0) (by decide) ?_
  refine x_putI rX1_clear_7 rfl (G_is (by decide) rfl) trivial ?_
  refine w_iload_n rX1_clear_10 rfl ?_
  refine w_ireturn rX1_clear_11 trivial ?_
  exact q
def fI_X2_clear (o : Nat) (I : Nat → Nat → Int32) : Nat → Nat → Int32 := (am_u (am_u (am_u I o 2 0) o 3 0) o 4 0)
theorem s_X2_clear {X : Nat × (Nat × (Nat → Int32))} {I : Nat → Nat → Int32} {L : Nat → Nat → Int64} {F : Nat → Nat → UInt32} {Q : AQ} {o : Nat} (ho : isFor o) (q : Q (.inl none) (G X (fI_X2_clear o I) L F)) : WP mX2_clear 0 (am_ent 1 [.ref o]) [] (G X I L F) 0 0 Q := by
  unfold fI_X2_clear at q
  refine w_aload_n rX2_clear_0 rfl ?_
  refine w_iconst rX2_clear_1 (x := 0) (by decide) ?_
  refine x_putI rX2_clear_2 rfl (G_isk ho.1) trivial ?_
  refine w_aload_n rX2_clear_5 rfl ?_
  refine w_iconst rX2_clear_6 (x := 0) (by decide) ?_
  refine x_putI rX2_clear_7 rfl (G_isk ho.1) trivial ?_
  refine w_aload_n rX2_clear_10 rfl ?_
  refine w_iconst rX2_clear_11 (x := 0) (by decide) ?_
  refine x_putI rX2_clear_12 rfl (G_isk ho.1) trivial ?_
  refine w_return rX2_clear_15 ?_
  exact q
def fI_X2_add (o : Nat) (kind : Int32) (value : Int32) (I : Nat → Nat → Int32) : Nat → Nat → Int32 := (if (I o 2) < 0 then I else (if 40 ≤ (I o 2) then I else (am_u (am_u (am_u I (o + 1) (Int32.toNatClampNeg (I o 2)) kind) (o + 2) (Int32.toNatClampNeg (I o 2)) value) o 2 ((I o 2) + 1)) : Nat → Nat → Int32) : Nat → Nat → Int32)
theorem s_X2_add {X : Nat × (Nat × (Nat → Int32))} {I : Nat → Nat → Int32} {L : Nat → Nat → Int64} {F : Nat → Nat → UInt32} {Q : AQ} {o : Nat} {kind : Int32} {value : Int32} (ho : isFor o) (q : Q (.inl none) (G X (fI_X2_add o kind value I) L F)) : WP mX2_add 0 (am_ent 3 [.ref o, .int kind, .int value]) [] (G X I L F) 0 0 Q := by
  unfold fI_X2_add at q
  refine w_aload_n rX2_add_0 rfl ?_
  refine x_getI rX2_add_1 rfl rfl (G_isk ho.1) ?_
  have j4 : ∀ I4 : Nat → Nat → Int32, I4 = (if (I o 2) < 0 then I else (if 40 ≤ (I o 2) then I else (am_u (am_u (am_u I (o + 1) (Int32.toNatClampNeg (I o 2)) kind) (o + 2) (Int32.toNatClampNeg (I o 2)) value) o 2 ((I o 2) + 1)) : Nat → Nat → Int32) : Nat → Nat → Int32) → WP mX2_add 61 [some (.ref o), some (.int kind), some (.int value)] [] (G X I4 L F) 0 0 Q := by
    intro I4 eI4
    subst eI4
    skip
    refine w_return rX2_add_61 ?_
    exact q
  refine w_iflt rX2_add_4 (fun h4 => ?_) (fun h4 => ?_)
  · skip
    exact j4 _ (if_pos h4).symm
  · skip
    refine w_aload_n rX2_add_7 rfl ?_
    refine x_getI rX2_add_8 rfl rfl (G_isk ho.1) ?_
    refine w_aload_n rX2_add_11 rfl ?_
    refine w_getR rX2_add_12 rfl rfl (G_isk ho.1) ho.2.1 ?_
    refine G_lenk rX2_add_15 ho.2.2.2.1 (by decide) (x := 40) (by decide) ?_
    refine w_icmpge rX2_add_16 (fun h16 => ?_) (fun h16 => ?_)
    · skip
      exact j4 _ ((if_neg h4).trans (if_pos h16)).symm
    · skip
      refine w_aload_n rX2_add_19 rfl ?_
      refine x_getI rX2_add_20 rfl rfl (G_isk ho.1) ?_
      refine w_aload_n rX2_add_23 rfl ?_
      refine w_getR rX2_add_24 rfl rfl (G_isk ho.1) ho.2.2.1 ?_
      refine G_lenk rX2_add_27 ho.2.2.2.2 (by decide) (x := 40) (by decide) ?_
      refine w_icmpge rX2_add_28 (fun h => absurd h h16) (fun _ => ?_)
      refine w_aload_n rX2_add_31 rfl ?_
      refine w_getR rX2_add_32 rfl rfl (G_isk ho.1) ho.2.1 ?_
      refine w_aload_n rX2_add_35 rfl ?_
      refine x_getI rX2_add_36 rfl rfl (G_isk ho.1) ?_
      refine w_iload_n rX2_add_39 rfl ?_
      refine x_iastore rX2_add_40 (G_atk ho.2.2.2.1 (vi_b (n := 40) (by decide) (by decide) h4 h16)) ?_
      refine w_aload_n rX2_add_41 rfl ?_
      refine w_getR rX2_add_42 rfl rfl (G_isk ho.1) ho.2.2.1 ?_
      refine w_aload_n rX2_add_45 rfl ?_
      refine x_getI rX2_add_46 rfl rfl (G_isk ho.1) ?_
      rw [au_ne (f := I) (o := (o + 1)) (k := (Int32.toNatClampNeg (I o 2))) (a := o) (b := 2) (fun z => absurd z.1 (by omega))]
      refine w_iload_n rX2_add_49 rfl ?_
      refine x_iastore rX2_add_50 (G_atk ho.2.2.2.2 (vi_b (n := 40) (by decide) (by decide) h4 h16)) ?_
      refine w_aload_n rX2_add_51 rfl ?_
      refine w_dup rX2_add_52 trivial ?_
      refine x_getI rX2_add_53 rfl rfl (G_isk ho.1) ?_
      rw [au_ne (f := (am_u I (o + 1) (Int32.toNatClampNeg (I o 2)) kind)) (o := (o + 2)) (k := (Int32.toNatClampNeg (I o 2))) (a := o) (b := 2) (fun z => absurd z.1 (by omega))]
      rw [au_ne (f := I) (o := (o + 1)) (k := (Int32.toNatClampNeg (I o 2))) (a := o) (b := 2) (fun z => absurd z.1 (by omega))]
      refine w_iconst rX2_add_56 (x := 1) (by decide) ?_
      refine w_iadd rX2_add_57 ?_
      refine x_putI rX2_add_58 rfl (G_isk ho.1) trivial ?_
      exact j4 _ ((if_neg h4).trans (if_neg h16)).symm
def fI_X2_addName (o : Nat) (slot : Int32) (I : Nat → Nat → Int32) : Nat → Nat → Int32 := (if slot < 0 then (if slot < 3 then (if slot < 9 then (fI_X2_add o 1 slot I) else (if 15 ≤ slot then (fI_X2_add o 1 slot I) else (am_u (fI_X2_add o 1 slot I) o 3 (((fI_X2_add o 1 slot I) o 3) ||| ((1 : Int32) <<< ((slot - 9) &&& 31 : Int32)))) : Nat → Nat → Int32) : Nat → Nat → Int32) else (if 9 ≤ slot then (if slot < 9 then (fI_X2_add o 1 slot I) else (if 15 ≤ slot then (fI_X2_add o 1 slot I) else (am_u (fI_X2_add o 1 slot I) o 3 (((fI_X2_add o 1 slot I) o 3) ||| ((1 : Int32) <<< ((slot - 9) &&& 31 : Int32)))) : Nat → Nat → Int32) : Nat → Nat → Int32) else (am_u (fI_X2_add o 1 slot I) o 3 (((fI_X2_add o 1 slot I) o 3) ||| ((1 : Int32) <<< ((slot - 3) &&& 31 : Int32)))) : Nat → Nat → Int32) : Nat → Nat → Int32) else (if 3 ≤ slot then (if slot < 3 then (if slot < 9 then (fI_X2_add o 1 slot I) else (if 15 ≤ slot then (fI_X2_add o 1 slot I) else (am_u (fI_X2_add o 1 slot I) o 3 (((fI_X2_add o 1 slot I) o 3) ||| ((1 : Int32) <<< ((slot - 9) &&& 31 : Int32)))) : Nat → Nat → Int32) : Nat → Nat → Int32) else (if 9 ≤ slot then (if slot < 9 then (fI_X2_add o 1 slot I) else (if 15 ≤ slot then (fI_X2_add o 1 slot I) else (am_u (fI_X2_add o 1 slot I) o 3 (((fI_X2_add o 1 slot I) o 3) ||| ((1 : Int32) <<< ((slot - 9) &&& 31 : Int32)))) : Nat → Nat → Int32) : Nat → Nat → Int32) else (am_u (fI_X2_add o 1 slot I) o 3 (((fI_X2_add o 1 slot I) o 3) ||| ((1 : Int32) <<< ((slot - 3) &&& 31 : Int32)))) : Nat → Nat → Int32) : Nat → Nat → Int32) else (am_u (fI_X2_add o 1 slot I) o 4 (((fI_X2_add o 1 slot I) o 4) ||| ((1 : Int32) <<< ((slot - 0) &&& 31 : Int32)))) : Nat → Nat → Int32) : Nat → Nat → Int32)
theorem s_X2_addName {X : Nat × (Nat × (Nat → Int32))} {I : Nat → Nat → Int32} {L : Nat → Nat → Int64} {F : Nat → Nat → UInt32} {Q : AQ} {o : Nat} {slot : Int32} (ho : isFor o) (q : Q (.inl none) (G X (fI_X2_addName o slot I) L F)) : WP mX2_addName 0 (am_ent 2 [.ref o, .int slot]) [] (G X I L F) 0 0 Q := by
  unfold fI_X2_addName at q
  refine w_aload_n rX2_addName_0 rfl ?_
  refine w_iconst rX2_addName_1 (x := 1) (by decide) ?_
  refine w_iload_n rX2_addName_2 rfl ?_
  refine w_invokevirtual rX2_addName_3 rfl rfl rfl (Nat.le_of_ble_eq_true rfl) ⟨trivial, trivial, trivial, trivial⟩ (G_isk ho.1) (by decide) (by decide) ?_
  refine s_X2_add ho ?_
  show WP mX2_addName 6 _ _ _ 0 0 _
  refine w_iload_n rX2_addName_6 rfl ?_
  have j7 : ∀ I7 : Nat → Nat → Int32, I7 = (if slot < 0 then (if slot < 3 then (if slot < 9 then (fI_X2_add o 1 slot I) else (if 15 ≤ slot then (fI_X2_add o 1 slot I) else (am_u (fI_X2_add o 1 slot I) o 3 (((fI_X2_add o 1 slot I) o 3) ||| ((1 : Int32) <<< ((slot - 9) &&& 31 : Int32)))) : Nat → Nat → Int32) : Nat → Nat → Int32) else (if 9 ≤ slot then (if slot < 9 then (fI_X2_add o 1 slot I) else (if 15 ≤ slot then (fI_X2_add o 1 slot I) else (am_u (fI_X2_add o 1 slot I) o 3 (((fI_X2_add o 1 slot I) o 3) ||| ((1 : Int32) <<< ((slot - 9) &&& 31 : Int32)))) : Nat → Nat → Int32) : Nat → Nat → Int32) else (am_u (fI_X2_add o 1 slot I) o 3 (((fI_X2_add o 1 slot I) o 3) ||| ((1 : Int32) <<< ((slot - 3) &&& 31 : Int32)))) : Nat → Nat → Int32) : Nat → Nat → Int32) else (if 3 ≤ slot then (if slot < 3 then (if slot < 9 then (fI_X2_add o 1 slot I) else (if 15 ≤ slot then (fI_X2_add o 1 slot I) else (am_u (fI_X2_add o 1 slot I) o 3 (((fI_X2_add o 1 slot I) o 3) ||| ((1 : Int32) <<< ((slot - 9) &&& 31 : Int32)))) : Nat → Nat → Int32) : Nat → Nat → Int32) else (if 9 ≤ slot then (if slot < 9 then (fI_X2_add o 1 slot I) else (if 15 ≤ slot then (fI_X2_add o 1 slot I) else (am_u (fI_X2_add o 1 slot I) o 3 (((fI_X2_add o 1 slot I) o 3) ||| ((1 : Int32) <<< ((slot - 9) &&& 31 : Int32)))) : Nat → Nat → Int32) : Nat → Nat → Int32) else (am_u (fI_X2_add o 1 slot I) o 3 (((fI_X2_add o 1 slot I) o 3) ||| ((1 : Int32) <<< ((slot - 3) &&& 31 : Int32)))) : Nat → Nat → Int32) : Nat → Nat → Int32) else (am_u (fI_X2_add o 1 slot I) o 4 (((fI_X2_add o 1 slot I) o 4) ||| ((1 : Int32) <<< ((slot - 0) &&& 31 : Int32)))) : Nat → Nat → Int32) : Nat → Nat → Int32) → WP mX2_addName 87 [some (.ref o), some (.int slot)] [] (G X I7 L F) 0 0 Q := by
    intro I7 eI7
    subst eI7
    skip
    refine w_return rX2_addName_87 ?_
    exact q
  refine w_iflt rX2_addName_7 (fun h7 => ?_) (fun h7 => ?_)
  · skip
    refine w_iload_n rX2_addName_32 rfl ?_
    refine w_iconst rX2_addName_33 (x := 3) (by decide) ?_
    refine w_icmplt rX2_addName_34 (fun h34 => ?_) (fun h34 => ?_)
    · skip
      refine w_iload_n rX2_addName_60 rfl ?_
      refine w_bipush rX2_addName_61 (x := 9) (by decide) ?_
      refine w_icmplt rX2_addName_63 (fun h63 => ?_) (fun h63 => ?_)
      · skip
        exact j7 _ (((if_pos h7).trans (if_pos h34)).trans (if_pos h63)).symm
      · skip
        refine w_iload_n rX2_addName_66 rfl ?_
        refine w_bipush rX2_addName_67 (x := 15) (by decide) ?_
        refine w_icmpge rX2_addName_69 (fun h69 => ?_) (fun h69 => ?_)
        · skip
          exact j7 _ ((((if_pos h7).trans (if_pos h34)).trans (if_neg h63)).trans (if_pos h69)).symm
        · skip
          refine w_aload_n rX2_addName_72 rfl ?_
          refine w_dup rX2_addName_73 trivial ?_
          refine x_getI rX2_addName_74 rfl rfl (G_isk ho.1) ?_
          refine w_iconst rX2_addName_77 (x := 1) (by decide) ?_
          refine w_iload_n rX2_addName_78 rfl ?_
          refine w_bipush rX2_addName_79 (x := 9) (by decide) ?_
          refine w_isub rX2_addName_81 ?_
          refine w_ishl rX2_addName_82 ?_
          refine w_ior rX2_addName_83 ?_
          refine x_putI rX2_addName_84 rfl (G_isk ho.1) trivial ?_
          exact j7 _ ((((if_pos h7).trans (if_pos h34)).trans (if_neg h63)).trans (if_neg h69)).symm
    · skip
      refine w_iload_n rX2_addName_37 rfl ?_
      refine w_bipush rX2_addName_38 (x := 9) (by decide) ?_
      refine w_icmpge rX2_addName_40 (fun h40 => ?_) (fun h40 => ?_)
      · skip
        refine w_iload_n rX2_addName_60 rfl ?_
        refine w_bipush rX2_addName_61 (x := 9) (by decide) ?_
        refine w_icmplt rX2_addName_63 (fun h63 => ?_) (fun h63 => ?_)
        · skip
          exact j7 _ ((((if_pos h7).trans (if_neg h34)).trans (if_pos h40)).trans (if_pos h63)).symm
        · skip
          refine w_iload_n rX2_addName_66 rfl ?_
          refine w_bipush rX2_addName_67 (x := 15) (by decide) ?_
          refine w_icmpge rX2_addName_69 (fun h69 => ?_) (fun h69 => ?_)
          · skip
            exact j7 _ (((((if_pos h7).trans (if_neg h34)).trans (if_pos h40)).trans (if_neg h63)).trans (if_pos h69)).symm
          · skip
            refine w_aload_n rX2_addName_72 rfl ?_
            refine w_dup rX2_addName_73 trivial ?_
            refine x_getI rX2_addName_74 rfl rfl (G_isk ho.1) ?_
            refine w_iconst rX2_addName_77 (x := 1) (by decide) ?_
            refine w_iload_n rX2_addName_78 rfl ?_
            refine w_bipush rX2_addName_79 (x := 9) (by decide) ?_
            refine w_isub rX2_addName_81 ?_
            refine w_ishl rX2_addName_82 ?_
            refine w_ior rX2_addName_83 ?_
            refine x_putI rX2_addName_84 rfl (G_isk ho.1) trivial ?_
            exact j7 _ (((((if_pos h7).trans (if_neg h34)).trans (if_pos h40)).trans (if_neg h63)).trans (if_neg h69)).symm
      · skip
        refine w_aload_n rX2_addName_43 rfl ?_
        refine w_dup rX2_addName_44 trivial ?_
        refine x_getI rX2_addName_45 rfl rfl (G_isk ho.1) ?_
        refine w_iconst rX2_addName_48 (x := 1) (by decide) ?_
        refine w_iload_n rX2_addName_49 rfl ?_
        refine w_iconst rX2_addName_50 (x := 3) (by decide) ?_
        refine w_isub rX2_addName_51 ?_
        refine w_ishl rX2_addName_52 ?_
        refine w_ior rX2_addName_53 ?_
        refine x_putI rX2_addName_54 rfl (G_isk ho.1) trivial ?_
        refine w_goto rX2_addName_57 ?_
        exact j7 _ (((if_pos h7).trans (if_neg h34)).trans (if_neg h40)).symm
  · skip
    refine w_iload_n rX2_addName_10 rfl ?_
    refine w_iconst rX2_addName_11 (x := 3) (by decide) ?_
    refine w_icmpge rX2_addName_12 (fun h12 => ?_) (fun h12 => ?_)
    · skip
      refine w_iload_n rX2_addName_32 rfl ?_
      refine w_iconst rX2_addName_33 (x := 3) (by decide) ?_
      refine w_icmplt rX2_addName_34 (fun h34 => ?_) (fun h34 => ?_)
      · skip
        refine w_iload_n rX2_addName_60 rfl ?_
        refine w_bipush rX2_addName_61 (x := 9) (by decide) ?_
        refine w_icmplt rX2_addName_63 (fun h63 => ?_) (fun h63 => ?_)
        · skip
          exact j7 _ ((((if_neg h7).trans (if_pos h12)).trans (if_pos h34)).trans (if_pos h63)).symm
        · skip
          refine w_iload_n rX2_addName_66 rfl ?_
          refine w_bipush rX2_addName_67 (x := 15) (by decide) ?_
          refine w_icmpge rX2_addName_69 (fun h69 => ?_) (fun h69 => ?_)
          · skip
            exact j7 _ (((((if_neg h7).trans (if_pos h12)).trans (if_pos h34)).trans (if_neg h63)).trans (if_pos h69)).symm
          · skip
            refine w_aload_n rX2_addName_72 rfl ?_
            refine w_dup rX2_addName_73 trivial ?_
            refine x_getI rX2_addName_74 rfl rfl (G_isk ho.1) ?_
            refine w_iconst rX2_addName_77 (x := 1) (by decide) ?_
            refine w_iload_n rX2_addName_78 rfl ?_
            refine w_bipush rX2_addName_79 (x := 9) (by decide) ?_
            refine w_isub rX2_addName_81 ?_
            refine w_ishl rX2_addName_82 ?_
            refine w_ior rX2_addName_83 ?_
            refine x_putI rX2_addName_84 rfl (G_isk ho.1) trivial ?_
            exact j7 _ (((((if_neg h7).trans (if_pos h12)).trans (if_pos h34)).trans (if_neg h63)).trans (if_neg h69)).symm
      · skip
        refine w_iload_n rX2_addName_37 rfl ?_
        refine w_bipush rX2_addName_38 (x := 9) (by decide) ?_
        refine w_icmpge rX2_addName_40 (fun h40 => ?_) (fun h40 => ?_)
        · skip
          refine w_iload_n rX2_addName_60 rfl ?_
          refine w_bipush rX2_addName_61 (x := 9) (by decide) ?_
          refine w_icmplt rX2_addName_63 (fun h63 => ?_) (fun h63 => ?_)
          · skip
            exact j7 _ (((((if_neg h7).trans (if_pos h12)).trans (if_neg h34)).trans (if_pos h40)).trans (if_pos h63)).symm
          · skip
            refine w_iload_n rX2_addName_66 rfl ?_
            refine w_bipush rX2_addName_67 (x := 15) (by decide) ?_
            refine w_icmpge rX2_addName_69 (fun h69 => ?_) (fun h69 => ?_)
            · skip
              exact j7 _ ((((((if_neg h7).trans (if_pos h12)).trans (if_neg h34)).trans (if_pos h40)).trans (if_neg h63)).trans (if_pos h69)).symm
            · skip
              refine w_aload_n rX2_addName_72 rfl ?_
              refine w_dup rX2_addName_73 trivial ?_
              refine x_getI rX2_addName_74 rfl rfl (G_isk ho.1) ?_
              refine w_iconst rX2_addName_77 (x := 1) (by decide) ?_
              refine w_iload_n rX2_addName_78 rfl ?_
              refine w_bipush rX2_addName_79 (x := 9) (by decide) ?_
              refine w_isub rX2_addName_81 ?_
              refine w_ishl rX2_addName_82 ?_
              refine w_ior rX2_addName_83 ?_
              refine x_putI rX2_addName_84 rfl (G_isk ho.1) trivial ?_
              exact j7 _ ((((((if_neg h7).trans (if_pos h12)).trans (if_neg h34)).trans (if_pos h40)).trans (if_neg h63)).trans (if_neg h69)).symm
        · skip
          refine w_aload_n rX2_addName_43 rfl ?_
          refine w_dup rX2_addName_44 trivial ?_
          refine x_getI rX2_addName_45 rfl rfl (G_isk ho.1) ?_
          refine w_iconst rX2_addName_48 (x := 1) (by decide) ?_
          refine w_iload_n rX2_addName_49 rfl ?_
          refine w_iconst rX2_addName_50 (x := 3) (by decide) ?_
          refine w_isub rX2_addName_51 ?_
          refine w_ishl rX2_addName_52 ?_
          refine w_ior rX2_addName_53 ?_
          refine x_putI rX2_addName_54 rfl (G_isk ho.1) trivial ?_
          refine w_goto rX2_addName_57 ?_
          exact j7 _ ((((if_neg h7).trans (if_pos h12)).trans (if_neg h34)).trans (if_neg h40)).symm
    · skip
      refine w_aload_n rX2_addName_15 rfl ?_
      refine w_dup rX2_addName_16 trivial ?_
      refine x_getI rX2_addName_17 rfl rfl (G_isk ho.1) ?_
      refine w_iconst rX2_addName_20 (x := 1) (by decide) ?_
      refine w_iload_n rX2_addName_21 rfl ?_
      refine w_iconst rX2_addName_22 (x := 0) (by decide) ?_
      refine w_isub rX2_addName_23 ?_
      refine w_ishl rX2_addName_24 ?_
      refine w_ior rX2_addName_25 ?_
      refine x_putI rX2_addName_26 rfl (G_isk ho.1) trivial ?_
      refine w_goto rX2_addName_29 ?_
      exact j7 _ ((if_neg h7).trans (if_neg h12)).symm
def f_X3_startsNumber (fig : Int32) : Int32 := 1
def fI_X3_startsNumber (fig : Int32) (I : Nat → Nat → Int32) : Nat → Nat → Int32 := (am_u (am_u (am_u I 3 6 fig) 3 7 1) 3 4 1)
theorem s_X3_startsNumber {X : Nat × (Nat × (Nat → Int32))} {I : Nat → Nat → Int32} {L : Nat → Nat → Int64} {F : Nat → Nat → UInt32} {Q : AQ} {fig : Int32} (q : Q (.inl (some (.int (f_X3_startsNumber fig)))) (G X (fI_X3_startsNumber fig I) L F)) : WP mX3_startsNumber 0 (am_ent 2 [.ref 3, .int fig]) [] (G X I L F) 0 0 Q := by
  unfold f_X3_startsNumber fI_X3_startsNumber at q
  refine w_aload_n rX3_startsNumber_0 rfl ?_
  refine w_iload_n rX3_startsNumber_1 rfl ?_
  refine x_putI rX3_startsNumber_2 rfl (G_is (by decide) rfl) trivial ?_
  refine w_aload_n rX3_startsNumber_5 rfl ?_
  refine w_iconst rX3_startsNumber_6 (x := 1) (by decide) ?_
  refine x_putI rX3_startsNumber_7 rfl (G_is (by decide) rfl) trivial ?_
  refine w_aload_n rX3_startsNumber_10 rfl ?_
  refine w_iconst rX3_startsNumber_11 (x := 1) (by decide) ?_
  refine x_putI rX3_startsNumber_12 rfl (G_is (by decide) rfl) trivial ?_
  refine w_iconst rX3_startsNumber_15 (x := 1) (by decide) ?_
  refine w_ireturn rX3_startsNumber_16 (Or.inr rfl) ?_
  exact q
theorem b01_X3_startsNumber {fig : Int32} : (f_X3_startsNumber fig) = 0 ∨ (f_X3_startsNumber fig) = 1 := by
  unfold f_X3_startsNumber
  repeat' first | refine b01_ite ?_ ?_ | exact Or.inl rfl | exact Or.inr rfl
def f_X3_endsName (slot : Int32) : Int32 := 1
def fI_X3_endsName (slot : Int32) (I : Nat → Nat → Int32) : Nat → Nat → Int32 := (am_u (fI_X2_addName 4 slot I) 3 4 6)
theorem s_X3_endsName {X : Nat × (Nat × (Nat → Int32))} {I : Nat → Nat → Int32} {L : Nat → Nat → Int64} {F : Nat → Nat → UInt32} {Q : AQ} {slot : Int32} (q : Q (.inl (some (.int (f_X3_endsName slot)))) (G X (fI_X3_endsName slot I) L F)) : WP mX3_endsName 0 (am_ent 2 [.ref 3, .int slot]) [] (G X I L F) 0 0 Q := by
  unfold f_X3_endsName fI_X3_endsName at q
  refine w_aload_n rX3_endsName_0 rfl ?_
  refine w_getR rX3_endsName_1 rfl rfl (G_is (by decide) rfl) (x := 4) rfl ?_
  refine w_iload_n rX3_endsName_4 rfl ?_
  refine w_invokevirtual rX3_endsName_5 rfl rfl rfl (Nat.le_of_ble_eq_true rfl) ⟨trivial, trivial, trivial⟩ (G_is (by decide) rfl) (by decide) (by decide) ?_
  refine s_X2_addName isFor_4 ?_
  show WP mX3_endsName 8 _ _ _ 0 0 _
  refine w_aload_n rX3_endsName_8 rfl ?_
  refine w_bipush rX3_endsName_9 (x := 6) (by decide) ?_
  refine x_putI rX3_endsName_11 rfl (G_is (by decide) rfl) trivial ?_
  refine w_iconst rX3_endsName_14 (x := 1) (by decide) ?_
  refine w_ireturn rX3_endsName_15 (Or.inr rfl) ?_
  exact q
theorem b01_X3_endsName {slot : Int32} : (f_X3_endsName slot) = 0 ∨ (f_X3_endsName slot) = 1 := by
  unfold f_X3_endsName
  repeat' first | refine b01_ite ?_ ?_ | exact Or.inl rfl | exact Or.inr rfl
def f_X3_startsName (slot : Int32) (figs : Int32) : Int32 := 1
def fI_X3_startsName (slot : Int32) (figs : Int32) (I : Nat → Nat → Int32) : Nat → Nat → Int32 := (am_u (am_u (am_u I 3 8 slot) 3 9 figs) 3 4 4)
theorem s_X3_startsName {X : Nat × (Nat × (Nat → Int32))} {I : Nat → Nat → Int32} {L : Nat → Nat → Int64} {F : Nat → Nat → UInt32} {Q : AQ} {slot : Int32} {figs : Int32} (q : Q (.inl (some (.int (f_X3_startsName slot figs)))) (G X (fI_X3_startsName slot figs I) L F)) : WP mX3_startsName 0 (am_ent 3 [.ref 3, .int slot, .int figs]) [] (G X I L F) 0 0 Q := by
  unfold f_X3_startsName fI_X3_startsName at q
  refine w_aload_n rX3_startsName_0 rfl ?_
  refine w_iload_n rX3_startsName_1 rfl ?_
  refine x_putI rX3_startsName_2 rfl (G_is (by decide) rfl) trivial ?_
  refine w_aload_n rX3_startsName_5 rfl ?_
  refine w_iload_n rX3_startsName_6 rfl ?_
  refine x_putI rX3_startsName_7 rfl (G_is (by decide) rfl) trivial ?_
  refine w_aload_n rX3_startsName_10 rfl ?_
  refine w_iconst rX3_startsName_11 (x := 4) (by decide) ?_
  refine x_putI rX3_startsName_12 rfl (G_is (by decide) rfl) trivial ?_
  refine w_iconst rX3_startsName_15 (x := 1) (by decide) ?_
  refine w_ireturn rX3_startsName_16 (Or.inr rfl) ?_
  exact q
theorem b01_X3_startsName {slot : Int32} {figs : Int32} : (f_X3_startsName slot figs) = 0 ∨ (f_X3_startsName slot figs) = 1 := by
  unfold f_X3_startsName
  repeat' first | refine b01_ite ?_ ?_ | exact Or.inl rfl | exact Or.inr rfl
def f_X3_takesFigure (fig : Int32) (I : Nat → Nat → Int32) : Int32 := (if (if (I 3 4) = 1 then (if (I 3 7) < 3 then 1 else (if (I 3 4) = 2 then 1 else (if (I 3 4) = 3 then 1 else 0 : Int32) : Int32) : Int32) else (if (I 3 4) = 2 then 1 else (if (I 3 4) = 3 then 1 else 0 : Int32) : Int32) : Int32) = 0 then 0 else 1 : Int32)
def fI_X3_takesFigure (fig : Int32) (I : Nat → Nat → Int32) : Nat → Nat → Int32 := (if (if (I 3 4) = 1 then (if (I 3 7) < 3 then 1 else (if (I 3 4) = 2 then 1 else (if (I 3 4) = 3 then 1 else 0 : Int32) : Int32) : Int32) else (if (I 3 4) = 2 then 1 else (if (I 3 4) = 3 then 1 else 0 : Int32) : Int32) : Int32) = 0 then I else (if (I 3 4) = 2 then (am_u (am_u (am_u I 3 6 (((I 3 6) * 10) + fig)) 3 7 ((I 3 7) + 1)) 3 4 3) else (if (I 3 4) = 3 then (am_u (fI_X2_add 4 0 (((I 3 6) * 10) + fig) (am_u (am_u I 3 6 (((I 3 6) * 10) + fig)) 3 7 ((I 3 7) + 1))) 3 4 6) else (am_u (am_u I 3 6 (((I 3 6) * 10) + fig)) 3 7 ((I 3 7) + 1)) : Nat → Nat → Int32) : Nat → Nat → Int32) : Nat → Nat → Int32)
theorem s_X3_takesFigure {X : Nat × (Nat × (Nat → Int32))} {I : Nat → Nat → Int32} {L : Nat → Nat → Int64} {F : Nat → Nat → UInt32} {Q : AQ} {fig : Int32} (q : Q (.inl (some (.int (f_X3_takesFigure fig I)))) (G X (fI_X3_takesFigure fig I) L F)) : WP mX3_takesFigure 0 (am_ent 3 [.ref 3, .int fig]) [] (G X I L F) 0 0 Q := by
  unfold f_X3_takesFigure fI_X3_takesFigure at q
  refine w_aload_n rX3_takesFigure_0 rfl ?_
  refine x_getI rX3_takesFigure_1 rfl rfl (G_is (by decide) rfl) ?_
  refine w_iconst rX3_takesFigure_4 (x := 1) (by decide) ?_
  have j5 : ∀ s5_0 : Int32, s5_0 = (if (I 3 4) = 1 then (if (I 3 7) < 3 then 1 else (if (I 3 4) = 2 then 1 else (if (I 3 4) = 3 then 1 else 0 : Int32) : Int32) : Int32) else (if (I 3 4) = 2 then 1 else (if (I 3 4) = 3 then 1 else 0 : Int32) : Int32) : Int32) → WP mX3_takesFigure 37 [some (.ref 3), some (.int fig), none] [.int s5_0] (G X I L F) 0 0 Q := by
    intro s5_0 es5_0
    subst es5_0
    skip
    refine w_istore_n rX3_takesFigure_37 rfl trivial ?_
    refine w_iload_n rX3_takesFigure_38 rfl ?_
    have j39 : ∀ I39 : Nat → Nat → Int32, I39 = (if (if (I 3 4) = 1 then (if (I 3 7) < 3 then 1 else (if (I 3 4) = 2 then 1 else (if (I 3 4) = 3 then 1 else 0 : Int32) : Int32) : Int32) else (if (I 3 4) = 2 then 1 else (if (I 3 4) = 3 then 1 else 0 : Int32) : Int32) : Int32) = 0 then I else (if (I 3 4) = 2 then (am_u (am_u (am_u I 3 6 (((I 3 6) * 10) + fig)) 3 7 ((I 3 7) + 1)) 3 4 3) else (if (I 3 4) = 3 then (am_u (fI_X2_add 4 0 (((I 3 6) * 10) + fig) (am_u (am_u I 3 6 (((I 3 6) * 10) + fig)) 3 7 ((I 3 7) + 1))) 3 4 6) else (am_u (am_u I 3 6 (((I 3 6) * 10) + fig)) 3 7 ((I 3 7) + 1)) : Nat → Nat → Int32) : Nat → Nat → Int32) : Nat → Nat → Int32) → ∀ s39_0 : Int32, s39_0 = (if (if (I 3 4) = 1 then (if (I 3 7) < 3 then 1 else (if (I 3 4) = 2 then 1 else (if (I 3 4) = 3 then 1 else 0 : Int32) : Int32) : Int32) else (if (I 3 4) = 2 then 1 else (if (I 3 4) = 3 then 1 else 0 : Int32) : Int32) : Int32) = 0 then 0 else 1 : Int32) → Q (.inl (some (.int s39_0))) (G X I39 L F) := by
      intro I39 eI39 s39_0 es39_0
      subst eI39
      subst es39_0
      skip
      exact q
    refine w_ifne rX3_takesFigure_39 (fun h39 => ?_) (fun h39 => ?_)
    · skip
      refine w_aload_n rX3_takesFigure_44 rfl ?_
      refine w_aload_n rX3_takesFigure_45 rfl ?_
      refine x_getI rX3_takesFigure_46 rfl rfl (G_is (by decide) rfl) ?_
      refine w_bipush rX3_takesFigure_49 (x := 10) (by decide) ?_
      refine w_imul rX3_takesFigure_51 ?_
      refine w_iload_n rX3_takesFigure_52 rfl ?_
      refine w_iadd rX3_takesFigure_53 ?_
      refine x_putI rX3_takesFigure_54 rfl (G_is (by decide) rfl) trivial ?_
      refine w_aload_n rX3_takesFigure_57 rfl ?_
      refine w_dup rX3_takesFigure_58 trivial ?_
      refine x_getI rX3_takesFigure_59 rfl rfl (G_is (by decide) rfl) ?_
      rw [au_ne (f := I) (o := 3) (k := 6) (a := 3) (b := 7) (fun z => absurd z.2 (by decide))]
      refine w_iconst rX3_takesFigure_62 (x := 1) (by decide) ?_
      refine w_iadd rX3_takesFigure_63 ?_
      refine x_putI rX3_takesFigure_64 rfl (G_is (by decide) rfl) trivial ?_
      refine w_aload_n rX3_takesFigure_67 rfl ?_
      refine x_getI rX3_takesFigure_68 rfl rfl (G_is (by decide) rfl) ?_
      rw [au_ne (f := (am_u I 3 6 (((I 3 6) * 10) + fig))) (o := 3) (k := 7) (a := 3) (b := 4) (fun z => absurd z.2 (by decide))]
      rw [au_ne (f := I) (o := 3) (k := 6) (a := 3) (b := 4) (fun z => absurd z.2 (by decide))]
      refine w_iconst rX3_takesFigure_71 (x := 2) (by decide) ?_
      have j72 : ∀ I72 : Nat → Nat → Int32, I72 = (if (I 3 4) = 2 then (am_u (am_u (am_u I 3 6 (((I 3 6) * 10) + fig)) 3 7 ((I 3 7) + 1)) 3 4 3) else (if (I 3 4) = 3 then (am_u (fI_X2_add 4 0 (((I 3 6) * 10) + fig) (am_u (am_u I 3 6 (((I 3 6) * 10) + fig)) 3 7 ((I 3 7) + 1))) 3 4 6) else (am_u (am_u I 3 6 (((I 3 6) * 10) + fig)) 3 7 ((I 3 7) + 1)) : Nat → Nat → Int32) : Nat → Nat → Int32) → WP mX3_takesFigure 109 [some (.ref 3), some (.int fig), some (.int (if (I 3 4) = 1 then (if (I 3 7) < 3 then 1 else (if (I 3 4) = 2 then 1 else (if (I 3 4) = 3 then 1 else 0 : Int32) : Int32) : Int32) else (if (I 3 4) = 2 then 1 else (if (I 3 4) = 3 then 1 else 0 : Int32) : Int32) : Int32))] [] (G X I72 L F) 0 0 Q := by
        intro I72 eI72
        subst eI72
        skip
        refine w_iconst rX3_takesFigure_109 (x := 1) (by decide) ?_
        refine w_ireturn rX3_takesFigure_110 (Or.inr rfl) ?_
        exact j39 _ (if_neg h39).symm _ (if_neg h39).symm
      refine w_icmpne rX3_takesFigure_72 (fun h72 => ?_) (fun h72 => ?_)
      · skip
        refine w_aload_n rX3_takesFigure_83 rfl ?_
        refine x_getI rX3_takesFigure_84 rfl rfl (G_is (by decide) rfl) ?_
        rw [au_ne (f := (am_u I 3 6 (((I 3 6) * 10) + fig))) (o := 3) (k := 7) (a := 3) (b := 4) (fun z => absurd z.2 (by decide))]
        rw [au_ne (f := I) (o := 3) (k := 6) (a := 3) (b := 4) (fun z => absurd z.2 (by decide))]
        refine w_iconst rX3_takesFigure_87 (x := 3) (by decide) ?_
        refine w_icmpne rX3_takesFigure_88 (fun h88 => ?_) (fun h88 => ?_)
        · skip
          exact j72 _ ((if_neg h72).trans (if_neg h88)).symm
        · skip
          refine w_aload_n rX3_takesFigure_91 rfl ?_
          refine w_getR rX3_takesFigure_92 rfl rfl (G_is (by decide) rfl) (x := 4) rfl ?_
          refine w_iconst rX3_takesFigure_95 (x := 0) (by decide) ?_
          refine w_aload_n rX3_takesFigure_96 rfl ?_
          refine x_getI rX3_takesFigure_97 rfl rfl (G_is (by decide) rfl) ?_
          rw [au_ne (f := (am_u I 3 6 (((I 3 6) * 10) + fig))) (o := 3) (k := 7) (a := 3) (b := 6) (fun z => absurd z.2 (by decide))]
          rw [am_u_eq (f := I) (o := 3) (k := 6)]
          refine w_invokevirtual rX3_takesFigure_100 rfl rfl rfl (Nat.le_of_ble_eq_true rfl) ⟨trivial, trivial, trivial, trivial⟩ (G_is (by decide) rfl) (by decide) (by decide) ?_
          refine s_X2_add isFor_4 ?_
          show WP mX3_takesFigure 103 _ _ _ 0 0 _
          refine w_aload_n rX3_takesFigure_103 rfl ?_
          refine w_bipush rX3_takesFigure_104 (x := 6) (by decide) ?_
          refine x_putI rX3_takesFigure_106 rfl (G_is (by decide) rfl) trivial ?_
          exact j72 _ ((if_neg h72).trans (if_pos h88)).symm
      · skip
        refine w_aload_n rX3_takesFigure_75 rfl ?_
        refine w_iconst rX3_takesFigure_76 (x := 3) (by decide) ?_
        refine x_putI rX3_takesFigure_77 rfl (G_is (by decide) rfl) trivial ?_
        refine w_goto rX3_takesFigure_80 ?_
        exact j72 _ (if_pos h72).symm
    · skip
      refine w_iconst rX3_takesFigure_42 (x := 0) (by decide) ?_
      refine w_ireturn rX3_takesFigure_43 (Or.inl rfl) ?_
      exact j39 _ (if_pos h39).symm _ (if_pos h39).symm
  refine w_icmpne rX3_takesFigure_5 (fun h5 => ?_) (fun h5 => ?_)
  · skip
    refine w_aload_n rX3_takesFigure_16 rfl ?_
    refine x_getI rX3_takesFigure_17 rfl rfl (G_is (by decide) rfl) ?_
    refine w_iconst rX3_takesFigure_20 (x := 2) (by decide) ?_
    refine w_icmpeq rX3_takesFigure_21 (fun h21 => ?_) (fun h21 => ?_)
    · skip
      refine w_iconst rX3_takesFigure_32 (x := 1) (by decide) ?_
      refine w_goto rX3_takesFigure_33 ?_
      exact j5 _ ((if_neg h5).trans (if_pos h21)).symm
    · skip
      refine w_aload_n rX3_takesFigure_24 rfl ?_
      refine x_getI rX3_takesFigure_25 rfl rfl (G_is (by decide) rfl) ?_
      refine w_iconst rX3_takesFigure_28 (x := 3) (by decide) ?_
      refine w_icmpne rX3_takesFigure_29 (fun h29 => ?_) (fun h29 => ?_)
      · skip
        refine w_iconst rX3_takesFigure_36 (x := 0) (by decide) ?_
        exact j5 _ (((if_neg h5).trans (if_neg h21)).trans (if_neg h29)).symm
      · skip
        refine w_iconst rX3_takesFigure_32 (x := 1) (by decide) ?_
        refine w_goto rX3_takesFigure_33 ?_
        exact j5 _ (((if_neg h5).trans (if_neg h21)).trans (if_pos h29)).symm
  · skip
    refine w_aload_n rX3_takesFigure_8 rfl ?_
    refine x_getI rX3_takesFigure_9 rfl rfl (G_is (by decide) rfl) ?_
    refine w_iconst rX3_takesFigure_12 (x := 3) (by decide) ?_
    refine w_icmplt rX3_takesFigure_13 (fun h13 => ?_) (fun h13 => ?_)
    · skip
      refine w_iconst rX3_takesFigure_32 (x := 1) (by decide) ?_
      refine w_goto rX3_takesFigure_33 ?_
      exact j5 _ ((if_pos h5).trans (if_pos h13)).symm
    · skip
      refine w_aload_n rX3_takesFigure_16 rfl ?_
      refine x_getI rX3_takesFigure_17 rfl rfl (G_is (by decide) rfl) ?_
      refine w_iconst rX3_takesFigure_20 (x := 2) (by decide) ?_
      refine w_icmpeq rX3_takesFigure_21 (fun h21 => ?_) (fun h21 => ?_)
      · skip
        refine w_iconst rX3_takesFigure_32 (x := 1) (by decide) ?_
        refine w_goto rX3_takesFigure_33 ?_
        exact j5 _ (((if_pos h5).trans (if_neg h13)).trans (if_pos h21)).symm
      · skip
        refine w_aload_n rX3_takesFigure_24 rfl ?_
        refine x_getI rX3_takesFigure_25 rfl rfl (G_is (by decide) rfl) ?_
        refine w_iconst rX3_takesFigure_28 (x := 3) (by decide) ?_
        refine w_icmpne rX3_takesFigure_29 (fun h29 => ?_) (fun h29 => ?_)
        · skip
          refine w_iconst rX3_takesFigure_36 (x := 0) (by decide) ?_
          exact j5 _ ((((if_pos h5).trans (if_neg h13)).trans (if_neg h21)).trans (if_neg h29)).symm
        · skip
          refine w_iconst rX3_takesFigure_32 (x := 1) (by decide) ?_
          refine w_goto rX3_takesFigure_33 ?_
          exact j5 _ ((((if_pos h5).trans (if_neg h13)).trans (if_neg h21)).trans (if_pos h29)).symm
theorem b01_X3_takesFigure {fig : Int32} {I : Nat → Nat → Int32} : (f_X3_takesFigure fig I) = 0 ∨ (f_X3_takesFigure fig I) = 1 := by
  unfold f_X3_takesFigure
  repeat' first | refine b01_ite ?_ ?_ | exact Or.inl rfl | exact Or.inr rfl
def fI_X3_endNumber (I : Nat → Nat → Int32) : Nat → Nat → Int32 := (if (I 3 4) = 1 then (am_u (fI_X2_add 4 0 ((I 3 6) * 100) I) 3 4 6) else (if (I 3 4) = 3 then (am_u (fI_X2_add 4 0 ((I 3 6) * 10) I) 3 4 6) else I : Nat → Nat → Int32) : Nat → Nat → Int32)
theorem s_X3_endNumber {X : Nat × (Nat × (Nat → Int32))} {I : Nat → Nat → Int32} {L : Nat → Nat → Int64} {F : Nat → Nat → UInt32} {Q : AQ}  (q : Q (.inl none) (G X (fI_X3_endNumber I) L F)) : WP mX3_endNumber 0 (am_ent 1 [.ref 3]) [] (G X I L F) 0 0 Q := by
  unfold fI_X3_endNumber at q
  refine w_aload_n rX3_endNumber_0 rfl ?_
  refine x_getI rX3_endNumber_1 rfl rfl (G_is (by decide) rfl) ?_
  refine w_iconst rX3_endNumber_4 (x := 1) (by decide) ?_
  have j5 : ∀ I5 : Nat → Nat → Int32, I5 = (if (I 3 4) = 1 then (am_u (fI_X2_add 4 0 ((I 3 6) * 100) I) 3 4 6) else (if (I 3 4) = 3 then (am_u (fI_X2_add 4 0 ((I 3 6) * 10) I) 3 4 6) else I : Nat → Nat → Int32) : Nat → Nat → Int32) → WP mX3_endNumber 61 [some (.ref 3)] [] (G X I5 L F) 0 0 Q := by
    intro I5 eI5
    subst eI5
    skip
    refine w_return rX3_endNumber_61 ?_
    exact q
  refine w_icmpne rX3_endNumber_5 (fun h5 => ?_) (fun h5 => ?_)
  · skip
    refine w_aload_n rX3_endNumber_32 rfl ?_
    refine x_getI rX3_endNumber_33 rfl rfl (G_is (by decide) rfl) ?_
    refine w_iconst rX3_endNumber_36 (x := 3) (by decide) ?_
    refine w_icmpne rX3_endNumber_37 (fun h37 => ?_) (fun h37 => ?_)
    · skip
      exact j5 _ ((if_neg h5).trans (if_neg h37)).symm
    · skip
      refine w_aload_n rX3_endNumber_40 rfl ?_
      refine w_getR rX3_endNumber_41 rfl rfl (G_is (by decide) rfl) (x := 4) rfl ?_
      refine w_iconst rX3_endNumber_44 (x := 0) (by decide) ?_
      refine w_aload_n rX3_endNumber_45 rfl ?_
      refine x_getI rX3_endNumber_46 rfl rfl (G_is (by decide) rfl) ?_
      refine w_bipush rX3_endNumber_49 (x := 10) (by decide) ?_
      refine w_imul rX3_endNumber_51 ?_
      refine w_invokevirtual rX3_endNumber_52 rfl rfl rfl (Nat.le_of_ble_eq_true rfl) ⟨trivial, trivial, trivial, trivial⟩ (G_is (by decide) rfl) (by decide) (by decide) ?_
      refine s_X2_add isFor_4 ?_
      show WP mX3_endNumber 55 _ _ _ 0 0 _
      refine w_aload_n rX3_endNumber_55 rfl ?_
      refine w_bipush rX3_endNumber_56 (x := 6) (by decide) ?_
      refine x_putI rX3_endNumber_58 rfl (G_is (by decide) rfl) trivial ?_
      exact j5 _ ((if_neg h5).trans (if_pos h37)).symm
  · skip
    refine w_aload_n rX3_endNumber_8 rfl ?_
    refine w_getR rX3_endNumber_9 rfl rfl (G_is (by decide) rfl) (x := 4) rfl ?_
    refine w_iconst rX3_endNumber_12 (x := 0) (by decide) ?_
    refine w_aload_n rX3_endNumber_13 rfl ?_
    refine x_getI rX3_endNumber_14 rfl rfl (G_is (by decide) rfl) ?_
    refine w_bipush rX3_endNumber_17 (x := 100) (by decide) ?_
    refine w_imul rX3_endNumber_19 ?_
    refine w_invokevirtual rX3_endNumber_20 rfl rfl rfl (Nat.le_of_ble_eq_true rfl) ⟨trivial, trivial, trivial, trivial⟩ (G_is (by decide) rfl) (by decide) (by decide) ?_
    refine s_X2_add isFor_4 ?_
    show WP mX3_endNumber 23 _ _ _ 0 0 _
    refine w_aload_n rX3_endNumber_23 rfl ?_
    refine w_bipush rX3_endNumber_24 (x := 6) (by decide) ?_
    refine x_putI rX3_endNumber_26 rfl (G_is (by decide) rfl) trivial ?_
    refine w_goto rX3_endNumber_29 ?_
    exact j5 _ (if_pos h5).symm
def f_X3_hold (kind : Int32) (commas : Int32) (I : Nat → Nat → Int32) : Int32 := (if (I 3 3) < 0 then 0 else (if 40 ≤ (I 3 3) then 0 else (if (I 3 3) < 40 then 1 else 0 : Int32) : Int32) : Int32)
def fI_X3_hold (kind : Int32) (commas : Int32) (I : Nat → Nat → Int32) : Nat → Nat → Int32 := (if (I 3 3) < 0 then I else (if 40 ≤ (I 3 3) then I else (if (I 3 3) < 40 then (am_u (am_u (am_u I 7 (Int32.toNatClampNeg (I 3 3)) kind) 8 (Int32.toNatClampNeg (I 3 3)) commas) 3 3 ((I 3 3) + 1)) else I : Nat → Nat → Int32) : Nat → Nat → Int32) : Nat → Nat → Int32)
theorem s_X3_hold {X : Nat × (Nat × (Nat → Int32))} {I : Nat → Nat → Int32} {L : Nat → Nat → Int64} {F : Nat → Nat → UInt32} {Q : AQ} {kind : Int32} {commas : Int32} (q : Q (.inl (some (.int (f_X3_hold kind commas I)))) (G X (fI_X3_hold kind commas I) L F)) : WP mX3_hold 0 (am_ent 3 [.ref 3, .int kind, .int commas]) [] (G X I L F) 0 0 Q := by
  unfold f_X3_hold fI_X3_hold at q
  refine w_aload_n rX3_hold_0 rfl ?_
  refine x_getI rX3_hold_1 rfl rfl (G_is (by decide) rfl) ?_
  have j4 : ∀ I4 : Nat → Nat → Int32, I4 = (if (I 3 3) < 0 then I else (if 40 ≤ (I 3 3) then I else (if (I 3 3) < 40 then (am_u (am_u (am_u I 7 (Int32.toNatClampNeg (I 3 3)) kind) 8 (Int32.toNatClampNeg (I 3 3)) commas) 3 3 ((I 3 3) + 1)) else I : Nat → Nat → Int32) : Nat → Nat → Int32) : Nat → Nat → Int32) → ∀ s4_0 : Int32, s4_0 = (if (I 3 3) < 0 then 0 else (if 40 ≤ (I 3 3) then 0 else (if (I 3 3) < 40 then 1 else 0 : Int32) : Int32) : Int32) → Q (.inl (some (.int s4_0))) (G X I4 L F) := by
    intro I4 eI4 s4_0 es4_0
    subst eI4
    subst es4_0
    skip
    exact q
  refine w_iflt rX3_hold_4 (fun h4 => ?_) (fun h4 => ?_)
  · skip
    refine w_iconst rX3_hold_31 (x := 0) (by decide) ?_
    refine w_ireturn rX3_hold_32 (Or.inl rfl) ?_
    exact j4 _ (if_pos h4).symm _ (if_pos h4).symm
  · skip
    refine w_aload_n rX3_hold_7 rfl ?_
    refine x_getI rX3_hold_8 rfl rfl (G_is (by decide) rfl) ?_
    refine w_aload_n rX3_hold_11 rfl ?_
    refine w_getR rX3_hold_12 rfl rfl (G_is (by decide) rfl) (x := 7) rfl ?_
    refine G_lenc rX3_hold_15 (by decide) rfl (n := 40) rfl (x := 40) (by decide) ?_
    refine w_icmpge rX3_hold_16 (fun h16 => ?_) (fun h16 => ?_)
    · skip
      refine w_iconst rX3_hold_31 (x := 0) (by decide) ?_
      refine w_ireturn rX3_hold_32 (Or.inl rfl) ?_
      exact j4 _ ((if_neg h4).trans (if_pos h16)).symm _ ((if_neg h4).trans (if_pos h16)).symm
    · skip
      refine w_aload_n rX3_hold_19 rfl ?_
      refine x_getI rX3_hold_20 rfl rfl (G_is (by decide) rfl) ?_
      refine w_aload_n rX3_hold_23 rfl ?_
      refine w_getR rX3_hold_24 rfl rfl (G_is (by decide) rfl) (x := 8) rfl ?_
      refine G_lenc rX3_hold_27 (by decide) rfl (n := 40) rfl (x := 40) (by decide) ?_
      refine w_icmplt rX3_hold_28 (fun h28 => ?_) (fun h28 => ?_)
      · skip
        refine w_aload_n rX3_hold_33 rfl ?_
        refine w_getR rX3_hold_34 rfl rfl (G_is (by decide) rfl) (x := 7) rfl ?_
        refine w_aload_n rX3_hold_37 rfl ?_
        refine x_getI rX3_hold_38 rfl rfl (G_is (by decide) rfl) ?_
        refine w_iload_n rX3_hold_41 rfl ?_
        refine x_iastore rX3_hold_42 (G_at (by decide) rfl rfl (vi_b (n := 40) (by decide) (by decide) h4 (Int32.not_le.mpr h28))) ?_
        refine w_aload_n rX3_hold_43 rfl ?_
        refine w_getR rX3_hold_44 rfl rfl (G_is (by decide) rfl) (x := 8) rfl ?_
        refine w_aload_n rX3_hold_47 rfl ?_
        refine x_getI rX3_hold_48 rfl rfl (G_is (by decide) rfl) ?_
        rw [au_ne (f := I) (o := 7) (k := (Int32.toNatClampNeg (I 3 3))) (a := 3) (b := 3) (fun z => absurd z.1 (by decide))]
        refine w_iload_n rX3_hold_51 rfl ?_
        refine x_iastore rX3_hold_52 (G_at (by decide) rfl rfl (vi_b (n := 40) (by decide) (by decide) h4 (Int32.not_le.mpr h28))) ?_
        refine w_aload_n rX3_hold_53 rfl ?_
        refine w_dup rX3_hold_54 trivial ?_
        refine x_getI rX3_hold_55 rfl rfl (G_is (by decide) rfl) ?_
        rw [au_ne (f := (am_u I 7 (Int32.toNatClampNeg (I 3 3)) kind)) (o := 8) (k := (Int32.toNatClampNeg (I 3 3))) (a := 3) (b := 3) (fun z => absurd z.1 (by decide))]
        rw [au_ne (f := I) (o := 7) (k := (Int32.toNatClampNeg (I 3 3))) (a := 3) (b := 3) (fun z => absurd z.1 (by decide))]
        refine w_iconst rX3_hold_58 (x := 1) (by decide) ?_
        refine w_iadd rX3_hold_59 ?_
        refine x_putI rX3_hold_60 rfl (G_is (by decide) rfl) trivial ?_
        refine w_iconst rX3_hold_63 (x := 1) (by decide) ?_
        refine w_ireturn rX3_hold_64 (Or.inr rfl) ?_
        exact j4 _ (((if_neg h4).trans (if_neg h16)).trans (if_pos h28)).symm _ (((if_neg h4).trans (if_neg h16)).trans (if_pos h28)).symm
      · skip
        refine w_iconst rX3_hold_31 (x := 0) (by decide) ?_
        refine w_ireturn rX3_hold_32 (Or.inl rfl) ?_
        exact j4 _ (((if_neg h4).trans (if_neg h16)).trans (if_neg h28)).symm _ (((if_neg h4).trans (if_neg h16)).trans (if_neg h28)).symm
theorem b01_X3_hold {kind : Int32} {commas : Int32} {I : Nat → Nat → Int32} : (f_X3_hold kind commas I) = 0 ∨ (f_X3_hold kind commas I) = 1 := by
  unfold f_X3_hold
  repeat' first | refine b01_ite ?_ ?_ | exact Or.inl rfl | exact Or.inr rfl
def f_X3_strengthOf (kind : Int32) : Int32 := (if kind = 2 then 1 else (if kind = 3 then 1 else (if kind = 4 then 2 else (if kind = 5 then 2 else (if kind = 6 then 3 else 0 : Int32) : Int32) : Int32) : Int32) : Int32)
theorem s_X3_strengthOf {X : Nat × (Nat × (Nat → Int32))} {I : Nat → Nat → Int32} {L : Nat → Nat → Int64} {F : Nat → Nat → UInt32} {Q : AQ} {kind : Int32} (q : Q (.inl (some (.int (f_X3_strengthOf kind)))) (G X I L F)) : WP mX3_strengthOf 0 (am_ent 1 [.int kind]) [] (G X I L F) 0 0 Q := by
  unfold f_X3_strengthOf at q
  refine w_iload_n rX3_strengthOf_0 rfl ?_
  have j1 : ∀ s1_0 : Int32, s1_0 = (if kind = 2 then 1 else (if kind = 3 then 1 else (if kind = 4 then 2 else (if kind = 5 then 2 else (if kind = 6 then 3 else 0 : Int32) : Int32) : Int32) : Int32) : Int32) → Q (.inl (some (.int s1_0))) (G X I L F) := by
    intro s1_0 es1_0
    subst es1_0
    skip
    exact q
  refine w_tsw rX3_strengthOf_1 ?_
  refine ⟨fun h1_0 => ?_, fun h1_0 => ?_⟩
  · skip
    refine w_iconst rX3_strengthOf_40 (x := 1) (by decide) ?_
    refine w_ireturn rX3_strengthOf_41 trivial ?_
    exact j1 _ (if_pos h1_0).symm
  · skip
    refine ⟨fun h1_1 => ?_, fun h1_1 => ?_⟩
    · skip
      refine w_iconst rX3_strengthOf_40 (x := 1) (by decide) ?_
      refine w_ireturn rX3_strengthOf_41 trivial ?_
      exact j1 _ ((if_neg h1_0).trans (if_pos h1_1)).symm
    · skip
      refine ⟨fun h1_2 => ?_, fun h1_2 => ?_⟩
      · skip
        refine w_iconst rX3_strengthOf_38 (x := 2) (by decide) ?_
        refine w_ireturn rX3_strengthOf_39 trivial ?_
        exact j1 _ (((if_neg h1_0).trans (if_neg h1_1)).trans (if_pos h1_2)).symm
      · skip
        refine ⟨fun h1_3 => ?_, fun h1_3 => ?_⟩
        · skip
          refine w_iconst rX3_strengthOf_38 (x := 2) (by decide) ?_
          refine w_ireturn rX3_strengthOf_39 trivial ?_
          exact j1 _ ((((if_neg h1_0).trans (if_neg h1_1)).trans (if_neg h1_2)).trans (if_pos h1_3)).symm
        · skip
          refine ⟨fun h1_4 => ?_, fun h1_4 => ?_⟩
          · skip
            refine w_iconst rX3_strengthOf_36 (x := 3) (by decide) ?_
            refine w_ireturn rX3_strengthOf_37 trivial ?_
            exact j1 _ (((((if_neg h1_0).trans (if_neg h1_1)).trans (if_neg h1_2)).trans (if_neg h1_3)).trans (if_pos h1_4)).symm
          · skip
            refine w_iconst rX3_strengthOf_42 (x := 0) (by decide) ?_
            refine w_ireturn rX3_strengthOf_43 trivial ?_
            exact j1 _ (((((if_neg h1_0).trans (if_neg h1_1)).trans (if_neg h1_2)).trans (if_neg h1_3)).trans (if_neg h1_4)).symm
def p_X4_join (kind : Int32) (left : UInt32) (right : UInt32) : Prop := ((kind = 2 → vf_n32 (FP.fadd left right) ∧ (True)) ∧ (¬ kind = 2 → (kind = 3 → vf_n32 (FP.fsub left right) ∧ (True)) ∧ (¬ kind = 3 → (kind = 4 → vf_n32 (FP.fmul left right) ∧ (True)) ∧ (¬ kind = 4 → (kind = 5 → ((¬ (Op.cmpValue (FP.fcmp right 0) .l) = 0 → vf_n32 (FP.fdiv left right) ∧ (True))) ∧ (True)))))) ∧ (True)
def f_X4_join (kind : Int32) (left : UInt32) (right : UInt32) : UInt32 := (if kind = 2 then (FP.fadd left right) else (if kind = 3 then (FP.fsub left right) else (if kind = 4 then (FP.fmul left right) else (if kind = 5 then (if (Op.cmpValue (FP.fcmp right 0) .l) = 0 then 0 else (FP.fdiv left right) : UInt32) else (if kind = 6 then (if 0 < (Op.cmpValue (FP.fcmp left right) .g) then right else left : UInt32) else (if kind = 7 then (if (Op.cmpValue (FP.fcmp left right) .l) < 0 then right else left : UInt32) else (if 0 < (Op.cmpValue (FP.fcmp left right) .g) then right else left : UInt32) : UInt32) : UInt32) : UInt32) : UInt32) : UInt32) : UInt32)
theorem s_X4_join {X : Nat × (Nat × (Nat → Int32))} {I : Nat → Nat → Int32} {L : Nat → Nat → Int64} {F : Nat → Nat → UInt32} {Q : AQ} {kind : Int32} {left : UInt32} {right : UInt32} (p : (p_X4_join kind left right)) (q : Q (.inl (some (.float (f_X4_join kind left right)))) (G X I L F)) : WP mX4_join 0 (am_ent 3 [.int kind, .float left, .float right]) [] (G X I L F) 0 0 Q := by
  unfold f_X4_join at q
  unfold p_X4_join at p
  have q0 := q
  clear q
  have q : ((kind = 2 → vf_n32 (FP.fadd left right) ∧ (True)) ∧ (¬ kind = 2 → (kind = 3 → vf_n32 (FP.fsub left right) ∧ (True)) ∧ (¬ kind = 3 → (kind = 4 → vf_n32 (FP.fmul left right) ∧ (True)) ∧ (¬ kind = 4 → (kind = 5 → ((¬ (Op.cmpValue (FP.fcmp right 0) .l) = 0 → vf_n32 (FP.fdiv left right) ∧ (True))) ∧ (True)))))) ∧ (Q (.inl (some (.float (if kind = 2 then (FP.fadd left right) else (if kind = 3 then (FP.fsub left right) else (if kind = 4 then (FP.fmul left right) else (if kind = 5 then (if (Op.cmpValue (FP.fcmp right 0) .l) = 0 then 0 else (FP.fdiv left right) : UInt32) else (if kind = 6 then (if 0 < (Op.cmpValue (FP.fcmp left right) .g) then right else left : UInt32) else (if kind = 7 then (if (Op.cmpValue (FP.fcmp left right) .l) < 0 then right else left : UInt32) else (if 0 < (Op.cmpValue (FP.fcmp left right) .g) then right else left : UInt32) : UInt32) : UInt32) : UInt32) : UInt32) : UInt32) : UInt32)))) (G X I L F)) := by
    exact ⟨p.1, q0⟩
  clear p q0
  refine w_iload_n rX4_join_0 rfl ?_
  have j1 : ∀ s1_0 : UInt32, s1_0 = (if kind = 2 then (FP.fadd left right) else (if kind = 3 then (FP.fsub left right) else (if kind = 4 then (FP.fmul left right) else (if kind = 5 then (if (Op.cmpValue (FP.fcmp right 0) .l) = 0 then 0 else (FP.fdiv left right) : UInt32) else (if kind = 6 then (if 0 < (Op.cmpValue (FP.fcmp left right) .g) then right else left : UInt32) else (if kind = 7 then (if (Op.cmpValue (FP.fcmp left right) .l) < 0 then right else left : UInt32) else (if 0 < (Op.cmpValue (FP.fcmp left right) .g) then right else left : UInt32) : UInt32) : UInt32) : UInt32) : UInt32) : UInt32) : UInt32) → Q (.inl (some (.float s1_0))) (G X I L F) := by
    intro s1_0 es1_0
    subst es1_0
    skip
    replace q := q.2
    exact q
  replace q := q.1
  refine w_tsw rX4_join_1 ?_
  refine ⟨fun h1_0 => ?_, fun h1_0 => ?_⟩
  · replace q := q.1 h1_0
    refine w_fload_n rX4_join_40 rfl ?_
    refine w_fload_n rX4_join_41 rfl ?_
    refine w_fadd rX4_join_42 q.1 ?_
    replace q := q.2
    refine w_freturn rX4_join_43 ?_
    exact j1 _ (if_pos h1_0).symm
  · replace q := q.2 h1_0
    refine ⟨fun h1_1 => ?_, fun h1_1 => ?_⟩
    · replace q := q.1 h1_1
      refine w_fload_n rX4_join_44 rfl ?_
      refine w_fload_n rX4_join_45 rfl ?_
      refine w_fsub rX4_join_46 q.1 ?_
      replace q := q.2
      refine w_freturn rX4_join_47 ?_
      exact j1 _ ((if_neg h1_0).trans (if_pos h1_1)).symm
    · replace q := q.2 h1_1
      refine ⟨fun h1_2 => ?_, fun h1_2 => ?_⟩
      · replace q := q.1 h1_2
        refine w_fload_n rX4_join_48 rfl ?_
        refine w_fload_n rX4_join_49 rfl ?_
        refine w_fmul rX4_join_50 q.1 ?_
        replace q := q.2
        refine w_freturn rX4_join_51 ?_
        exact j1 _ (((if_neg h1_0).trans (if_neg h1_1)).trans (if_pos h1_2)).symm
      · replace q := q.2 h1_2
        refine ⟨fun h1_3 => ?_, fun h1_3 => ?_⟩
        · replace q := q h1_3
          refine w_fload_n rX4_join_52 rfl ?_
          refine w_fconst rX4_join_53 (x := 0) rfl ?_
          refine w_fcmp rX4_join_54 ?_
          have j55 : ∀ s55_0 : UInt32, s55_0 = (if (Op.cmpValue (FP.fcmp right 0) .l) = 0 then 0 else (FP.fdiv left right) : UInt32) → WP mX4_join 65 [some (.int kind), some (.float left), some (.float right)] [.float s55_0] (G X I L F) 0 0 Q := by
            intro s55_0 es55_0
            subst es55_0
            skip
            replace q := q.2
            refine w_freturn rX4_join_65 ?_
            exact j1 _ ((((if_neg h1_0).trans (if_neg h1_1)).trans (if_neg h1_2)).trans (if_pos h1_3)).symm
          replace q := q.1
          refine w_ifne rX4_join_55 (fun h55 => ?_) (fun h55 => ?_)
          · replace q := q h55
            refine w_fload_n rX4_join_62 rfl ?_
            refine w_fload_n rX4_join_63 rfl ?_
            refine w_fdiv rX4_join_64 q.1 ?_
            replace q := q.2
            exact j55 _ (if_neg h55).symm
          · skip
            refine w_fconst rX4_join_58 (x := 0) rfl ?_
            refine w_goto rX4_join_59 ?_
            exact j55 _ (if_pos h55).symm
        · skip
          refine ⟨fun h1_4 => ?_, fun h1_4 => ?_⟩
          · skip
            refine w_fload_n rX4_join_78 rfl ?_
            refine w_fload_n rX4_join_79 rfl ?_
            refine w_fcmp rX4_join_80 ?_
            have j81 : ∀ s81_0 : UInt32, s81_0 = (if 0 < (Op.cmpValue (FP.fcmp left right) .g) then right else left : UInt32) → WP mX4_join 89 [some (.int kind), some (.float left), some (.float right)] [.float s81_0] (G X I L F) 0 0 Q := by
              intro s81_0 es81_0
              subst es81_0
              skip
              refine w_freturn rX4_join_89 ?_
              exact j1 _ (((((if_neg h1_0).trans (if_neg h1_1)).trans (if_neg h1_2)).trans (if_neg h1_3)).trans (if_pos h1_4)).symm
            refine w_ifgt rX4_join_81 (fun h81 => ?_) (fun h81 => ?_)
            · skip
              refine w_fload_n rX4_join_88 rfl ?_
              exact j81 _ (if_pos h81).symm
            · skip
              refine w_fload_n rX4_join_84 rfl ?_
              refine w_goto rX4_join_85 ?_
              exact j81 _ (if_neg h81).symm
          · skip
            refine ⟨fun h1_5 => ?_, fun h1_5 => ?_⟩
            · skip
              refine w_fload_n rX4_join_66 rfl ?_
              refine w_fload_n rX4_join_67 rfl ?_
              refine w_fcmp rX4_join_68 ?_
              have j69 : ∀ s69_0 : UInt32, s69_0 = (if (Op.cmpValue (FP.fcmp left right) .l) < 0 then right else left : UInt32) → WP mX4_join 77 [some (.int kind), some (.float left), some (.float right)] [.float s69_0] (G X I L F) 0 0 Q := by
                intro s69_0 es69_0
                subst es69_0
                skip
                refine w_freturn rX4_join_77 ?_
                exact j1 _ ((((((if_neg h1_0).trans (if_neg h1_1)).trans (if_neg h1_2)).trans (if_neg h1_3)).trans (if_neg h1_4)).trans (if_pos h1_5)).symm
              refine w_iflt rX4_join_69 (fun h69 => ?_) (fun h69 => ?_)
              · skip
                refine w_fload_n rX4_join_76 rfl ?_
                exact j69 _ (if_pos h69).symm
              · skip
                refine w_fload_n rX4_join_72 rfl ?_
                refine w_goto rX4_join_73 ?_
                exact j69 _ (if_neg h69).symm
            · skip
              refine w_fload_n rX4_join_78 rfl ?_
              refine w_fload_n rX4_join_79 rfl ?_
              refine w_fcmp rX4_join_80 ?_
              have j81 : ∀ s81_0 : UInt32, s81_0 = (if 0 < (Op.cmpValue (FP.fcmp left right) .g) then right else left : UInt32) → WP mX4_join 89 [some (.int kind), some (.float left), some (.float right)] [.float s81_0] (G X I L F) 0 0 Q := by
                intro s81_0 es81_0
                subst es81_0
                skip
                refine w_freturn rX4_join_89 ?_
                exact j1 _ ((((((if_neg h1_0).trans (if_neg h1_1)).trans (if_neg h1_2)).trans (if_neg h1_3)).trans (if_neg h1_4)).trans (if_neg h1_5)).symm
              refine w_ifgt rX4_join_81 (fun h81 => ?_) (fun h81 => ?_)
              · skip
                refine w_fload_n rX4_join_88 rfl ?_
                exact j81 _ (if_pos h81).symm
              · skip
                refine w_fload_n rX4_join_84 rfl ?_
                refine w_goto rX4_join_85 ?_
                exact j81 _ (if_neg h81).symm
def fI_X4_keep (found : UInt32) (I : Nat → Nat → Int32) : Nat → Nat → Int32 := (if (I 10 2) < 0 then I else (if 40 ≤ (I 10 2) then I else (am_u I 10 2 ((I 10 2) + 1)) : Nat → Nat → Int32) : Nat → Nat → Int32)
def fF_X4_keep (found : UInt32) (I : Nat → Nat → Int32) (F : Nat → Nat → UInt32) : Nat → Nat → UInt32 := (if (I 10 2) < 0 then F else (if 40 ≤ (I 10 2) then F else (am_u F 12 (Int32.toNatClampNeg (I 10 2)) (if (Op.cmpValue (FP.fcmp (if (Op.cmpValue (FP.fcmp found 1315859240) .l) ≤ 0 then (if 0 ≤ (Op.cmpValue (FP.fcmp found 3463342888) .g) then found else 3463342888 : UInt32) else 1315859240 : UInt32) 0) .l) = 0 then 0 else (if (Op.cmpValue (FP.fcmp found 1315859240) .l) ≤ 0 then (if 0 ≤ (Op.cmpValue (FP.fcmp found 3463342888) .g) then found else 3463342888 : UInt32) else 1315859240 : UInt32) : UInt32)) : Nat → Nat → UInt32) : Nat → Nat → UInt32)
theorem s_X4_keep {X : Nat × (Nat × (Nat → Int32))} {I : Nat → Nat → Int32} {L : Nat → Nat → Int64} {F : Nat → Nat → UInt32} {Q : AQ} {found : UInt32} (q : Q (.inl none) (G X (fI_X4_keep found I) L (fF_X4_keep found I F))) : WP mX4_keep 0 (am_ent 3 [.ref 10, .float found]) [] (G X I L F) 0 0 Q := by
  unfold fI_X4_keep fF_X4_keep at q
  refine w_fload_n rX4_keep_0 rfl ?_
  refine w_ldcF rX4_keep_1 (x := 1315859240) (by decide) ?_
  refine w_fcmp rX4_keep_3 ?_
  have j4 : ∀ s4_0 : UInt32, s4_0 = (if (Op.cmpValue (FP.fcmp found 1315859240) .l) ≤ 0 then (if 0 ≤ (Op.cmpValue (FP.fcmp found 3463342888) .g) then found else 3463342888 : UInt32) else 1315859240 : UInt32) → WP mX4_keep 25 [some (.ref 10), some (.float found), none] [.float s4_0] (G X I L F) 0 0 Q := by
    intro s4_0 es4_0
    subst es4_0
    skip
    refine w_fstore_n rX4_keep_25 rfl trivial ?_
    refine w_aload_n rX4_keep_26 rfl ?_
    refine x_getI rX4_keep_27 rfl rfl (G_is (by decide) rfl) ?_
    have j30 : ∀ I30 : Nat → Nat → Int32, I30 = (if (I 10 2) < 0 then I else (if 40 ≤ (I 10 2) then I else (am_u I 10 2 ((I 10 2) + 1)) : Nat → Nat → Int32) : Nat → Nat → Int32) → ∀ F30 : Nat → Nat → UInt32, F30 = (if (I 10 2) < 0 then F else (if 40 ≤ (I 10 2) then F else (am_u F 12 (Int32.toNatClampNeg (I 10 2)) (if (Op.cmpValue (FP.fcmp (if (Op.cmpValue (FP.fcmp found 1315859240) .l) ≤ 0 then (if 0 ≤ (Op.cmpValue (FP.fcmp found 3463342888) .g) then found else 3463342888 : UInt32) else 1315859240 : UInt32) 0) .l) = 0 then 0 else (if (Op.cmpValue (FP.fcmp found 1315859240) .l) ≤ 0 then (if 0 ≤ (Op.cmpValue (FP.fcmp found 3463342888) .g) then found else 3463342888 : UInt32) else 1315859240 : UInt32) : UInt32)) : Nat → Nat → UInt32) : Nat → Nat → UInt32) → WP mX4_keep 75 [some (.ref 10), some (.float found), some (.float (if (Op.cmpValue (FP.fcmp found 1315859240) .l) ≤ 0 then (if 0 ≤ (Op.cmpValue (FP.fcmp found 3463342888) .g) then found else 3463342888 : UInt32) else 1315859240 : UInt32))] [] (G X I30 L F30) 0 0 Q := by
      intro I30 eI30 F30 eF30
      subst eI30
      subst eF30
      skip
      refine w_return rX4_keep_75 ?_
      exact q
    refine w_iflt rX4_keep_30 (fun h30 => ?_) (fun h30 => ?_)
    · skip
      exact j30 _ (if_pos h30).symm _ (if_pos h30).symm
    · skip
      refine w_aload_n rX4_keep_33 rfl ?_
      refine x_getI rX4_keep_34 rfl rfl (G_is (by decide) rfl) ?_
      refine w_aload_n rX4_keep_37 rfl ?_
      refine w_getR rX4_keep_38 rfl rfl (G_is (by decide) rfl) (x := 12) rfl ?_
      refine G_lenc rX4_keep_41 (by decide) rfl (n := 40) rfl (x := 40) (by decide) ?_
      refine w_icmpge rX4_keep_42 (fun h42 => ?_) (fun h42 => ?_)
      · skip
        exact j30 _ ((if_neg h30).trans (if_pos h42)).symm _ ((if_neg h30).trans (if_pos h42)).symm
      · skip
        refine w_aload_n rX4_keep_45 rfl ?_
        refine w_getR rX4_keep_46 rfl rfl (G_is (by decide) rfl) (x := 12) rfl ?_
        refine w_aload_n rX4_keep_49 rfl ?_
        refine x_getI rX4_keep_50 rfl rfl (G_is (by decide) rfl) ?_
        refine w_fload_n rX4_keep_53 rfl ?_
        refine w_fconst rX4_keep_54 (x := 0) rfl ?_
        refine w_fcmp rX4_keep_55 ?_
        have j56 : ∀ s56_2 : UInt32, s56_2 = (if (Op.cmpValue (FP.fcmp (if (Op.cmpValue (FP.fcmp found 1315859240) .l) ≤ 0 then (if 0 ≤ (Op.cmpValue (FP.fcmp found 3463342888) .g) then found else 3463342888 : UInt32) else 1315859240 : UInt32) 0) .l) = 0 then 0 else (if (Op.cmpValue (FP.fcmp found 1315859240) .l) ≤ 0 then (if 0 ≤ (Op.cmpValue (FP.fcmp found 3463342888) .g) then found else 3463342888 : UInt32) else 1315859240 : UInt32) : UInt32) → WP mX4_keep 64 [some (.ref 10), some (.float found), some (.float (if (Op.cmpValue (FP.fcmp found 1315859240) .l) ≤ 0 then (if 0 ≤ (Op.cmpValue (FP.fcmp found 3463342888) .g) then found else 3463342888 : UInt32) else 1315859240 : UInt32))] [.float s56_2, .int (I 10 2), .ref 12] (G X I L F) 0 0 Q := by
          intro s56_2 es56_2
          subst es56_2
          skip
          refine x_fastore rX4_keep_64 (G_at (by decide) rfl rfl (vi_b (n := 40) (by decide) (by decide) h30 h42)) ?_
          refine w_aload_n rX4_keep_65 rfl ?_
          refine w_dup rX4_keep_66 trivial ?_
          refine x_getI rX4_keep_67 rfl rfl (G_is (by decide) rfl) ?_
          refine w_iconst rX4_keep_70 (x := 1) (by decide) ?_
          refine w_iadd rX4_keep_71 ?_
          refine x_putI rX4_keep_72 rfl (G_is (by decide) rfl) trivial ?_
          exact j30 _ ((if_neg h30).trans (if_neg h42)).symm _ ((if_neg h30).trans (if_neg h42)).symm
        refine w_ifne rX4_keep_56 (fun h56 => ?_) (fun h56 => ?_)
        · skip
          refine w_fload_n rX4_keep_63 rfl ?_
          exact j56 _ (if_neg h56).symm
        · skip
          refine w_fconst rX4_keep_59 (x := 0) rfl ?_
          refine w_goto rX4_keep_60 ?_
          exact j56 _ (if_pos h56).symm
  refine w_ifle rX4_keep_4 (fun h4 => ?_) (fun h4 => ?_)
  · skip
    refine w_fload_n rX4_keep_12 rfl ?_
    refine w_ldcF rX4_keep_13 (x := 3463342888) (by decide) ?_
    refine w_fcmp rX4_keep_15 ?_
    refine w_ifge rX4_keep_16 (fun h16 => ?_) (fun h16 => ?_)
    · skip
      refine w_fload_n rX4_keep_24 rfl ?_
      exact j4 _ ((if_pos h4).trans (if_pos h16)).symm
    · skip
      refine w_ldcF rX4_keep_19 (x := 3463342888) (by decide) ?_
      refine w_goto rX4_keep_21 ?_
      exact j4 _ ((if_pos h4).trans (if_neg h16)).symm
  · skip
    refine w_ldcF rX4_keep_7 (x := 1315859240) (by decide) ?_
    refine w_goto rX4_keep_9 ?_
    exact j4 _ (if_neg h4).symm
def p_X4_take (I : Nat → Nat → Int32) : Prop := ((¬ (I 10 2) < 1 → ((I 10 2) ≤ 40 → vp_in ((I 10 2) - 1) 40 ∧ (True)))) ∧ (True)
def f_X4_take (I : Nat → Nat → Int32) (F : Nat → Nat → UInt32) : UInt32 := (if (I 10 2) < 1 then 0 else (if (I 10 2) ≤ 40 then (F 12 (Int32.toNatClampNeg ((I 10 2) - 1))) else 0 : UInt32) : UInt32)
def fI_X4_take (I : Nat → Nat → Int32) : Nat → Nat → Int32 := (if (I 10 2) < 1 then I else (if (I 10 2) ≤ 40 then (am_u I 10 2 ((I 10 2) - 1)) else I : Nat → Nat → Int32) : Nat → Nat → Int32)
theorem s_X4_take {X : Nat × (Nat × (Nat → Int32))} {I : Nat → Nat → Int32} {L : Nat → Nat → Int64} {F : Nat → Nat → UInt32} {Q : AQ}  (p : (p_X4_take I)) (q : Q (.inl (some (.float (f_X4_take I F)))) (G X (fI_X4_take I) L F)) : WP mX4_take 0 (am_ent 1 [.ref 10]) [] (G X I L F) 0 0 Q := by
  unfold f_X4_take fI_X4_take at q
  unfold p_X4_take at p
  have q0 := q
  clear q
  have q : ((¬ (I 10 2) < 1 → ((I 10 2) ≤ 40 → vp_in ((I 10 2) - 1) 40 ∧ (True)))) ∧ (Q (.inl (some (.float (if (I 10 2) < 1 then 0 else (if (I 10 2) ≤ 40 then (F 12 (Int32.toNatClampNeg ((I 10 2) - 1))) else 0 : UInt32) : UInt32)))) (G X (if (I 10 2) < 1 then I else (if (I 10 2) ≤ 40 then (am_u I 10 2 ((I 10 2) - 1)) else I : Nat → Nat → Int32) : Nat → Nat → Int32) L F)) := by
    exact ⟨p.1, q0⟩
  clear p q0
  refine w_aload_n rX4_take_0 rfl ?_
  refine x_getI rX4_take_1 rfl rfl (G_is (by decide) rfl) ?_
  refine w_iconst rX4_take_4 (x := 1) (by decide) ?_
  have j5 : ∀ I5 : Nat → Nat → Int32, I5 = (if (I 10 2) < 1 then I else (if (I 10 2) ≤ 40 then (am_u I 10 2 ((I 10 2) - 1)) else I : Nat → Nat → Int32) : Nat → Nat → Int32) → ∀ s5_0 : UInt32, s5_0 = (if (I 10 2) < 1 then 0 else (if (I 10 2) ≤ 40 then (F 12 (Int32.toNatClampNeg ((I 10 2) - 1))) else 0 : UInt32) : UInt32) → Q (.inl (some (.float s5_0))) (G X I5 L F) := by
    intro I5 eI5 s5_0 es5_0
    subst eI5
    subst es5_0
    skip
    replace q := q.2
    exact q
  replace q := q.1
  refine w_icmplt rX4_take_5 (fun h5 => ?_) (fun h5 => ?_)
  · skip
    refine w_fconst rX4_take_20 (x := 0) rfl ?_
    refine w_freturn rX4_take_21 ?_
    exact j5 _ (if_pos h5).symm _ (if_pos h5).symm
  · replace q := q h5
    refine w_aload_n rX4_take_8 rfl ?_
    refine x_getI rX4_take_9 rfl rfl (G_is (by decide) rfl) ?_
    refine w_aload_n rX4_take_12 rfl ?_
    refine w_getR rX4_take_13 rfl rfl (G_is (by decide) rfl) (x := 12) rfl ?_
    refine G_lenc rX4_take_16 (by decide) rfl (n := 40) rfl (x := 40) (by decide) ?_
    refine w_icmple rX4_take_17 (fun h17 => ?_) (fun h17 => ?_)
    · replace q := q h17
      refine w_aload_n rX4_take_22 rfl ?_
      refine w_dup rX4_take_23 trivial ?_
      refine x_getI rX4_take_24 rfl rfl (G_is (by decide) rfl) ?_
      refine w_iconst rX4_take_27 (x := 1) (by decide) ?_
      refine w_isub rX4_take_28 ?_
      refine x_putI rX4_take_29 rfl (G_is (by decide) rfl) trivial ?_
      refine w_aload_n rX4_take_32 rfl ?_
      refine w_getR rX4_take_33 rfl rfl (G_is (by decide) rfl) (x := 12) rfl ?_
      refine w_aload_n rX4_take_36 rfl ?_
      refine x_getI rX4_take_37 rfl rfl (G_is (by decide) rfl) ?_
      rw [am_u_eq (f := I) (o := 10) (k := 2)]
      have h40 := q.1
      replace q := q.2
      refine x_faload rX4_take_40 (G_at (by decide) rfl rfl h40) ?_
      refine w_freturn rX4_take_41 ?_
      exact j5 _ ((if_neg h5).trans (if_pos h17)).symm _ ((if_neg h5).trans (if_pos h17)).symm
    · skip
      refine w_fconst rX4_take_20 (x := 0) rfl ?_
      refine w_freturn rX4_take_21 ?_
      exact j5 _ ((if_neg h5).trans (if_neg h17)).symm _ ((if_neg h5).trans (if_neg h17)).symm
def f_X6_has (ver : Int32) (I : Nat → Nat → Int32) : Int32 := (if ver < 0 then 0 else (if (I 9 4) ≤ ver then 0 else (if 60 ≤ ver then 0 else 1 : Int32) : Int32) : Int32)
theorem s_X6_has {X : Nat × (Nat × (Nat → Int32))} {I : Nat → Nat → Int32} {L : Nat → Nat → Int64} {F : Nat → Nat → UInt32} {Q : AQ} {ver : Int32} (q : Q (.inl (some (.int (f_X6_has ver I)))) (G X I L F)) : WP mX6_has 0 (am_ent 2 [.ref 9, .int ver]) [] (G X I L F) 0 0 Q := by
  unfold f_X6_has at q
  refine w_iload_n rX6_has_0 rfl ?_
  have j1 : ∀ s1_0 : Int32, s1_0 = (if ver < 0 then 0 else (if (I 9 4) ≤ ver then 0 else (if 60 ≤ ver then 0 else 1 : Int32) : Int32) : Int32) → WP mX6_has 26 [some (.ref 9), some (.int ver)] [.int s1_0] (G X I L F) 0 0 Q := by
    intro s1_0 es1_0
    subst es1_0
    skip
    refine w_ireturn rX6_has_26 (show (if ver < 0 then 0 else (if (I 9 4) ≤ ver then 0 else (if 60 ≤ ver then 0 else 1 : Int32) : Int32) : Int32) = 0 ∨ (if ver < 0 then 0 else (if (I 9 4) ≤ ver then 0 else (if 60 ≤ ver then 0 else 1 : Int32) : Int32) : Int32) = 1 from by repeat' first | refine b01_ite ?_ ?_ | exact Or.inl rfl | exact Or.inr rfl) ?_
    exact q
  refine w_iflt rX6_has_1 (fun h1 => ?_) (fun h1 => ?_)
  · skip
    refine w_iconst rX6_has_25 (x := 0) (by decide) ?_
    exact j1 _ (if_pos h1).symm
  · skip
    refine w_iload_n rX6_has_4 rfl ?_
    refine w_aload_n rX6_has_5 rfl ?_
    refine x_getI rX6_has_6 rfl rfl (G_is (by decide) rfl) ?_
    refine w_icmpge rX6_has_9 (fun h9 => ?_) (fun h9 => ?_)
    · skip
      refine w_iconst rX6_has_25 (x := 0) (by decide) ?_
      exact j1 _ ((if_neg h1).trans (if_pos h9)).symm
    · skip
      refine w_iload_n rX6_has_12 rfl ?_
      refine w_aload_n rX6_has_13 rfl ?_
      refine w_getR rX6_has_14 rfl rfl (G_is (by decide) rfl) (x := 13) rfl ?_
      refine G_lenc rX6_has_17 (by decide) rfl (n := 60) rfl (x := 60) (by decide) ?_
      refine w_icmpge rX6_has_18 (fun h18 => ?_) (fun h18 => ?_)
      · skip
        refine w_iconst rX6_has_25 (x := 0) (by decide) ?_
        exact j1 _ (((if_neg h1).trans (if_neg h9)).trans (if_pos h18)).symm
      · skip
        refine w_iconst rX6_has_21 (x := 1) (by decide) ?_
        refine w_goto rX6_has_22 ?_
        exact j1 _ (((if_neg h1).trans (if_neg h9)).trans (if_neg h18)).symm
theorem b01_X6_has {ver : Int32} {I : Nat → Nat → Int32} : (f_X6_has ver I) = 0 ∨ (f_X6_has ver I) = 1 := by
  unfold f_X6_has
  repeat' first | refine b01_ite ?_ ?_ | exact Or.inl rfl | exact Or.inr rfl
theorem gd_X6_has {v : Int32} {I : Nat → Nat → Int32} (h : ¬ f_X6_has v I = 0) : vp_in v 60 := by
  unfold f_X6_has at h
  repeat' split at h
  all_goals first | exact absurd rfl h | exact vi_b (by decide) (by decide) ‹¬ v < 0› ‹¬ 60 ≤ v›
def f_X6_latestOf (model : Int32) (I : Nat → Nat → Int32) : Int32 := (if model < 0 then (-1) else (if 6 ≤ model then (-1) else (I 14 (Int32.toNatClampNeg model)) : Int32) : Int32)
theorem s_X6_latestOf {X : Nat × (Nat × (Nat → Int32))} {I : Nat → Nat → Int32} {L : Nat → Nat → Int64} {F : Nat → Nat → UInt32} {Q : AQ} {model : Int32} (q : Q (.inl (some (.int (f_X6_latestOf model I)))) (G X I L F)) : WP mX6_latestOf 0 (am_ent 2 [.ref 9, .int model]) [] (G X I L F) 0 0 Q := by
  unfold f_X6_latestOf at q
  refine w_iload_n rX6_latestOf_0 rfl ?_
  have j1 : ∀ s1_0 : Int32, s1_0 = (if model < 0 then (-1) else (if 6 ≤ model then (-1) else (I 14 (Int32.toNatClampNeg model)) : Int32) : Int32) → WP mX6_latestOf 23 [some (.ref 9), some (.int model)] [.int s1_0] (G X I L F) 0 0 Q := by
    intro s1_0 es1_0
    subst es1_0
    skip
    refine w_ireturn rX6_latestOf_23 trivial ?_
    exact q
  refine w_iflt rX6_latestOf_1 (fun h1 => ?_) (fun h1 => ?_)
  · skip
    refine w_iconst rX6_latestOf_22 (x := -1) (by decide) ?_
    exact j1 _ (if_pos h1).symm
  · skip
    refine w_iload_n rX6_latestOf_4 rfl ?_
    refine w_aload_n rX6_latestOf_5 rfl ?_
    refine w_getR rX6_latestOf_6 rfl rfl (G_is (by decide) rfl) (x := 14) rfl ?_
    refine G_lenc rX6_latestOf_9 (by decide) rfl (n := 6) rfl (x := 6) (by decide) ?_
    refine w_icmpge rX6_latestOf_10 (fun h10 => ?_) (fun h10 => ?_)
    · skip
      refine w_iconst rX6_latestOf_22 (x := -1) (by decide) ?_
      exact j1 _ ((if_neg h1).trans (if_pos h10)).symm
    · skip
      refine w_aload_n rX6_latestOf_13 rfl ?_
      refine w_getR rX6_latestOf_14 rfl rfl (G_is (by decide) rfl) (x := 14) rfl ?_
      refine w_iload_n rX6_latestOf_17 rfl ?_
      refine x_iaload rX6_latestOf_18 (G_at (by decide) rfl rfl (vi_b (n := 6) (by decide) (by decide) h1 h10)) ?_
      refine w_goto rX6_latestOf_19 ?_
      exact j1 _ ((if_neg h1).trans (if_neg h10)).symm
def f_X6_isLatest (ver : Int32) (I : Nat → Nat → Int32) : Int32 := (if (f_X6_has ver I) = 0 then 0 else (if (f_X6_latestOf (I (19 + 6 * Int32.toNatClampNeg ver) 3) I) = ver then 1 else 0 : Int32) : Int32)
theorem s_X6_isLatest {X : Nat × (Nat × (Nat → Int32))} {I : Nat → Nat → Int32} {L : Nat → Nat → Int64} {F : Nat → Nat → UInt32} {Q : AQ} {ver : Int32} (q : Q (.inl (some (.int (f_X6_isLatest ver I)))) (G X I L F)) : WP mX6_isLatest 0 (am_ent 2 [.ref 9, .int ver]) [] (G X I L F) 0 0 Q := by
  unfold f_X6_isLatest at q
  refine w_aload_n rX6_isLatest_0 rfl ?_
  refine w_iload_n rX6_isLatest_1 rfl ?_
  refine w_invokevirtual rX6_isLatest_2 rfl rfl rfl (Nat.le_of_ble_eq_true rfl) ⟨trivial, trivial, trivial⟩ (G_is (by decide) rfl) (by decide) (by decide) ?_
  refine s_X6_has ?_
  show WP mX6_isLatest 5 _ _ _ 0 0 _
  have j5 : ∀ s5_0 : Int32, s5_0 = (if (f_X6_has ver I) = 0 then 0 else (if (f_X6_latestOf (I (19 + 6 * Int32.toNatClampNeg ver) 3) I) = ver then 1 else 0 : Int32) : Int32) → WP mX6_isLatest 30 [some (.ref 9), some (.int ver)] [.int s5_0] (G X I L F) 0 0 Q := by
    intro s5_0 es5_0
    subst es5_0
    skip
    refine w_ireturn rX6_isLatest_30 (show (if (f_X6_has ver I) = 0 then 0 else (if (f_X6_latestOf (I (19 + 6 * Int32.toNatClampNeg ver) 3) I) = ver then 1 else 0 : Int32) : Int32) = 0 ∨ (if (f_X6_has ver I) = 0 then 0 else (if (f_X6_latestOf (I (19 + 6 * Int32.toNatClampNeg ver) 3) I) = ver then 1 else 0 : Int32) : Int32) = 1 from by repeat' first | refine b01_ite ?_ ?_ | exact Or.inl rfl | exact Or.inr rfl) ?_
    exact q
  refine w_ifeq rX6_isLatest_5 (fun h5 => ?_) (fun h5 => ?_)
  · skip
    refine w_iconst rX6_isLatest_29 (x := 0) (by decide) ?_
    exact j5 _ (if_pos h5).symm
  · skip
    refine w_aload_n rX6_isLatest_8 rfl ?_
    refine w_aload_n rX6_isLatest_9 rfl ?_
    refine w_getR rX6_isLatest_10 rfl rfl (G_is (by decide) rfl) (x := 13) rfl ?_
    refine w_iload_n rX6_isLatest_13 rfl ?_
    refine w_aaload rX6_isLatest_14 (G_aa (by decide) rfl rfl (gd_X6_has h5)) (ga_ver (gd_X6_has h5)) ?_
    refine x_getI rX6_isLatest_15 rfl rfl (G_isk (gi_ver (gd_X6_has h5)).1) ?_
    refine w_invokevirtual rX6_isLatest_18 rfl rfl rfl (Nat.le_of_ble_eq_true rfl) ⟨trivial, trivial, trivial⟩ (G_is (by decide) rfl) (by decide) (by decide) ?_
    refine s_X6_latestOf ?_
    show WP mX6_isLatest 21 _ _ _ 0 0 _
    refine w_iload_n rX6_isLatest_21 rfl ?_
    refine w_icmpne rX6_isLatest_22 (fun h22 => ?_) (fun h22 => ?_)
    · skip
      refine w_iconst rX6_isLatest_29 (x := 0) (by decide) ?_
      exact j5 _ ((if_neg h5).trans (if_neg h22)).symm
    · skip
      refine w_iconst rX6_isLatest_25 (x := 1) (by decide) ?_
      refine w_goto rX6_isLatest_26 ?_
      exact j5 _ ((if_neg h5).trans (if_pos h22)).symm
theorem b01_X6_isLatest {ver : Int32} {I : Nat → Nat → Int32} : (f_X6_isLatest ver I) = 0 ∨ (f_X6_isLatest ver I) = 1 := by
  unfold f_X6_isLatest
  repeat' first | refine b01_ite ?_ ?_ | exact Or.inl rfl | exact Or.inr rfl | exact b01_X6_has
def f_X6_modelOf (ver : Int32) (I : Nat → Nat → Int32) : Int32 := (if (f_X6_has ver I) = 0 then (-1) else (I (19 + 6 * Int32.toNatClampNeg ver) 3) : Int32)
theorem s_X6_modelOf {X : Nat × (Nat × (Nat → Int32))} {I : Nat → Nat → Int32} {L : Nat → Nat → Int64} {F : Nat → Nat → UInt32} {Q : AQ} {ver : Int32} (q : Q (.inl (some (.int (f_X6_modelOf ver I)))) (G X I L F)) : WP mX6_modelOf 0 (am_ent 2 [.ref 9, .int ver]) [] (G X I L F) 0 0 Q := by
  unfold f_X6_modelOf at q
  refine w_aload_n rX6_modelOf_0 rfl ?_
  refine w_iload_n rX6_modelOf_1 rfl ?_
  refine w_invokevirtual rX6_modelOf_2 rfl rfl rfl (Nat.le_of_ble_eq_true rfl) ⟨trivial, trivial, trivial⟩ (G_is (by decide) rfl) (by decide) (by decide) ?_
  refine s_X6_has ?_
  show WP mX6_modelOf 5 _ _ _ 0 0 _
  have j5 : ∀ s5_0 : Int32, s5_0 = (if (f_X6_has ver I) = 0 then (-1) else (I (19 + 6 * Int32.toNatClampNeg ver) 3) : Int32) → WP mX6_modelOf 21 [some (.ref 9), some (.int ver)] [.int s5_0] (G X I L F) 0 0 Q := by
    intro s5_0 es5_0
    subst es5_0
    skip
    refine w_ireturn rX6_modelOf_21 trivial ?_
    exact q
  refine w_ifeq rX6_modelOf_5 (fun h5 => ?_) (fun h5 => ?_)
  · skip
    refine w_iconst rX6_modelOf_20 (x := -1) (by decide) ?_
    exact j5 _ (if_pos h5).symm
  · skip
    refine w_aload_n rX6_modelOf_8 rfl ?_
    refine w_getR rX6_modelOf_9 rfl rfl (G_is (by decide) rfl) (x := 13) rfl ?_
    refine w_iload_n rX6_modelOf_12 rfl ?_
    refine w_aaload rX6_modelOf_13 (G_aa (by decide) rfl rfl (gd_X6_has h5)) (ga_ver (gd_X6_has h5)) ?_
    refine x_getI rX6_modelOf_14 rfl rfl (G_isk (gi_ver (gd_X6_has h5)).1) ?_
    refine w_goto rX6_modelOf_17 ?_
    exact j5 _ (if_neg h5).symm
def f_X6_names (ver : Int32) (gauge : Int32) (I : Nat → Nat → Int32) : Int32 := (if (f_X6_has ver I) = 0 then 0 else (if ((((I (19 + 6 * Int32.toNatClampNeg ver) 4) : Int32) >>> (gauge &&& 31 : Int32)) &&& 1) = 0 then 0 else 1 : Int32) : Int32)
theorem s_X6_names {X : Nat × (Nat × (Nat → Int32))} {I : Nat → Nat → Int32} {L : Nat → Nat → Int64} {F : Nat → Nat → UInt32} {Q : AQ} {ver : Int32} {gauge : Int32} (q : Q (.inl (some (.int (f_X6_names ver gauge I)))) (G X I L F)) : WP mX6_names 0 (am_ent 3 [.ref 9, .int ver, .int gauge]) [] (G X I L F) 0 0 Q := by
  unfold f_X6_names at q
  refine w_aload_n rX6_names_0 rfl ?_
  refine w_iload_n rX6_names_1 rfl ?_
  refine w_invokevirtual rX6_names_2 rfl rfl rfl (Nat.le_of_ble_eq_true rfl) ⟨trivial, trivial, trivial⟩ (G_is (by decide) rfl) (by decide) (by decide) ?_
  refine s_X6_has ?_
  show WP mX6_names 5 _ _ _ 0 0 _
  have j5 : ∀ s5_0 : Int32, s5_0 = (if (f_X6_has ver I) = 0 then 0 else (if ((((I (19 + 6 * Int32.toNatClampNeg ver) 4) : Int32) >>> (gauge &&& 31 : Int32)) &&& 1) = 0 then 0 else 1 : Int32) : Int32) → WP mX6_names 29 [some (.ref 9), some (.int ver), some (.int gauge)] [.int s5_0] (G X I L F) 0 0 Q := by
    intro s5_0 es5_0
    subst es5_0
    skip
    refine w_ireturn rX6_names_29 (show (if (f_X6_has ver I) = 0 then 0 else (if ((((I (19 + 6 * Int32.toNatClampNeg ver) 4) : Int32) >>> (gauge &&& 31 : Int32)) &&& 1) = 0 then 0 else 1 : Int32) : Int32) = 0 ∨ (if (f_X6_has ver I) = 0 then 0 else (if ((((I (19 + 6 * Int32.toNatClampNeg ver) 4) : Int32) >>> (gauge &&& 31 : Int32)) &&& 1) = 0 then 0 else 1 : Int32) : Int32) = 1 from by repeat' first | refine b01_ite ?_ ?_ | exact Or.inl rfl | exact Or.inr rfl) ?_
    exact q
  refine w_ifeq rX6_names_5 (fun h5 => ?_) (fun h5 => ?_)
  · skip
    refine w_iconst rX6_names_28 (x := 0) (by decide) ?_
    exact j5 _ (if_pos h5).symm
  · skip
    refine w_aload_n rX6_names_8 rfl ?_
    refine w_getR rX6_names_9 rfl rfl (G_is (by decide) rfl) (x := 13) rfl ?_
    refine w_iload_n rX6_names_12 rfl ?_
    refine w_aaload rX6_names_13 (G_aa (by decide) rfl rfl (gd_X6_has h5)) (ga_ver (gd_X6_has h5)) ?_
    refine x_getI rX6_names_14 rfl rfl (G_isk (gi_ver (gd_X6_has h5)).1) ?_
    refine w_iload_n rX6_names_17 rfl ?_
    refine w_ishr rX6_names_18 ?_
    refine w_iconst rX6_names_19 (x := 1) (by decide) ?_
    refine w_iand rX6_names_20 ?_
    refine w_ifeq rX6_names_21 (fun h21 => ?_) (fun h21 => ?_)
    · skip
      refine w_iconst rX6_names_28 (x := 0) (by decide) ?_
      exact j5 _ ((if_neg h5).trans (if_pos h21)).symm
    · skip
      refine w_iconst rX6_names_24 (x := 1) (by decide) ?_
      refine w_goto rX6_names_25 ?_
      exact j5 _ ((if_neg h5).trans (if_neg h21)).symm
theorem b01_X6_names {ver : Int32} {gauge : Int32} {I : Nat → Nat → Int32} : (f_X6_names ver gauge I) = 0 ∨ (f_X6_names ver gauge I) = 1 := by
  unfold f_X6_names
  repeat' first | refine b01_ite ?_ ?_ | exact Or.inl rfl | exact Or.inr rfl | exact b01_X6_has
def f_X6_namedBy (model : Int32) (I : Nat → Nat → Int32) : Int32 := (if (f_X6_has (f_X6_latestOf model I) I) = 0 then 0 else (I ((19 + 6 * Int32.toNatClampNeg (f_X6_latestOf model I)) + 1) 3) : Int32)
theorem s_X6_namedBy {X : Nat × (Nat × (Nat → Int32))} {I : Nat → Nat → Int32} {L : Nat → Nat → Int64} {F : Nat → Nat → UInt32} {Q : AQ} {model : Int32} (q : Q (.inl (some (.int (f_X6_namedBy model I)))) (G X I L F)) : WP mX6_namedBy 0 (am_ent 3 [.ref 9, .int model]) [] (G X I L F) 0 0 Q := by
  unfold f_X6_namedBy at q
  refine w_aload_n rX6_namedBy_0 rfl ?_
  refine w_iload_n rX6_namedBy_1 rfl ?_
  refine w_invokevirtual rX6_namedBy_2 rfl rfl rfl (Nat.le_of_ble_eq_true rfl) ⟨trivial, trivial, trivial⟩ (G_is (by decide) rfl) (by decide) (by decide) ?_
  refine s_X6_latestOf ?_
  show WP mX6_namedBy 5 _ _ _ 0 0 _
  refine w_istore_n rX6_namedBy_5 rfl trivial ?_
  refine w_aload_n rX6_namedBy_6 rfl ?_
  refine w_iload_n rX6_namedBy_7 rfl ?_
  refine w_invokevirtual rX6_namedBy_8 rfl rfl rfl (Nat.le_of_ble_eq_true rfl) ⟨trivial, trivial, trivial⟩ (G_is (by decide) rfl) (by decide) (by decide) ?_
  refine s_X6_has ?_
  show WP mX6_namedBy 11 _ _ _ 0 0 _
  have j11 : ∀ s11_0 : Int32, s11_0 = (if (f_X6_has (f_X6_latestOf model I) I) = 0 then 0 else (I ((19 + 6 * Int32.toNatClampNeg (f_X6_latestOf model I)) + 1) 3) : Int32) → WP mX6_namedBy 30 [some (.ref 9), some (.int model), some (.int (f_X6_latestOf model I))] [.int s11_0] (G X I L F) 0 0 Q := by
    intro s11_0 es11_0
    subst es11_0
    skip
    refine w_ireturn rX6_namedBy_30 trivial ?_
    exact q
  refine w_ifeq rX6_namedBy_11 (fun h11 => ?_) (fun h11 => ?_)
  · skip
    refine w_iconst rX6_namedBy_29 (x := 0) (by decide) ?_
    exact j11 _ (if_pos h11).symm
  · skip
    refine w_aload_n rX6_namedBy_14 rfl ?_
    refine w_getR rX6_namedBy_15 rfl rfl (G_is (by decide) rfl) (x := 13) rfl ?_
    refine w_iload_n rX6_namedBy_18 rfl ?_
    refine w_aaload rX6_namedBy_19 (G_aa (by decide) rfl rfl (gd_X6_has h11)) (ga_ver (gd_X6_has h11)) ?_
    refine w_getR rX6_namedBy_20 rfl rfl (G_isk (gi_ver (gd_X6_has h11)).1) (gi_ver (gd_X6_has h11)).2.1 ?_
    refine x_getI rX6_namedBy_23 rfl rfl (G_isk (gi_ver (gd_X6_has h11)).2.2.2.2.1.1) ?_
    refine w_goto rX6_namedBy_26 ?_
    exact j11 _ (if_neg h11).symm
def f_X9_wipe (I : Nat → Nat → Int32) : Int32 := (f_X1_clear I)
def fI_X9_wipe (I : Nat → Nat → Int32) : Nat → Nat → Int32 := (fI_X1_clear I)
theorem s_X9_wipe {X : Nat × (Nat × (Nat → Int32))} {I : Nat → Nat → Int32} {L : Nat → Nat → Int64} {F : Nat → Nat → UInt32} {Q : AQ}  (q : Q (.inl (some (.int (f_X9_wipe I)))) (G X (fI_X9_wipe I) L F)) : WP mX9_wipe 0 (am_ent 1 [.ref 0]) [] (G X I L F) 0 0 Q := by
  unfold f_X9_wipe fI_X9_wipe at q
  refine w_aload_n rX9_wipe_0 rfl ?_
  refine w_getR rX9_wipe_1 rfl rfl (G_is (by decide) rfl) (x := 1) rfl ?_
  refine w_invokevirtual rX9_wipe_4 rfl rfl rfl (Nat.le_of_ble_eq_true rfl) ⟨trivial, trivial⟩ (G_is (by decide) rfl) (by decide) (by decide) ?_
  refine s_X1_clear ?_
  show WP mX9_wipe 7 _ _ _ 0 0 _
  refine w_ireturn rX9_wipe_7 trivial ?_
  exact q
def f_X9_isModel (model : Int32) : Int32 := (if model < 0 then 0 else (if 6 ≤ model then 0 else 1 : Int32) : Int32)
theorem s_X9_isModel {X : Nat × (Nat × (Nat → Int32))} {I : Nat → Nat → Int32} {L : Nat → Nat → Int64} {F : Nat → Nat → UInt32} {Q : AQ} {model : Int32} (q : Q (.inl (some (.int (f_X9_isModel model)))) (G X I L F)) : WP mX9_isModel 0 (am_ent 1 [.int model]) [] (G X I L F) 0 0 Q := by
  unfold f_X9_isModel at q
  refine w_iload_n rX9_isModel_0 rfl ?_
  have j1 : ∀ s1_0 : Int32, s1_0 = (if model < 0 then 0 else (if 6 ≤ model then 0 else 1 : Int32) : Int32) → WP mX9_isModel 15 [some (.int model)] [.int s1_0] (G X I L F) 0 0 Q := by
    intro s1_0 es1_0
    subst es1_0
    skip
    refine w_ireturn rX9_isModel_15 (show (if model < 0 then 0 else (if 6 ≤ model then 0 else 1 : Int32) : Int32) = 0 ∨ (if model < 0 then 0 else (if 6 ≤ model then 0 else 1 : Int32) : Int32) = 1 from by repeat' first | refine b01_ite ?_ ?_ | exact Or.inl rfl | exact Or.inr rfl) ?_
    exact q
  refine w_iflt rX9_isModel_1 (fun h1 => ?_) (fun h1 => ?_)
  · skip
    refine w_iconst rX9_isModel_14 (x := 0) (by decide) ?_
    exact j1 _ (if_pos h1).symm
  · skip
    refine w_iload_n rX9_isModel_4 rfl ?_
    refine w_bipush rX9_isModel_5 (x := 6) (by decide) ?_
    refine w_icmpge rX9_isModel_7 (fun h7 => ?_) (fun h7 => ?_)
    · skip
      refine w_iconst rX9_isModel_14 (x := 0) (by decide) ?_
      exact j1 _ ((if_neg h1).trans (if_pos h7)).symm
    · skip
      refine w_iconst rX9_isModel_10 (x := 1) (by decide) ?_
      refine w_goto rX9_isModel_11 ?_
      exact j1 _ ((if_neg h1).trans (if_neg h7)).symm
theorem b01_X9_isModel {model : Int32} : (f_X9_isModel model) = 0 ∨ (f_X9_isModel model) = 1 := by
  unfold f_X9_isModel
  repeat' first | refine b01_ite ?_ ?_ | exact Or.inl rfl | exact Or.inr rfl
theorem gd_X9_isModel {v : Int32} (h : ¬ f_X9_isModel v = 0) : vp_in v 6 := by
  unfold f_X9_isModel at h
  repeat' split at h
  all_goals first | exact absurd rfl h | exact vi_b (by decide) (by decide) ‹¬ v < 0› ‹¬ 6 ≤ v›
def f_X9_isHour (hour : Int32) : Int32 := (if hour < 0 then 0 else (if 200 < hour then 0 else 1 : Int32) : Int32)
theorem s_X9_isHour {X : Nat × (Nat × (Nat → Int32))} {I : Nat → Nat → Int32} {L : Nat → Nat → Int64} {F : Nat → Nat → UInt32} {Q : AQ} {hour : Int32} (q : Q (.inl (some (.int (f_X9_isHour hour)))) (G X I L F)) : WP mX9_isHour 0 (am_ent 1 [.int hour]) [] (G X I L F) 0 0 Q := by
  unfold f_X9_isHour at q
  refine w_iload_n rX9_isHour_0 rfl ?_
  have j1 : ∀ s1_0 : Int32, s1_0 = (if hour < 0 then 0 else (if 200 < hour then 0 else 1 : Int32) : Int32) → WP mX9_isHour 16 [some (.int hour)] [.int s1_0] (G X I L F) 0 0 Q := by
    intro s1_0 es1_0
    subst es1_0
    skip
    refine w_ireturn rX9_isHour_16 (show (if hour < 0 then 0 else (if 200 < hour then 0 else 1 : Int32) : Int32) = 0 ∨ (if hour < 0 then 0 else (if 200 < hour then 0 else 1 : Int32) : Int32) = 1 from by repeat' first | refine b01_ite ?_ ?_ | exact Or.inl rfl | exact Or.inr rfl) ?_
    exact q
  refine w_iflt rX9_isHour_1 (fun h1 => ?_) (fun h1 => ?_)
  · skip
    refine w_iconst rX9_isHour_15 (x := 0) (by decide) ?_
    exact j1 _ (if_pos h1).symm
  · skip
    refine w_iload_n rX9_isHour_4 rfl ?_
    refine w_sipush rX9_isHour_5 (x := 200) (by decide) ?_
    refine w_icmpgt rX9_isHour_8 (fun h8 => ?_) (fun h8 => ?_)
    · skip
      refine w_iconst rX9_isHour_15 (x := 0) (by decide) ?_
      exact j1 _ ((if_neg h1).trans (if_pos h8)).symm
    · skip
      refine w_iconst rX9_isHour_11 (x := 1) (by decide) ?_
      refine w_goto rX9_isHour_12 ?_
      exact j1 _ ((if_neg h1).trans (if_neg h8)).symm
theorem b01_X9_isHour {hour : Int32} : (f_X9_isHour hour) = 0 ∨ (f_X9_isHour hour) = 1 := by
  unfold f_X9_isHour
  repeat' first | refine b01_ite ?_ ?_ | exact Or.inl rfl | exact Or.inr rfl
theorem gd_X9_isHour {v : Int32} (h : ¬ f_X9_isHour v = 0) : vp_in v 201 := by
  unfold f_X9_isHour at h
  repeat' split at h
  all_goals first | exact absurd rfl h | exact vi_c (m := 200) (by decide) (by decide) ‹¬ v < 0› ‹¬ 200 < v›
def f_X9_isDam (dam : Int32) : Int32 := (if dam < 0 then 0 else (if 3 ≤ dam then 0 else 1 : Int32) : Int32)
theorem s_X9_isDam {X : Nat × (Nat × (Nat → Int32))} {I : Nat → Nat → Int32} {L : Nat → Nat → Int64} {F : Nat → Nat → UInt32} {Q : AQ} {dam : Int32} (q : Q (.inl (some (.int (f_X9_isDam dam)))) (G X I L F)) : WP mX9_isDam 0 (am_ent 2 [.ref 0, .int dam]) [] (G X I L F) 0 0 Q := by
  unfold f_X9_isDam at q
  refine w_iload_n rX9_isDam_0 rfl ?_
  have j1 : ∀ s1_0 : Int32, s1_0 = (if dam < 0 then 0 else (if 3 ≤ dam then 0 else 1 : Int32) : Int32) → WP mX9_isDam 18 [some (.ref 0), some (.int dam)] [.int s1_0] (G X I L F) 0 0 Q := by
    intro s1_0 es1_0
    subst es1_0
    skip
    refine w_ireturn rX9_isDam_18 (show (if dam < 0 then 0 else (if 3 ≤ dam then 0 else 1 : Int32) : Int32) = 0 ∨ (if dam < 0 then 0 else (if 3 ≤ dam then 0 else 1 : Int32) : Int32) = 1 from by repeat' first | refine b01_ite ?_ ?_ | exact Or.inl rfl | exact Or.inr rfl) ?_
    exact q
  refine w_iflt rX9_isDam_1 (fun h1 => ?_) (fun h1 => ?_)
  · skip
    refine w_iconst rX9_isDam_17 (x := 0) (by decide) ?_
    exact j1 _ (if_pos h1).symm
  · skip
    refine w_iload_n rX9_isDam_4 rfl ?_
    refine w_aload_n rX9_isDam_5 rfl ?_
    refine w_getR rX9_isDam_6 rfl rfl (G_is (by decide) rfl) (x := 381) rfl ?_
    refine G_lenc rX9_isDam_9 (by decide) rfl (n := 3) rfl (x := 3) (by decide) ?_
    refine w_icmpge rX9_isDam_10 (fun h10 => ?_) (fun h10 => ?_)
    · skip
      refine w_iconst rX9_isDam_17 (x := 0) (by decide) ?_
      exact j1 _ ((if_neg h1).trans (if_pos h10)).symm
    · skip
      refine w_iconst rX9_isDam_13 (x := 1) (by decide) ?_
      refine w_goto rX9_isDam_14 ?_
      exact j1 _ ((if_neg h1).trans (if_neg h10)).symm
theorem b01_X9_isDam {dam : Int32} : (f_X9_isDam dam) = 0 ∨ (f_X9_isDam dam) = 1 := by
  unfold f_X9_isDam
  repeat' first | refine b01_ite ?_ ?_ | exact Or.inl rfl | exact Or.inr rfl
theorem gd_X9_isDam {v : Int32} (h : ¬ f_X9_isDam v = 0) : vp_in v 3 := by
  unfold f_X9_isDam at h
  repeat' split at h
  all_goals first | exact absurd rfl h | exact vi_b (by decide) (by decide) ‹¬ v < 0› ‹¬ 3 ≤ v›
def f_X9_isRun (run : Int32) (I : Nat → Nat → Int32) : Int32 := (if run < 0 then 0 else (if (I 0 7) ≤ run then 0 else (if 40 ≤ run then 0 else 1 : Int32) : Int32) : Int32)
theorem s_X9_isRun {X : Nat × (Nat × (Nat → Int32))} {I : Nat → Nat → Int32} {L : Nat → Nat → Int64} {F : Nat → Nat → UInt32} {Q : AQ} {run : Int32} (q : Q (.inl (some (.int (f_X9_isRun run I)))) (G X I L F)) : WP mX9_isRun 0 (am_ent 2 [.ref 0, .int run]) [] (G X I L F) 0 0 Q := by
  unfold f_X9_isRun at q
  refine w_iload_n rX9_isRun_0 rfl ?_
  have j1 : ∀ s1_0 : Int32, s1_0 = (if run < 0 then 0 else (if (I 0 7) ≤ run then 0 else (if 40 ≤ run then 0 else 1 : Int32) : Int32) : Int32) → WP mX9_isRun 26 [some (.ref 0), some (.int run)] [.int s1_0] (G X I L F) 0 0 Q := by
    intro s1_0 es1_0
    subst es1_0
    skip
    refine w_ireturn rX9_isRun_26 (show (if run < 0 then 0 else (if (I 0 7) ≤ run then 0 else (if 40 ≤ run then 0 else 1 : Int32) : Int32) : Int32) = 0 ∨ (if run < 0 then 0 else (if (I 0 7) ≤ run then 0 else (if 40 ≤ run then 0 else 1 : Int32) : Int32) : Int32) = 1 from by repeat' first | refine b01_ite ?_ ?_ | exact Or.inl rfl | exact Or.inr rfl) ?_
    exact q
  refine w_iflt rX9_isRun_1 (fun h1 => ?_) (fun h1 => ?_)
  · skip
    refine w_iconst rX9_isRun_25 (x := 0) (by decide) ?_
    exact j1 _ (if_pos h1).symm
  · skip
    refine w_iload_n rX9_isRun_4 rfl ?_
    refine w_aload_n rX9_isRun_5 rfl ?_
    refine x_getI rX9_isRun_6 rfl rfl (G_is (by decide) rfl) ?_
    refine w_icmpge rX9_isRun_9 (fun h9 => ?_) (fun h9 => ?_)
    · skip
      refine w_iconst rX9_isRun_25 (x := 0) (by decide) ?_
      exact j1 _ ((if_neg h1).trans (if_pos h9)).symm
    · skip
      refine w_iload_n rX9_isRun_12 rfl ?_
      refine w_aload_n rX9_isRun_13 rfl ?_
      refine w_getR rX9_isRun_14 rfl rfl (G_is (by decide) rfl) (x := 379) rfl ?_
      refine G_lenc rX9_isRun_17 (by decide) rfl (n := 40) rfl (x := 40) (by decide) ?_
      refine w_icmpge rX9_isRun_18 (fun h18 => ?_) (fun h18 => ?_)
      · skip
        refine w_iconst rX9_isRun_25 (x := 0) (by decide) ?_
        exact j1 _ (((if_neg h1).trans (if_neg h9)).trans (if_pos h18)).symm
      · skip
        refine w_iconst rX9_isRun_21 (x := 1) (by decide) ?_
        refine w_goto rX9_isRun_22 ?_
        exact j1 _ (((if_neg h1).trans (if_neg h9)).trans (if_neg h18)).symm
theorem b01_X9_isRun {run : Int32} {I : Nat → Nat → Int32} : (f_X9_isRun run I) = 0 ∨ (f_X9_isRun run I) = 1 := by
  unfold f_X9_isRun
  repeat' first | refine b01_ite ?_ ?_ | exact Or.inl rfl | exact Or.inr rfl
theorem gd_X9_isRun {v : Int32} {I : Nat → Nat → Int32} (h : ¬ f_X9_isRun v I = 0) : vp_in v 40 := by
  unfold f_X9_isRun at h
  repeat' split at h
  all_goals first | exact absurd rfl h | exact vi_b (by decide) (by decide) ‹¬ v < 0› ‹¬ 40 ≤ v›
def f_X9_isSiren (sir : Int32) (I : Nat → Nat → Int32) : Int32 := (if sir < 0 then 0 else (if (I 0 8) ≤ sir then 0 else (if 60 ≤ sir then 0 else 1 : Int32) : Int32) : Int32)
theorem s_X9_isSiren {X : Nat × (Nat × (Nat → Int32))} {I : Nat → Nat → Int32} {L : Nat → Nat → Int64} {F : Nat → Nat → UInt32} {Q : AQ} {sir : Int32} (q : Q (.inl (some (.int (f_X9_isSiren sir I)))) (G X I L F)) : WP mX9_isSiren 0 (am_ent 2 [.ref 0, .int sir]) [] (G X I L F) 0 0 Q := by
  unfold f_X9_isSiren at q
  refine w_iload_n rX9_isSiren_0 rfl ?_
  have j1 : ∀ s1_0 : Int32, s1_0 = (if sir < 0 then 0 else (if (I 0 8) ≤ sir then 0 else (if 60 ≤ sir then 0 else 1 : Int32) : Int32) : Int32) → WP mX9_isSiren 26 [some (.ref 0), some (.int sir)] [.int s1_0] (G X I L F) 0 0 Q := by
    intro s1_0 es1_0
    subst es1_0
    skip
    refine w_ireturn rX9_isSiren_26 (show (if sir < 0 then 0 else (if (I 0 8) ≤ sir then 0 else (if 60 ≤ sir then 0 else 1 : Int32) : Int32) : Int32) = 0 ∨ (if sir < 0 then 0 else (if (I 0 8) ≤ sir then 0 else (if 60 ≤ sir then 0 else 1 : Int32) : Int32) : Int32) = 1 from by repeat' first | refine b01_ite ?_ ?_ | exact Or.inl rfl | exact Or.inr rfl) ?_
    exact q
  refine w_iflt rX9_isSiren_1 (fun h1 => ?_) (fun h1 => ?_)
  · skip
    refine w_iconst rX9_isSiren_25 (x := 0) (by decide) ?_
    exact j1 _ (if_pos h1).symm
  · skip
    refine w_iload_n rX9_isSiren_4 rfl ?_
    refine w_aload_n rX9_isSiren_5 rfl ?_
    refine x_getI rX9_isSiren_6 rfl rfl (G_is (by decide) rfl) ?_
    refine w_icmpge rX9_isSiren_9 (fun h9 => ?_) (fun h9 => ?_)
    · skip
      refine w_iconst rX9_isSiren_25 (x := 0) (by decide) ?_
      exact j1 _ ((if_neg h1).trans (if_pos h9)).symm
    · skip
      refine w_iload_n rX9_isSiren_12 rfl ?_
      refine w_aload_n rX9_isSiren_13 rfl ?_
      refine w_getR rX9_isSiren_14 rfl rfl (G_is (by decide) rfl) (x := 382) rfl ?_
      refine G_lenc rX9_isSiren_17 (by decide) rfl (n := 60) rfl (x := 60) (by decide) ?_
      refine w_icmpge rX9_isSiren_18 (fun h18 => ?_) (fun h18 => ?_)
      · skip
        refine w_iconst rX9_isSiren_25 (x := 0) (by decide) ?_
        exact j1 _ (((if_neg h1).trans (if_neg h9)).trans (if_pos h18)).symm
      · skip
        refine w_iconst rX9_isSiren_21 (x := 1) (by decide) ?_
        refine w_goto rX9_isSiren_22 ?_
        exact j1 _ (((if_neg h1).trans (if_neg h9)).trans (if_neg h18)).symm
theorem b01_X9_isSiren {sir : Int32} {I : Nat → Nat → Int32} : (f_X9_isSiren sir I) = 0 ∨ (f_X9_isSiren sir I) = 1 := by
  unfold f_X9_isSiren
  repeat' first | refine b01_ite ?_ ?_ | exact Or.inl rfl | exact Or.inr rfl
theorem gd_X9_isSiren {v : Int32} {I : Nat → Nat → Int32} (h : ¬ f_X9_isSiren v I = 0) : vp_in v 60 := by
  unfold f_X9_isSiren at h
  repeat' split at h
  all_goals first | exact absurd rfl h | exact vi_b (by decide) (by decide) ‹¬ v < 0› ‹¬ 60 ≤ v›
def f_X9_reasonAgainst (run : Int32) (I : Nat → Nat → Int32) : Int32 := (if (f_X9_isRun run I) = 0 then 1 else (if (f_X6_isLatest (I (383 + Int32.toNatClampNeg run) 0) I) = 0 then 1 else (if (I (383 + Int32.toNatClampNeg run) 5) = 0 then 0 else 2 : Int32) : Int32) : Int32)
theorem s_X9_reasonAgainst {X : Nat × (Nat × (Nat → Int32))} {I : Nat → Nat → Int32} {L : Nat → Nat → Int64} {F : Nat → Nat → UInt32} {Q : AQ} {run : Int32} (q : Q (.inl (some (.int (f_X9_reasonAgainst run I)))) (G X I L F)) : WP mX9_reasonAgainst 0 (am_ent 2 [.ref 0, .int run]) [] (G X I L F) 0 0 Q := by
  unfold f_X9_reasonAgainst at q
  refine w_aload_n rX9_reasonAgainst_0 rfl ?_
  refine w_iload_n rX9_reasonAgainst_1 rfl ?_
  refine w_invokevirtual rX9_reasonAgainst_2 rfl rfl rfl (Nat.le_of_ble_eq_true rfl) ⟨trivial, trivial, trivial⟩ (G_is (by decide) rfl) (by decide) (by decide) ?_
  refine s_X9_isRun ?_
  show WP mX9_reasonAgainst 5 _ _ _ 0 0 _
  have j5 : ∀ s5_0 : Int32, s5_0 = (if (f_X9_isRun run I) = 0 then 1 else (if (f_X6_isLatest (I (383 + Int32.toNatClampNeg run) 0) I) = 0 then 1 else (if (I (383 + Int32.toNatClampNeg run) 5) = 0 then 0 else 2 : Int32) : Int32) : Int32) → Q (.inl (some (.int s5_0))) (G X I L F) := by
    intro s5_0 es5_0
    subst es5_0
    skip
    exact q
  refine w_ifeq rX9_reasonAgainst_5 (fun h5 => ?_) (fun h5 => ?_)
  · skip
    refine w_iconst rX9_reasonAgainst_27 (x := 1) (by decide) ?_
    refine w_ireturn rX9_reasonAgainst_28 trivial ?_
    exact j5 _ (if_pos h5).symm
  · skip
    refine w_aload_n rX9_reasonAgainst_8 rfl ?_
    refine w_getR rX9_reasonAgainst_9 rfl rfl (G_is (by decide) rfl) (x := 9) rfl ?_
    refine w_aload_n rX9_reasonAgainst_12 rfl ?_
    refine w_getR rX9_reasonAgainst_13 rfl rfl (G_is (by decide) rfl) (x := 379) rfl ?_
    refine w_iload_n rX9_reasonAgainst_16 rfl ?_
    refine w_aaload rX9_reasonAgainst_17 (G_aa (by decide) rfl rfl (gd_X9_isRun h5)) (ga_run (gd_X9_isRun h5)) ?_
    refine x_getI rX9_reasonAgainst_18 rfl rfl (G_isk (gi_run (gd_X9_isRun h5))) ?_
    refine w_invokevirtual rX9_reasonAgainst_21 rfl rfl rfl (Nat.le_of_ble_eq_true rfl) ⟨trivial, trivial, trivial⟩ (G_is (by decide) rfl) (by decide) (by decide) ?_
    refine s_X6_isLatest ?_
    show WP mX9_reasonAgainst 24 _ _ _ 0 0 _
    refine w_ifne rX9_reasonAgainst_24 (fun h24 => ?_) (fun h24 => ?_)
    · skip
      refine w_aload_n rX9_reasonAgainst_29 rfl ?_
      refine w_getR rX9_reasonAgainst_30 rfl rfl (G_is (by decide) rfl) (x := 379) rfl ?_
      refine w_iload_n rX9_reasonAgainst_33 rfl ?_
      refine w_aaload rX9_reasonAgainst_34 (G_aa (by decide) rfl rfl (gd_X9_isRun h5)) (ga_run (gd_X9_isRun h5)) ?_
      refine x_getI rX9_reasonAgainst_35 rfl rfl (G_isk (gi_run (gd_X9_isRun h5))) ?_
      have j38 : ∀ s38_0 : Int32, s38_0 = (if (I (383 + Int32.toNatClampNeg run) 5) = 0 then 0 else 2 : Int32) → WP mX9_reasonAgainst 46 [some (.ref 0), some (.int run)] [.int s38_0] (G X I L F) 0 0 Q := by
        intro s38_0 es38_0
        subst es38_0
        skip
        refine w_ireturn rX9_reasonAgainst_46 trivial ?_
        exact j5 _ ((if_neg h5).trans (if_neg h24)).symm
      refine w_ifeq rX9_reasonAgainst_38 (fun h38 => ?_) (fun h38 => ?_)
      · skip
        refine w_iconst rX9_reasonAgainst_45 (x := 0) (by decide) ?_
        exact j38 _ (if_pos h38).symm
      · skip
        refine w_iconst rX9_reasonAgainst_41 (x := 2) (by decide) ?_
        refine w_goto rX9_reasonAgainst_42 ?_
        exact j38 _ (if_neg h38).symm
    · skip
      refine w_iconst rX9_reasonAgainst_27 (x := 1) (by decide) ?_
      refine w_ireturn rX9_reasonAgainst_28 trivial ?_
      exact j5 _ ((if_neg h5).trans (if_pos h24)).symm
def f_X9_isGoodFor (run : Int32) (o : Nat) (I : Nat → Nat → Int32) : Int32 := (if (f_X9_isRun run I) = 0 then 0 else (if (f_X9_reasonAgainst run I) = 0 then (if (f_X6_modelOf (I (383 + Int32.toNatClampNeg run) 0) I) = (I o 3) then 1 else 0 : Int32) else 0 : Int32) : Int32)
theorem s_X9_isGoodFor {X : Nat × (Nat × (Nat → Int32))} {I : Nat → Nat → Int32} {L : Nat → Nat → Int64} {F : Nat → Nat → UInt32} {Q : AQ} {run : Int32} {o : Nat} (ho : isDam o) (q : Q (.inl (some (.int (f_X9_isGoodFor run o I)))) (G X I L F)) : WP mX9_isGoodFor 0 (am_ent 3 [.ref 0, .int run, .ref o]) [] (G X I L F) 0 0 Q := by
  unfold f_X9_isGoodFor at q
  refine w_aload_n rX9_isGoodFor_0 rfl ?_
  refine w_iload_n rX9_isGoodFor_1 rfl ?_
  refine w_invokevirtual rX9_isGoodFor_2 rfl rfl rfl (Nat.le_of_ble_eq_true rfl) ⟨trivial, trivial, trivial⟩ (G_is (by decide) rfl) (by decide) (by decide) ?_
  refine s_X9_isRun ?_
  show WP mX9_isGoodFor 5 _ _ _ 0 0 _
  have j5 : ∀ s5_0 : Int32, s5_0 = (if (f_X9_isRun run I) = 0 then 0 else (if (f_X9_reasonAgainst run I) = 0 then (if (f_X6_modelOf (I (383 + Int32.toNatClampNeg run) 0) I) = (I o 3) then 1 else 0 : Int32) else 0 : Int32) : Int32) → WP mX9_isGoodFor 44 [some (.ref 0), some (.int run), some (.ref o)] [.int s5_0] (G X I L F) 0 0 Q := by
    intro s5_0 es5_0
    subst es5_0
    skip
    refine w_ireturn rX9_isGoodFor_44 (show (if (f_X9_isRun run I) = 0 then 0 else (if (f_X9_reasonAgainst run I) = 0 then (if (f_X6_modelOf (I (383 + Int32.toNatClampNeg run) 0) I) = (I o 3) then 1 else 0 : Int32) else 0 : Int32) : Int32) = 0 ∨ (if (f_X9_isRun run I) = 0 then 0 else (if (f_X9_reasonAgainst run I) = 0 then (if (f_X6_modelOf (I (383 + Int32.toNatClampNeg run) 0) I) = (I o 3) then 1 else 0 : Int32) else 0 : Int32) : Int32) = 1 from by repeat' first | refine b01_ite ?_ ?_ | exact Or.inl rfl | exact Or.inr rfl) ?_
    exact q
  refine w_ifeq rX9_isGoodFor_5 (fun h5 => ?_) (fun h5 => ?_)
  · skip
    refine w_iconst rX9_isGoodFor_43 (x := 0) (by decide) ?_
    exact j5 _ (if_pos h5).symm
  · skip
    refine w_aload_n rX9_isGoodFor_8 rfl ?_
    refine w_iload_n rX9_isGoodFor_9 rfl ?_
    refine w_invokevirtual rX9_isGoodFor_10 rfl rfl rfl (Nat.le_of_ble_eq_true rfl) ⟨trivial, trivial, trivial⟩ (G_is (by decide) rfl) (by decide) (by decide) ?_
    refine s_X9_reasonAgainst ?_
    show WP mX9_isGoodFor 13 _ _ _ 0 0 _
    refine w_ifne rX9_isGoodFor_13 (fun h13 => ?_) (fun h13 => ?_)
    · skip
      refine w_iconst rX9_isGoodFor_43 (x := 0) (by decide) ?_
      exact j5 _ ((if_neg h5).trans (if_neg h13)).symm
    · skip
      refine w_aload_n rX9_isGoodFor_16 rfl ?_
      refine w_getR rX9_isGoodFor_17 rfl rfl (G_is (by decide) rfl) (x := 9) rfl ?_
      refine w_aload_n rX9_isGoodFor_20 rfl ?_
      refine w_getR rX9_isGoodFor_21 rfl rfl (G_is (by decide) rfl) (x := 379) rfl ?_
      refine w_iload_n rX9_isGoodFor_24 rfl ?_
      refine w_aaload rX9_isGoodFor_25 (G_aa (by decide) rfl rfl (gd_X9_isRun h5)) (ga_run (gd_X9_isRun h5)) ?_
      refine x_getI rX9_isGoodFor_26 rfl rfl (G_isk (gi_run (gd_X9_isRun h5))) ?_
      refine w_invokevirtual rX9_isGoodFor_29 rfl rfl rfl (Nat.le_of_ble_eq_true rfl) ⟨trivial, trivial, trivial⟩ (G_is (by decide) rfl) (by decide) (by decide) ?_
      refine s_X6_modelOf ?_
      show WP mX9_isGoodFor 32 _ _ _ 0 0 _
      refine w_aload_n rX9_isGoodFor_32 rfl ?_
      refine x_getI rX9_isGoodFor_33 rfl rfl (G_isk ho.1) ?_
      refine w_icmpne rX9_isGoodFor_36 (fun h36 => ?_) (fun h36 => ?_)
      · skip
        refine w_iconst rX9_isGoodFor_43 (x := 0) (by decide) ?_
        exact j5 _ (((if_neg h5).trans (if_pos h13)).trans (if_neg h36)).symm
      · skip
        refine w_iconst rX9_isGoodFor_39 (x := 1) (by decide) ?_
        refine w_goto rX9_isGoodFor_40 ?_
        exact j5 _ (((if_neg h5).trans (if_pos h13)).trans (if_pos h36)).symm
theorem b01_X9_isGoodFor {run : Int32} {o : Nat} {I : Nat → Nat → Int32} : (f_X9_isGoodFor run o I) = 0 ∨ (f_X9_isGoodFor run o I) = 1 := by
  unfold f_X9_isGoodFor
  repeat' first | refine b01_ite ?_ ?_ | exact Or.inl rfl | exact Or.inr rfl | exact b01_X9_isRun
