/-! own: methods as functions, written by a program -/
set_option maxRecDepth 100000
def p_X10_trust (dam : Int32) : Prop := ((¬ (f_X10_holds (if (f_X10_isDam dam) = 0 then 1 else 0 : Int32)) = 0 → vp_in dam 3 ∧ (True))) ∧ (True)
def f_X10_trust (dam : Int32) (F : Nat → Nat → UInt32) : Int32 := (if (f_X10_holds (if (f_X10_isDam dam) = 0 then 1 else 0 : Int32)) = 0 then 0 else (f_Jxf58ca_floatToIntBits_5c35a (F 530 (Int32.toNatClampNeg dam))) : Int32)
def fI_X10_trust (dam : Int32) (I : Nat → Nat → Int32) : Nat → Nat → Int32 := (fI_X10_holds (if (f_X10_isDam dam) = 0 then 1 else 0 : Int32) I)
theorem s_X10_trust {X : Nat × (Nat → Int32)} {I : Nat → Nat → Int32} {L : Nat → Nat → Int64} {F : Nat → Nat → UInt32} {Q : AQ} {dam : Int32} (p : (p_X10_trust dam)) (q : Q (.inl (some (.int (f_X10_trust dam F)))) (G X (fI_X10_trust dam I) L F)) : WP mX10_trust 0 (am_ent 2 [.ref 498, .int dam]) [] (G X I L F) 0 0 Q := by
  unfold f_X10_trust fI_X10_trust at q
  unfold p_X10_trust at p
  have q0 := q
  clear q
  have q : ((¬ (f_X10_holds (if (f_X10_isDam dam) = 0 then 1 else 0 : Int32)) = 0 → vp_in dam 3 ∧ (True))) ∧ (Q (.inl (some (.int (if (f_X10_holds (if (f_X10_isDam dam) = 0 then 1 else 0 : Int32)) = 0 then 0 else (f_Jxf58ca_floatToIntBits_5c35a (F 530 (Int32.toNatClampNeg dam))) : Int32)))) (G X (fI_X10_holds (if (f_X10_isDam dam) = 0 then 1 else 0 : Int32) I) L F)) := by
    exact ⟨p.1, q0⟩
  clear p q0
  refine w_aload_n rX10_trust_0 rfl ?_
  refine w_iload_n rX10_trust_1 rfl ?_
  refine w_invokestatic rX10_trust_2 rfl rfl rfl (Nat.le_of_ble_eq_true rfl) ⟨trivial, trivial⟩ trivial (by decide) (by decide) ?_
  refine s_X10_isDam ?_
  show WP mX10_trust 5 _ _ _ 0 0 _
  have j5 : ∀ s5_1 : Int32, s5_1 = (if (f_X10_isDam dam) = 0 then 1 else 0 : Int32) → WP mX10_trust 13 [some (.ref 498), some (.int dam)] [.ref 498, .int s5_1] (G X I L F) 0 0 Q := by
    intro s5_1 es5_1
    subst es5_1
    skip
    refine w_invokevirtual rX10_trust_13 rfl rfl rfl (Nat.le_of_ble_eq_true rfl) ⟨trivial, trivial, trivial⟩ (G_is (by decide) rfl) (by decide) (by decide) ?_
    refine s_X10_holds ?_
    show WP mX10_trust 16 _ _ _ 0 0 _
    have j16 : ∀ s16_0 : Int32, s16_0 = (if (f_X10_holds (if (f_X10_isDam dam) = 0 then 1 else 0 : Int32)) = 0 then 0 else (f_Jxf58ca_floatToIntBits_5c35a (F 530 (Int32.toNatClampNeg dam))) : Int32) → WP mX10_trust 32 [some (.ref 498), some (.int dam)] [.int s16_0] (G X (fI_X10_holds (if (f_X10_isDam dam) = 0 then 1 else 0 : Int32) I) L F) 0 0 Q := by
      intro s16_0 es16_0
      subst es16_0
      skip
      replace q := q.2
      refine w_ireturn rX10_trust_32 trivial ?_
      exact q
    replace q := q.1
    refine w_ifeq rX10_trust_16 (fun h16 => ?_) (fun h16 => ?_)
    · skip
      refine w_iconst rX10_trust_31 (x := 0) (by decide) ?_
      exact j16 _ (if_pos h16).symm
    · replace q := q h16
      refine w_aload_n rX10_trust_19 rfl ?_
      refine w_getR rX10_trust_20 rfl rfl (G_is (by decide) rfl) (x := 530) rfl ?_
      refine w_iload_n rX10_trust_23 rfl ?_
      have h24 := q.1
      replace q := q.2
      refine w_faload rX10_trust_24 (G_at (by decide) rfl rfl h24) ?_
      refine w_invokestatic rX10_trust_25 rfl rfl rfl (Nat.le_of_ble_eq_true rfl) ⟨trivial, trivial⟩ trivial (by decide) (by decide) ?_
      refine s_Jxf58ca_floatToIntBits_5c35a ?_
      show WP mX10_trust 28 _ _ _ 0 0 _
      refine w_goto rX10_trust_28 ?_
      exact j16 _ (if_neg h16).symm
  refine w_ifeq rX10_trust_5 (fun h5 => ?_) (fun h5 => ?_)
  · skip
    refine w_iconst rX10_trust_12 (x := 1) (by decide) ?_
    exact j5 _ (if_pos h5).symm
  · skip
    refine w_iconst rX10_trust_8 (x := 0) (by decide) ?_
    refine w_goto rX10_trust_9 ?_
    exact j5 _ (if_neg h5).symm
def f_J0_length_8abf5  : Int32 := ((8 : Int32) >>> (0 &&& 31 : Int32))
theorem s_J0_length_8abf5 {X : Nat × (Nat → Int32)} {I : Nat → Nat → Int32} {L : Nat → Nat → Int64} {F : Nat → Nat → UInt32} {Q : AQ}  (q : Q (.inl (some (.int f_J0_length_8abf5))) (G X I L F)) : WP mJ0_length_8abf5 0 (am_ent 1 [.ref 1000001]) [] (G X I L F) 0 0 Q := by
  unfold f_J0_length_8abf5 at q
  refine w_aload_n rJ0_length_8abf5_0 rfl ?_
  refine w_getSv rJ0_length_8abf5_1 ?_
  refine w_lenS rJ0_length_8abf5_4 ?_
  refine w_aload_n rJ0_length_8abf5_5 rfl ?_
  refine w_invokevirtual rJ0_length_8abf5_6 rfl rfl rfl (Nat.le_of_ble_eq_true rfl) ⟨trivial, trivial⟩ rfl (by decide) (by decide) ?_
  refine s_J0_coder_7d493 ?_
  show WP mJ0_length_8abf5 9 _ _ _ 0 0 _
  refine w_ishr rJ0_length_8abf5_9 ?_
  refine w_ireturn rJ0_length_8abf5_10 trivial ?_
  exact q
def f_X3_startsFactor (ch : Int32) (I : Nat → Nat → Int32) : Int32 := (if ch = 40 then (f_X3_hold 12 0 I) else (if ch = 45 then (f_X3_hold 6 0 I) else (if ch = 97 then (f_X3_startsFunction 11 0 I) else (if ch = 102 then (if (I 3 5) = 0 then 0 else 1 : Int32) else (if ch = 103 then (if (I 3 5) = 0 then 1 else 0 : Int32) else (if ch = 104 then 1 else (if ch = 105 then (f_X3_startsFunction 9 2 I) else (if ch = 108 then (if (I 3 5) = 0 then 0 else 1 : Int32) else (if ch = 109 then (if (I 3 5) = 0 then 1 else 0 : Int32) else (if ch = 110 then (f_X3_startsFunction 8 1 I) else (if ch = 112 then (if (I 3 5) = 0 then 1 else 0 : Int32) else (if ch = 113 then (if (I 3 5) = 0 then 1 else 0 : Int32) else (if ch = 114 then (if (I 3 5) = 0 then 0 else 1 : Int32) else (if ch = 116 then (f_X3_startsFunction 10 0 I) else (if ch = 120 then (f_X3_startsFunction 7 1 I) else 0 : Int32) : Int32) : Int32) : Int32) : Int32) : Int32) : Int32) : Int32) : Int32) : Int32) : Int32) : Int32) : Int32) : Int32) : Int32)
def fI_X3_startsFactor (ch : Int32) (I : Nat → Nat → Int32) : Nat → Nat → Int32 := (if ch = 40 then (fI_X3_hold 12 0 I) else (if ch = 45 then (fI_X3_hold 6 0 I) else (if ch = 97 then (fI_X3_startsFunction 11 0 I) else (if ch = 102 then (if (I 3 5) = 0 then I else (fI_X3_endsName 18 I) : Nat → Nat → Int32) else (if ch = 103 then (if (I 3 5) = 0 then (fI_X3_startsName 0 3 I) else I : Nat → Nat → Int32) else (if ch = 104 then (fI_X3_endsName 16 I) else (if ch = 105 then (fI_X3_startsFunction 9 2 I) else (if ch = 108 then (if (I 3 5) = 0 then I else (fI_X3_endsName 17 I) : Nat → Nat → Int32) else (if ch = 109 then (if (I 3 5) = 0 then (fI_X3_startsName 3 6 I) else I : Nat → Nat → Int32) else (if ch = 110 then (fI_X3_startsFunction 8 1 I) else (if ch = 112 then (if (I 3 5) = 0 then (fI_X3_endsName 15 I) else I : Nat → Nat → Int32) else (if ch = 113 then (if (I 3 5) = 0 then (fI_X3_startsName 9 6 I) else I : Nat → Nat → Int32) else (if ch = 114 then (if (I 3 5) = 0 then I else (fI_X3_endsName 19 I) : Nat → Nat → Int32) else (if ch = 116 then (fI_X3_startsFunction 10 0 I) else (if ch = 120 then (fI_X3_startsFunction 7 1 I) else I : Nat → Nat → Int32) : Nat → Nat → Int32) : Nat → Nat → Int32) : Nat → Nat → Int32) : Nat → Nat → Int32) : Nat → Nat → Int32) : Nat → Nat → Int32) : Nat → Nat → Int32) : Nat → Nat → Int32) : Nat → Nat → Int32) : Nat → Nat → Int32) : Nat → Nat → Int32) : Nat → Nat → Int32) : Nat → Nat → Int32) : Nat → Nat → Int32)
theorem s_X3_startsFactor {X : Nat × (Nat → Int32)} {I : Nat → Nat → Int32} {L : Nat → Nat → Int64} {F : Nat → Nat → UInt32} {Q : AQ} {ch : Int32} (q : Q (.inl (some (.int (f_X3_startsFactor ch I)))) (G X (fI_X3_startsFactor ch I) L F)) : WP mX3_startsFactor 0 (am_ent 2 [.ref 3, .int ch]) [] (G X I L F) 0 0 Q := by
  unfold f_X3_startsFactor fI_X3_startsFactor at q
  refine w_iload_n rX3_startsFactor_0 rfl ?_
  have j1 : ∀ I1 : Nat → Nat → Int32, I1 = (if ch = 40 then (fI_X3_hold 12 0 I) else (if ch = 45 then (fI_X3_hold 6 0 I) else (if ch = 97 then (fI_X3_startsFunction 11 0 I) else (if ch = 102 then (if (I 3 5) = 0 then I else (fI_X3_endsName 18 I) : Nat → Nat → Int32) else (if ch = 103 then (if (I 3 5) = 0 then (fI_X3_startsName 0 3 I) else I : Nat → Nat → Int32) else (if ch = 104 then (fI_X3_endsName 16 I) else (if ch = 105 then (fI_X3_startsFunction 9 2 I) else (if ch = 108 then (if (I 3 5) = 0 then I else (fI_X3_endsName 17 I) : Nat → Nat → Int32) else (if ch = 109 then (if (I 3 5) = 0 then (fI_X3_startsName 3 6 I) else I : Nat → Nat → Int32) else (if ch = 110 then (fI_X3_startsFunction 8 1 I) else (if ch = 112 then (if (I 3 5) = 0 then (fI_X3_endsName 15 I) else I : Nat → Nat → Int32) else (if ch = 113 then (if (I 3 5) = 0 then (fI_X3_startsName 9 6 I) else I : Nat → Nat → Int32) else (if ch = 114 then (if (I 3 5) = 0 then I else (fI_X3_endsName 19 I) : Nat → Nat → Int32) else (if ch = 116 then (fI_X3_startsFunction 10 0 I) else (if ch = 120 then (fI_X3_startsFunction 7 1 I) else I : Nat → Nat → Int32) : Nat → Nat → Int32) : Nat → Nat → Int32) : Nat → Nat → Int32) : Nat → Nat → Int32) : Nat → Nat → Int32) : Nat → Nat → Int32) : Nat → Nat → Int32) : Nat → Nat → Int32) : Nat → Nat → Int32) : Nat → Nat → Int32) : Nat → Nat → Int32) : Nat → Nat → Int32) : Nat → Nat → Int32) : Nat → Nat → Int32) → ∀ s1_0 : Int32, s1_0 = (if ch = 40 then (f_X3_hold 12 0 I) else (if ch = 45 then (f_X3_hold 6 0 I) else (if ch = 97 then (f_X3_startsFunction 11 0 I) else (if ch = 102 then (if (I 3 5) = 0 then 0 else 1 : Int32) else (if ch = 103 then (if (I 3 5) = 0 then 1 else 0 : Int32) else (if ch = 104 then 1 else (if ch = 105 then (f_X3_startsFunction 9 2 I) else (if ch = 108 then (if (I 3 5) = 0 then 0 else 1 : Int32) else (if ch = 109 then (if (I 3 5) = 0 then 1 else 0 : Int32) else (if ch = 110 then (f_X3_startsFunction 8 1 I) else (if ch = 112 then (if (I 3 5) = 0 then 1 else 0 : Int32) else (if ch = 113 then (if (I 3 5) = 0 then 1 else 0 : Int32) else (if ch = 114 then (if (I 3 5) = 0 then 0 else 1 : Int32) else (if ch = 116 then (f_X3_startsFunction 10 0 I) else (if ch = 120 then (f_X3_startsFunction 7 1 I) else 0 : Int32) : Int32) : Int32) : Int32) : Int32) : Int32) : Int32) : Int32) : Int32) : Int32) : Int32) : Int32) : Int32) : Int32) : Int32) → Q (.inl (some (.int s1_0))) (G X I1 L F) := by
    intro I1 eI1 s1_0 es1_0
    subst eI1
    subst es1_0
    skip
    exact q
  refine w_lsw rX3_startsFactor_1 ?_
  refine ⟨fun h1_0 => ?_, fun h1_0 => ?_⟩
  · skip
    refine w_aload_n rX3_startsFactor_140 rfl ?_
    refine w_bipush rX3_startsFactor_141 (x := 12) (by decide) ?_
    refine w_iconst rX3_startsFactor_143 (x := 0) (by decide) ?_
    refine w_invokevirtual rX3_startsFactor_144 rfl rfl rfl (Nat.le_of_ble_eq_true rfl) ⟨trivial, trivial, trivial, trivial⟩ (G_is (by decide) rfl) (by decide) (by decide) ?_
    refine s_X3_hold ?_
    show WP mX3_startsFactor 147 _ _ _ 0 0 _
    refine w_ireturn rX3_startsFactor_147 b01_X3_hold ?_
    exact j1 _ (if_pos h1_0).symm _ (if_pos h1_0).symm
  · skip
    refine ⟨fun h1_1 => ?_, fun h1_1 => ?_⟩
    · skip
      refine w_aload_n rX3_startsFactor_132 rfl ?_
      refine w_bipush rX3_startsFactor_133 (x := 6) (by decide) ?_
      refine w_iconst rX3_startsFactor_135 (x := 0) (by decide) ?_
      refine w_invokevirtual rX3_startsFactor_136 rfl rfl rfl (Nat.le_of_ble_eq_true rfl) ⟨trivial, trivial, trivial, trivial⟩ (G_is (by decide) rfl) (by decide) (by decide) ?_
      refine s_X3_hold ?_
      show WP mX3_startsFactor 139 _ _ _ 0 0 _
      refine w_ireturn rX3_startsFactor_139 b01_X3_hold ?_
      exact j1 _ ((if_neg h1_0).trans (if_pos h1_1)).symm _ ((if_neg h1_0).trans (if_pos h1_1)).symm
    · skip
      refine ⟨fun h1_2 => ?_, fun h1_2 => ?_⟩
      · skip
        refine w_aload_n rX3_startsFactor_180 rfl ?_
        refine w_bipush rX3_startsFactor_181 (x := 11) (by decide) ?_
        refine w_iconst rX3_startsFactor_183 (x := 0) (by decide) ?_
        refine w_invokevirtual rX3_startsFactor_184 rfl rfl rfl (Nat.le_of_ble_eq_true rfl) ⟨trivial, trivial, trivial, trivial⟩ (G_is (by decide) rfl) (by decide) (by decide) ?_
        refine s_X3_startsFunction ?_
        show WP mX3_startsFactor 187 _ _ _ 0 0 _
        refine w_ireturn rX3_startsFactor_187 b01_X3_startsFunction ?_
        exact j1 _ (((if_neg h1_0).trans (if_neg h1_1)).trans (if_pos h1_2)).symm _ (((if_neg h1_0).trans (if_neg h1_1)).trans (if_pos h1_2)).symm
      · skip
        refine ⟨fun h1_3 => ?_, fun h1_3 => ?_⟩
        · skip
          refine w_aload_n rX3_startsFactor_308 rfl ?_
          refine w_getI rX3_startsFactor_309 rfl rfl (G_is (by decide) rfl) ?_
          have j312 : ∀ I312 : Nat → Nat → Int32, I312 = (if (I 3 5) = 0 then I else (fI_X3_endsName 18 I) : Nat → Nat → Int32) → ∀ s312_0 : Int32, s312_0 = (if (I 3 5) = 0 then 0 else 1 : Int32) → WP mX3_startsFactor 329 [some (.ref 3), some (.int ch)] [.int s312_0] (G X I312 L F) 0 0 Q := by
            intro I312 eI312 s312_0 es312_0
            subst eI312
            subst es312_0
            skip
            refine w_ireturn rX3_startsFactor_329 (by repeat' split
                                        all_goals first | exact Or.inl rfl | exact Or.inr rfl) ?_
            exact j1 _ ((((if_neg h1_0).trans (if_neg h1_1)).trans (if_neg h1_2)).trans (if_pos h1_3)).symm _ ((((if_neg h1_0).trans (if_neg h1_1)).trans (if_neg h1_2)).trans (if_pos h1_3)).symm
          refine w_ifeq rX3_startsFactor_312 (fun h312 => ?_) (fun h312 => ?_)
          · skip
            refine w_iconst rX3_startsFactor_328 (x := 0) (by decide) ?_
            exact j312 _ (if_pos h312).symm _ (if_pos h312).symm
          · skip
            refine w_aload_n rX3_startsFactor_315 rfl ?_
            refine w_bipush rX3_startsFactor_316 (x := 18) (by decide) ?_
            refine w_invokevirtual rX3_startsFactor_318 rfl rfl rfl (Nat.le_of_ble_eq_true rfl) ⟨trivial, trivial, trivial⟩ (G_is (by decide) rfl) (by decide) (by decide) ?_
            refine s_X3_endsName ?_
            show WP mX3_startsFactor 321 _ _ _ 0 0 _
            refine w_ifeq rX3_startsFactor_321 (fun h => absurd h (by decide)) (fun _ => ?_)
            refine w_iconst rX3_startsFactor_324 (x := 1) (by decide) ?_
            refine w_goto rX3_startsFactor_325 ?_
            exact j312 _ (if_neg h312).symm _ (if_neg h312).symm
        · skip
          refine ⟨fun h1_4 => ?_, fun h1_4 => ?_⟩
          · skip
            refine w_aload_n rX3_startsFactor_217 rfl ?_
            refine w_getI rX3_startsFactor_218 rfl rfl (G_is (by decide) rfl) ?_
            have j221 : ∀ I221 : Nat → Nat → Int32, I221 = (if (I 3 5) = 0 then (fI_X3_startsName 0 3 I) else I : Nat → Nat → Int32) → ∀ s221_0 : Int32, s221_0 = (if (I 3 5) = 0 then 1 else 0 : Int32) → WP mX3_startsFactor 238 [some (.ref 3), some (.int ch)] [.int s221_0] (G X I221 L F) 0 0 Q := by
              intro I221 eI221 s221_0 es221_0
              subst eI221
              subst es221_0
              skip
              refine w_ireturn rX3_startsFactor_238 (by repeat' split
                                        all_goals first | exact Or.inl rfl | exact Or.inr rfl) ?_
              exact j1 _ (((((if_neg h1_0).trans (if_neg h1_1)).trans (if_neg h1_2)).trans (if_neg h1_3)).trans (if_pos h1_4)).symm _ (((((if_neg h1_0).trans (if_neg h1_1)).trans (if_neg h1_2)).trans (if_neg h1_3)).trans (if_pos h1_4)).symm
            refine w_ifne rX3_startsFactor_221 (fun h221 => ?_) (fun h221 => ?_)
            · skip
              refine w_iconst rX3_startsFactor_237 (x := 0) (by decide) ?_
              exact j221 _ (if_neg h221).symm _ (if_neg h221).symm
            · skip
              refine w_aload_n rX3_startsFactor_224 rfl ?_
              refine w_iconst rX3_startsFactor_225 (x := 0) (by decide) ?_
              refine w_iconst rX3_startsFactor_226 (x := 3) (by decide) ?_
              refine w_invokevirtual rX3_startsFactor_227 rfl rfl rfl (Nat.le_of_ble_eq_true rfl) ⟨trivial, trivial, trivial, trivial⟩ (G_is (by decide) rfl) (by decide) (by decide) ?_
              refine s_X3_startsName ?_
              show WP mX3_startsFactor 230 _ _ _ 0 0 _
              refine w_ifeq rX3_startsFactor_230 (fun h => absurd h (by decide)) (fun _ => ?_)
              refine w_iconst rX3_startsFactor_233 (x := 1) (by decide) ?_
              refine w_goto rX3_startsFactor_234 ?_
              exact j221 _ (if_pos h221).symm _ (if_pos h221).symm
          · skip
            refine ⟨fun h1_5 => ?_, fun h1_5 => ?_⟩
            · skip
              refine w_aload_n rX3_startsFactor_188 rfl ?_
              refine w_bipush rX3_startsFactor_189 (x := 16) (by decide) ?_
              refine w_invokevirtual rX3_startsFactor_191 rfl rfl rfl (Nat.le_of_ble_eq_true rfl) ⟨trivial, trivial, trivial⟩ (G_is (by decide) rfl) (by decide) (by decide) ?_
              refine s_X3_endsName ?_
              show WP mX3_startsFactor 194 _ _ _ 0 0 _
              refine w_ireturn rX3_startsFactor_194 (Or.inr rfl) ?_
              exact j1 _ ((((((if_neg h1_0).trans (if_neg h1_1)).trans (if_neg h1_2)).trans (if_neg h1_3)).trans (if_neg h1_4)).trans (if_pos h1_5)).symm _ ((((((if_neg h1_0).trans (if_neg h1_1)).trans (if_neg h1_2)).trans (if_neg h1_3)).trans (if_neg h1_4)).trans (if_pos h1_5)).symm
            · skip
              refine ⟨fun h1_6 => ?_, fun h1_6 => ?_⟩
              · skip
                refine w_aload_n rX3_startsFactor_164 rfl ?_
                refine w_bipush rX3_startsFactor_165 (x := 9) (by decide) ?_
                refine w_iconst rX3_startsFactor_167 (x := 2) (by decide) ?_
                refine w_invokevirtual rX3_startsFactor_168 rfl rfl rfl (Nat.le_of_ble_eq_true rfl) ⟨trivial, trivial, trivial, trivial⟩ (G_is (by decide) rfl) (by decide) (by decide) ?_
                refine s_X3_startsFunction ?_
                show WP mX3_startsFactor 171 _ _ _ 0 0 _
                refine w_ireturn rX3_startsFactor_171 b01_X3_startsFunction ?_
                exact j1 _ (((((((if_neg h1_0).trans (if_neg h1_1)).trans (if_neg h1_2)).trans (if_neg h1_3)).trans (if_neg h1_4)).trans (if_neg h1_5)).trans (if_pos h1_6)).symm _ (((((((if_neg h1_0).trans (if_neg h1_1)).trans (if_neg h1_2)).trans (if_neg h1_3)).trans (if_neg h1_4)).trans (if_neg h1_5)).trans (if_pos h1_6)).symm
              · skip
                refine ⟨fun h1_7 => ?_, fun h1_7 => ?_⟩
                · skip
                  refine w_aload_n rX3_startsFactor_286 rfl ?_
                  refine w_getI rX3_startsFactor_287 rfl rfl (G_is (by decide) rfl) ?_
                  have j290 : ∀ I290 : Nat → Nat → Int32, I290 = (if (I 3 5) = 0 then I else (fI_X3_endsName 17 I) : Nat → Nat → Int32) → ∀ s290_0 : Int32, s290_0 = (if (I 3 5) = 0 then 0 else 1 : Int32) → WP mX3_startsFactor 307 [some (.ref 3), some (.int ch)] [.int s290_0] (G X I290 L F) 0 0 Q := by
                    intro I290 eI290 s290_0 es290_0
                    subst eI290
                    subst es290_0
                    skip
                    refine w_ireturn rX3_startsFactor_307 (by repeat' split
                                        all_goals first | exact Or.inl rfl | exact Or.inr rfl) ?_
                    exact j1 _ ((((((((if_neg h1_0).trans (if_neg h1_1)).trans (if_neg h1_2)).trans (if_neg h1_3)).trans (if_neg h1_4)).trans (if_neg h1_5)).trans (if_neg h1_6)).trans (if_pos h1_7)).symm _ ((((((((if_neg h1_0).trans (if_neg h1_1)).trans (if_neg h1_2)).trans (if_neg h1_3)).trans (if_neg h1_4)).trans (if_neg h1_5)).trans (if_neg h1_6)).trans (if_pos h1_7)).symm
                  refine w_ifeq rX3_startsFactor_290 (fun h290 => ?_) (fun h290 => ?_)
                  · skip
                    refine w_iconst rX3_startsFactor_306 (x := 0) (by decide) ?_
                    exact j290 _ (if_pos h290).symm _ (if_pos h290).symm
                  · skip
                    refine w_aload_n rX3_startsFactor_293 rfl ?_
                    refine w_bipush rX3_startsFactor_294 (x := 17) (by decide) ?_
                    refine w_invokevirtual rX3_startsFactor_296 rfl rfl rfl (Nat.le_of_ble_eq_true rfl) ⟨trivial, trivial, trivial⟩ (G_is (by decide) rfl) (by decide) (by decide) ?_
                    refine s_X3_endsName ?_
                    show WP mX3_startsFactor 299 _ _ _ 0 0 _
                    refine w_ifeq rX3_startsFactor_299 (fun h => absurd h (by decide)) (fun _ => ?_)
                    refine w_iconst rX3_startsFactor_302 (x := 1) (by decide) ?_
                    refine w_goto rX3_startsFactor_303 ?_
                    exact j290 _ (if_neg h290).symm _ (if_neg h290).symm
                · skip
                  refine ⟨fun h1_8 => ?_, fun h1_8 => ?_⟩
                  · skip
                    refine w_aload_n rX3_startsFactor_239 rfl ?_
                    refine w_getI rX3_startsFactor_240 rfl rfl (G_is (by decide) rfl) ?_
                    have j243 : ∀ I243 : Nat → Nat → Int32, I243 = (if (I 3 5) = 0 then (fI_X3_startsName 3 6 I) else I : Nat → Nat → Int32) → ∀ s243_0 : Int32, s243_0 = (if (I 3 5) = 0 then 1 else 0 : Int32) → WP mX3_startsFactor 261 [some (.ref 3), some (.int ch)] [.int s243_0] (G X I243 L F) 0 0 Q := by
                      intro I243 eI243 s243_0 es243_0
                      subst eI243
                      subst es243_0
                      skip
                      refine w_ireturn rX3_startsFactor_261 (by repeat' split
                                        all_goals first | exact Or.inl rfl | exact Or.inr rfl) ?_
                      exact j1 _ (((((((((if_neg h1_0).trans (if_neg h1_1)).trans (if_neg h1_2)).trans (if_neg h1_3)).trans (if_neg h1_4)).trans (if_neg h1_5)).trans (if_neg h1_6)).trans (if_neg h1_7)).trans (if_pos h1_8)).symm _ (((((((((if_neg h1_0).trans (if_neg h1_1)).trans (if_neg h1_2)).trans (if_neg h1_3)).trans (if_neg h1_4)).trans (if_neg h1_5)).trans (if_neg h1_6)).trans (if_neg h1_7)).trans (if_pos h1_8)).symm
                    refine w_ifne rX3_startsFactor_243 (fun h243 => ?_) (fun h243 => ?_)
                    · skip
                      refine w_iconst rX3_startsFactor_260 (x := 0) (by decide) ?_
                      exact j243 _ (if_neg h243).symm _ (if_neg h243).symm
                    · skip
                      refine w_aload_n rX3_startsFactor_246 rfl ?_
                      refine w_iconst rX3_startsFactor_247 (x := 3) (by decide) ?_
                      refine w_bipush rX3_startsFactor_248 (x := 6) (by decide) ?_
                      refine w_invokevirtual rX3_startsFactor_250 rfl rfl rfl (Nat.le_of_ble_eq_true rfl) ⟨trivial, trivial, trivial, trivial⟩ (G_is (by decide) rfl) (by decide) (by decide) ?_
                      refine s_X3_startsName ?_
                      show WP mX3_startsFactor 253 _ _ _ 0 0 _
                      refine w_ifeq rX3_startsFactor_253 (fun h => absurd h (by decide)) (fun _ => ?_)
                      refine w_iconst rX3_startsFactor_256 (x := 1) (by decide) ?_
                      refine w_goto rX3_startsFactor_257 ?_
                      exact j243 _ (if_pos h243).symm _ (if_pos h243).symm
                  · skip
                    refine ⟨fun h1_9 => ?_, fun h1_9 => ?_⟩
                    · skip
                      refine w_aload_n rX3_startsFactor_156 rfl ?_
                      refine w_bipush rX3_startsFactor_157 (x := 8) (by decide) ?_
                      refine w_iconst rX3_startsFactor_159 (x := 1) (by decide) ?_
                      refine w_invokevirtual rX3_startsFactor_160 rfl rfl rfl (Nat.le_of_ble_eq_true rfl) ⟨trivial, trivial, trivial, trivial⟩ (G_is (by decide) rfl) (by decide) (by decide) ?_
                      refine s_X3_startsFunction ?_
                      show WP mX3_startsFactor 163 _ _ _ 0 0 _
                      refine w_ireturn rX3_startsFactor_163 b01_X3_startsFunction ?_
                      exact j1 _ ((((((((((if_neg h1_0).trans (if_neg h1_1)).trans (if_neg h1_2)).trans (if_neg h1_3)).trans (if_neg h1_4)).trans (if_neg h1_5)).trans (if_neg h1_6)).trans (if_neg h1_7)).trans (if_neg h1_8)).trans (if_pos h1_9)).symm _ ((((((((((if_neg h1_0).trans (if_neg h1_1)).trans (if_neg h1_2)).trans (if_neg h1_3)).trans (if_neg h1_4)).trans (if_neg h1_5)).trans (if_neg h1_6)).trans (if_neg h1_7)).trans (if_neg h1_8)).trans (if_pos h1_9)).symm
                    · skip
                      refine ⟨fun h1_10 => ?_, fun h1_10 => ?_⟩
                      · skip
                        refine w_aload_n rX3_startsFactor_195 rfl ?_
                        refine w_getI rX3_startsFactor_196 rfl rfl (G_is (by decide) rfl) ?_
                        have j199 : ∀ I199 : Nat → Nat → Int32, I199 = (if (I 3 5) = 0 then (fI_X3_endsName 15 I) else I : Nat → Nat → Int32) → ∀ s199_0 : Int32, s199_0 = (if (I 3 5) = 0 then 1 else 0 : Int32) → WP mX3_startsFactor 216 [some (.ref 3), some (.int ch)] [.int s199_0] (G X I199 L F) 0 0 Q := by
                          intro I199 eI199 s199_0 es199_0
                          subst eI199
                          subst es199_0
                          skip
                          refine w_ireturn rX3_startsFactor_216 (by repeat' split
                                        all_goals first | exact Or.inl rfl | exact Or.inr rfl) ?_
                          exact j1 _ (((((((((((if_neg h1_0).trans (if_neg h1_1)).trans (if_neg h1_2)).trans (if_neg h1_3)).trans (if_neg h1_4)).trans (if_neg h1_5)).trans (if_neg h1_6)).trans (if_neg h1_7)).trans (if_neg h1_8)).trans (if_neg h1_9)).trans (if_pos h1_10)).symm _ (((((((((((if_neg h1_0).trans (if_neg h1_1)).trans (if_neg h1_2)).trans (if_neg h1_3)).trans (if_neg h1_4)).trans (if_neg h1_5)).trans (if_neg h1_6)).trans (if_neg h1_7)).trans (if_neg h1_8)).trans (if_neg h1_9)).trans (if_pos h1_10)).symm
                        refine w_ifne rX3_startsFactor_199 (fun h199 => ?_) (fun h199 => ?_)
                        · skip
                          refine w_iconst rX3_startsFactor_215 (x := 0) (by decide) ?_
                          exact j199 _ (if_neg h199).symm _ (if_neg h199).symm
                        · skip
                          refine w_aload_n rX3_startsFactor_202 rfl ?_
                          refine w_bipush rX3_startsFactor_203 (x := 15) (by decide) ?_
                          refine w_invokevirtual rX3_startsFactor_205 rfl rfl rfl (Nat.le_of_ble_eq_true rfl) ⟨trivial, trivial, trivial⟩ (G_is (by decide) rfl) (by decide) (by decide) ?_
                          refine s_X3_endsName ?_
                          show WP mX3_startsFactor 208 _ _ _ 0 0 _
                          refine w_ifeq rX3_startsFactor_208 (fun h => absurd h (by decide)) (fun _ => ?_)
                          refine w_iconst rX3_startsFactor_211 (x := 1) (by decide) ?_
                          refine w_goto rX3_startsFactor_212 ?_
                          exact j199 _ (if_pos h199).symm _ (if_pos h199).symm
                      · skip
                        refine ⟨fun h1_11 => ?_, fun h1_11 => ?_⟩
                        · skip
                          refine w_aload_n rX3_startsFactor_262 rfl ?_
                          refine w_getI rX3_startsFactor_263 rfl rfl (G_is (by decide) rfl) ?_
                          have j266 : ∀ I266 : Nat → Nat → Int32, I266 = (if (I 3 5) = 0 then (fI_X3_startsName 9 6 I) else I : Nat → Nat → Int32) → ∀ s266_0 : Int32, s266_0 = (if (I 3 5) = 0 then 1 else 0 : Int32) → WP mX3_startsFactor 285 [some (.ref 3), some (.int ch)] [.int s266_0] (G X I266 L F) 0 0 Q := by
                            intro I266 eI266 s266_0 es266_0
                            subst eI266
                            subst es266_0
                            skip
                            refine w_ireturn rX3_startsFactor_285 (by repeat' split
                                        all_goals first | exact Or.inl rfl | exact Or.inr rfl) ?_
                            exact j1 _ ((((((((((((if_neg h1_0).trans (if_neg h1_1)).trans (if_neg h1_2)).trans (if_neg h1_3)).trans (if_neg h1_4)).trans (if_neg h1_5)).trans (if_neg h1_6)).trans (if_neg h1_7)).trans (if_neg h1_8)).trans (if_neg h1_9)).trans (if_neg h1_10)).trans (if_pos h1_11)).symm _ ((((((((((((if_neg h1_0).trans (if_neg h1_1)).trans (if_neg h1_2)).trans (if_neg h1_3)).trans (if_neg h1_4)).trans (if_neg h1_5)).trans (if_neg h1_6)).trans (if_neg h1_7)).trans (if_neg h1_8)).trans (if_neg h1_9)).trans (if_neg h1_10)).trans (if_pos h1_11)).symm
                          refine w_ifne rX3_startsFactor_266 (fun h266 => ?_) (fun h266 => ?_)
                          · skip
                            refine w_iconst rX3_startsFactor_284 (x := 0) (by decide) ?_
                            exact j266 _ (if_neg h266).symm _ (if_neg h266).symm
                          · skip
                            refine w_aload_n rX3_startsFactor_269 rfl ?_
                            refine w_bipush rX3_startsFactor_270 (x := 9) (by decide) ?_
                            refine w_bipush rX3_startsFactor_272 (x := 6) (by decide) ?_
                            refine w_invokevirtual rX3_startsFactor_274 rfl rfl rfl (Nat.le_of_ble_eq_true rfl) ⟨trivial, trivial, trivial, trivial⟩ (G_is (by decide) rfl) (by decide) (by decide) ?_
                            refine s_X3_startsName ?_
                            show WP mX3_startsFactor 277 _ _ _ 0 0 _
                            refine w_ifeq rX3_startsFactor_277 (fun h => absurd h (by decide)) (fun _ => ?_)
                            refine w_iconst rX3_startsFactor_280 (x := 1) (by decide) ?_
                            refine w_goto rX3_startsFactor_281 ?_
                            exact j266 _ (if_pos h266).symm _ (if_pos h266).symm
                        · skip
                          refine ⟨fun h1_12 => ?_, fun h1_12 => ?_⟩
                          · skip
                            refine w_aload_n rX3_startsFactor_330 rfl ?_
                            refine w_getI rX3_startsFactor_331 rfl rfl (G_is (by decide) rfl) ?_
                            have j334 : ∀ I334 : Nat → Nat → Int32, I334 = (if (I 3 5) = 0 then I else (fI_X3_endsName 19 I) : Nat → Nat → Int32) → ∀ s334_0 : Int32, s334_0 = (if (I 3 5) = 0 then 0 else 1 : Int32) → WP mX3_startsFactor 351 [some (.ref 3), some (.int ch)] [.int s334_0] (G X I334 L F) 0 0 Q := by
                              intro I334 eI334 s334_0 es334_0
                              subst eI334
                              subst es334_0
                              skip
                              refine w_ireturn rX3_startsFactor_351 (by repeat' split
                                        all_goals first | exact Or.inl rfl | exact Or.inr rfl) ?_
                              exact j1 _ (((((((((((((if_neg h1_0).trans (if_neg h1_1)).trans (if_neg h1_2)).trans (if_neg h1_3)).trans (if_neg h1_4)).trans (if_neg h1_5)).trans (if_neg h1_6)).trans (if_neg h1_7)).trans (if_neg h1_8)).trans (if_neg h1_9)).trans (if_neg h1_10)).trans (if_neg h1_11)).trans (if_pos h1_12)).symm _ (((((((((((((if_neg h1_0).trans (if_neg h1_1)).trans (if_neg h1_2)).trans (if_neg h1_3)).trans (if_neg h1_4)).trans (if_neg h1_5)).trans (if_neg h1_6)).trans (if_neg h1_7)).trans (if_neg h1_8)).trans (if_neg h1_9)).trans (if_neg h1_10)).trans (if_neg h1_11)).trans (if_pos h1_12)).symm
                            refine w_ifeq rX3_startsFactor_334 (fun h334 => ?_) (fun h334 => ?_)
                            · skip
                              refine w_iconst rX3_startsFactor_350 (x := 0) (by decide) ?_
                              exact j334 _ (if_pos h334).symm _ (if_pos h334).symm
                            · skip
                              refine w_aload_n rX3_startsFactor_337 rfl ?_
                              refine w_bipush rX3_startsFactor_338 (x := 19) (by decide) ?_
                              refine w_invokevirtual rX3_startsFactor_340 rfl rfl rfl (Nat.le_of_ble_eq_true rfl) ⟨trivial, trivial, trivial⟩ (G_is (by decide) rfl) (by decide) (by decide) ?_
                              refine s_X3_endsName ?_
                              show WP mX3_startsFactor 343 _ _ _ 0 0 _
                              refine w_ifeq rX3_startsFactor_343 (fun h => absurd h (by decide)) (fun _ => ?_)
                              refine w_iconst rX3_startsFactor_346 (x := 1) (by decide) ?_
                              refine w_goto rX3_startsFactor_347 ?_
                              exact j334 _ (if_neg h334).symm _ (if_neg h334).symm
                          · skip
                            refine ⟨fun h1_13 => ?_, fun h1_13 => ?_⟩
                            · skip
                              refine w_aload_n rX3_startsFactor_172 rfl ?_
                              refine w_bipush rX3_startsFactor_173 (x := 10) (by decide) ?_
                              refine w_iconst rX3_startsFactor_175 (x := 0) (by decide) ?_
                              refine w_invokevirtual rX3_startsFactor_176 rfl rfl rfl (Nat.le_of_ble_eq_true rfl) ⟨trivial, trivial, trivial, trivial⟩ (G_is (by decide) rfl) (by decide) (by decide) ?_
                              refine s_X3_startsFunction ?_
                              show WP mX3_startsFactor 179 _ _ _ 0 0 _
                              refine w_ireturn rX3_startsFactor_179 b01_X3_startsFunction ?_
                              exact j1 _ ((((((((((((((if_neg h1_0).trans (if_neg h1_1)).trans (if_neg h1_2)).trans (if_neg h1_3)).trans (if_neg h1_4)).trans (if_neg h1_5)).trans (if_neg h1_6)).trans (if_neg h1_7)).trans (if_neg h1_8)).trans (if_neg h1_9)).trans (if_neg h1_10)).trans (if_neg h1_11)).trans (if_neg h1_12)).trans (if_pos h1_13)).symm _ ((((((((((((((if_neg h1_0).trans (if_neg h1_1)).trans (if_neg h1_2)).trans (if_neg h1_3)).trans (if_neg h1_4)).trans (if_neg h1_5)).trans (if_neg h1_6)).trans (if_neg h1_7)).trans (if_neg h1_8)).trans (if_neg h1_9)).trans (if_neg h1_10)).trans (if_neg h1_11)).trans (if_neg h1_12)).trans (if_pos h1_13)).symm
                            · skip
                              refine ⟨fun h1_14 => ?_, fun h1_14 => ?_⟩
                              · skip
                                refine w_aload_n rX3_startsFactor_148 rfl ?_
                                refine w_bipush rX3_startsFactor_149 (x := 7) (by decide) ?_
                                refine w_iconst rX3_startsFactor_151 (x := 1) (by decide) ?_
                                refine w_invokevirtual rX3_startsFactor_152 rfl rfl rfl (Nat.le_of_ble_eq_true rfl) ⟨trivial, trivial, trivial, trivial⟩ (G_is (by decide) rfl) (by decide) (by decide) ?_
                                refine s_X3_startsFunction ?_
                                show WP mX3_startsFactor 155 _ _ _ 0 0 _
                                refine w_ireturn rX3_startsFactor_155 b01_X3_startsFunction ?_
                                exact j1 _ (((((((((((((((if_neg h1_0).trans (if_neg h1_1)).trans (if_neg h1_2)).trans (if_neg h1_3)).trans (if_neg h1_4)).trans (if_neg h1_5)).trans (if_neg h1_6)).trans (if_neg h1_7)).trans (if_neg h1_8)).trans (if_neg h1_9)).trans (if_neg h1_10)).trans (if_neg h1_11)).trans (if_neg h1_12)).trans (if_neg h1_13)).trans (if_pos h1_14)).symm _ (((((((((((((((if_neg h1_0).trans (if_neg h1_1)).trans (if_neg h1_2)).trans (if_neg h1_3)).trans (if_neg h1_4)).trans (if_neg h1_5)).trans (if_neg h1_6)).trans (if_neg h1_7)).trans (if_neg h1_8)).trans (if_neg h1_9)).trans (if_neg h1_10)).trans (if_neg h1_11)).trans (if_neg h1_12)).trans (if_neg h1_13)).trans (if_pos h1_14)).symm
                              · skip
                                refine w_iconst rX3_startsFactor_352 (x := 0) (by decide) ?_
                                refine w_ireturn rX3_startsFactor_353 (Or.inl rfl) ?_
                                exact j1 _ (((((((((((((((if_neg h1_0).trans (if_neg h1_1)).trans (if_neg h1_2)).trans (if_neg h1_3)).trans (if_neg h1_4)).trans (if_neg h1_5)).trans (if_neg h1_6)).trans (if_neg h1_7)).trans (if_neg h1_8)).trans (if_neg h1_9)).trans (if_neg h1_10)).trans (if_neg h1_11)).trans (if_neg h1_12)).trans (if_neg h1_13)).trans (if_neg h1_14)).symm _ (((((((((((((((if_neg h1_0).trans (if_neg h1_1)).trans (if_neg h1_2)).trans (if_neg h1_3)).trans (if_neg h1_4)).trans (if_neg h1_5)).trans (if_neg h1_6)).trans (if_neg h1_7)).trans (if_neg h1_8)).trans (if_neg h1_9)).trans (if_neg h1_10)).trans (if_neg h1_11)).trans (if_neg h1_12)).trans (if_neg h1_13)).trans (if_neg h1_14)).symm
theorem b01_X3_startsFactor {ch : Int32} {I : Nat → Nat → Int32} : (f_X3_startsFactor ch I) = 0 ∨ (f_X3_startsFactor ch I) = 1 := by
  unfold f_X3_startsFactor
  repeat' split
  all_goals first | exact Or.inl rfl | exact Or.inr rfl | exact b01_X3_endsName | exact b01_X3_startsName | exact b01_X3_hold | exact b01_X3_startsFunction
