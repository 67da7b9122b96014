/-! own: texts, from their entry on -/
set_option maxRecDepth 100000
section LTY
variable {X : Nat × (Nat × (Nat → Int32))} {I : Nat → Nat → Int32} {L : Nat → Nat → Int64} {F : Nat → Nat → UInt32} {Q : AQ} {N T rc sc t m n b : Nat} {s : AS}
theorem wipe_al (hX : X.1 ≤ 400000) (iv : Al s T rc sc t n N I L F) : ∃ J, G X (fI_X9_wipe I) L F = G X J L F ∧ f_X9_wipe I = nI n ∧ Al s T rc sc t 0 N J L F ∧ TF I J := by
  obtain ⟨iv, lc⟩ := iv
  obtain ⟨n40, d1, d2, dk⟩ := iv.2.1
  refine ⟨am_u (am_u I 1 1 0) 1000498 2 0, ?_, d1, ⟨InvS.draft (n2 := 0) iv (fun o k a b c d => ?_) ⟨by omega, ?_, ?_, fun k hk => by omega⟩, lc.fr ⟨fun r hr => ?_, fun o k h => ?_⟩ LQF.refl⟩, fun o k h1 h2 => ?_⟩
  · exact G_eq (J := am_u (am_u I 1 1 0) 1000498 2 0) (H := F) (fun o k h => am_u_ne (by omega)) (fun _ _ _ => rfl)
  · rw [am_u_ne (by omega), am_u_ne (by omega)]
  · rw [am_u_ne (by omega), am_u_eq]; rfl
  · rw [am_u_eq]; rfl
  · rw [am_u_ne (by omega), am_u_ne (by omega)]
  · rw [am_u_ne (by omega), am_u_ne (by omega)]
  · rw [am_u_ne (by omega), am_u_ne (by omega)]
theorem gN_e (h : X.1 % 2 = 0) : gN (502 + X.1) = 1 ∧ gN (502 + (X.1 + 1)) = 8 := by
  have b1 : Nat.blt (502 + X.1) 502 = false := Bool.eq_false_iff.mpr (fun z => by have := Nat.blt_eq.mp z; omega)
  have b2 : Nat.blt (502 + (X.1 + 1)) 502 = false := Bool.eq_false_iff.mpr (fun z => by have := Nat.blt_eq.mp z; omega)
  unfold gN
  rw [b1, b2, show (502 + X.1) % 2 = 0 by omega, show (502 + (X.1 + 1)) % 2 = 1 by omega]
  exact ⟨rfl, rfl⟩
theorem sp_texts (hX : X.1 ≤ 10000) (hE : X.1 % 2 = 0) (iv : Al s T rc sc t n N I L F) (hm : m < 6) (hb : b < 2 ^ 31) (h50 : aC s ≤ 50)
    (q : ∀ (s2 : AS) n2 K M, Al s2 T rc sc t n2 N K M F → Q (.inl (some (.int 1))) (G (X.1 + 1 + 1, X.2) K M F)) : WP mL_texts 0 (am_ent 17 [.ref 0, .ref 498, .ref 499, .int (nI m), .int (nI b)]) [] (G X I L F) 0 0 Q := by
  obtain ⟨g1, g2⟩ := gN_e hE
  refine w_iconst rL_texts_0 (x := 1) (by decide) ?_
  refine x_newI rL_texts_1 (n := 1) (by decide) (by decide) (by decide) (by omega) (by decide) (by decide) g1 ?_
  refine w_astore rL_texts_3 rfl trivial ?_
  refine w_bipush rL_texts_5 (x := 8) (by decide) ?_
  refine x_newI (X := (X.1 + 1, X.2)) rL_texts_7 (n := 8) (by decide) (by decide) (by decide) (show X.1 + 1 ≤ 400000 by omega) (by decide) (by decide) g2 ?_
  refine w_astore rL_texts_9 rfl trivial ?_
  refine w_iconst rL_texts_11 (x := 0) (by decide) ?_
  refine w_istore rL_texts_12 rfl trivial ?_
  refine w_iload rL_texts_14 rfl ?_
  refine w_ldcI rL_texts_16 (x := 60000) (by decide) ?_
  refine w_irem rL_texts_18 (by decide) ?_
  refine w_istore rL_texts_19 rfl trivial ?_
  refine w_iconst rL_texts_21 (x := 0) (by decide) ?_
  refine w_istore rL_texts_22 rfl trivial ?_
  have r6 : nI b - nI b / 60000 * 60000 = nI (b % 60000) := rem_n (d := 60000) hb (by decide) (by decide)
  rw [r6]
  have hT : isT (X.1 + 1 + 1, X.2) (502 + X.1) 1 := ⟨show 502 + X.1 < 502 + (X.1 + 1 + 1) by omega, by omega, g1⟩
  have hO : isT (X.1 + 1 + 1, X.2) (502 + (X.1 + 1)) 8 := ⟨show 502 + (X.1 + 1) < 502 + (X.1 + 1 + 1) by omega, by omega, g2⟩
  have hX2 : (X.1 + 1 + 1, X.2).1 ≤ 400000 := show X.1 + 1 + 1 ≤ 400000 by omega
  have iv2 : Al s T rc sc t n N (am_z (am_z I (502 + X.1) 0) (502 + (X.1 + 1)) 0) L F := iv.row (fun o k h => (if_neg (by omega)).trans (if_neg (by omega)))
  obtain ⟨J, ge, fe, a1, f1⟩ := wipe_al hX2 iv2
  have j0 : J (502 + X.1) 0 = 0 := (f1 _ _ (by omega) (by omega)).trans ((if_neg (by omega)).trans (if_pos rfl))
  refine k_L_texts_24 hT hO ⟨by decide, fun h => absurd h ?_, fun _ => ⟨by decide, ?_⟩⟩
  · rw [fe]
    have := iv.1.2.1.1
    exact nI_pos (by omega)
  rw [ge]
  refine z_fault a1 (Or.inl rfl) (fun J2 a2 f2 e2 => k_L_texts_36 hT hO ⟨fun _ => ⟨by decide, ?_⟩, fun h => absurd (show rFault 0 [] = 0 by decide) h⟩)
  refine z_fault a2 (Or.inr rfl) (fun J3 a3 f3 e3 => k_L_texts_44 hT hO (fun y ey => ?_))
  have ey2 : y = 1 := by rw [ey]; exact if_pos (show rFault 1 [] = 0 by decide)
  rw [ey2]
  refine sp_tx54 (on := 502 + X.1) (oo := 502 + (X.1 + 1)) hT hO (by omega) (by omega) (by omega) hX2 hm h50 q 41 J3 0 (b % 60000) [] 0 _ _ _ _ _ _ _ _ (by omega) a3 ?_ (by decide) trivial (by have := Nat.mod_lt b (show 0 < 60000 by decide); omega) (Or.inl ⟨rfl, DT.zero rfl, Or.inl (by decide)⟩) (by decide) (by decide)
  rw [f3 _ _ (by omega) (by omega), f2 _ _ (by omega) (by omega)]
  exact j0
end LTY
