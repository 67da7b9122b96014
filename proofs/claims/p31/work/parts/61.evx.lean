/-! own: the reckoner works formulas out -/
set_option maxRecDepth 100000
section EX
variable {X : Nat × (Nat × (Nat → Int32))} {I J K : Nat → Nat → Int32} {L : Nat → Nat → Int64} {F H H2 : Nat → Nat → UInt32} {Q : AQ} {s : List UInt32} {x : UInt32} {k : Int32}
theorem op_ok (z : SK I F s) : p_X4_operate k I F ∧ SK (fI_X4_operate k I F) (fF_X4_operate k I F) (eop k s) ∧ IFr I (fI_X4_operate k I F) ∧ FFr F (fF_X4_operate k I F) := by
  have h40 : s.length ≤ 40 := z.2.2.1
  have t1 := take_ok z
  have t2 := take_ok t1.2.2.1
  have t3 := take_ok t2.2.2.1
  have v1 := kv_hd z.2.2.2
  have v2 := kv_hd t1.2.2.1.2.2.2
  have v3 := kv_hd t2.2.2.1.2.2.2
  have l1 : (tlF s).length < 40 := by rw [tl_len]; omega
  have l2 : (tlF (tlF s)).length < 40 := by rw [tl_len]; omega
  have l3 : (tlF (tlF (tlF s))).length < 40 := by rw [tl_len]; omega
  have j := join_nn (k := k) v2 v1
  have s0 : nn (FP.fsub 0 (hdF s)) := nn_sub nn_0 v1.fin
  have kj := keep_ok t2.2.2.1 l2 j.2.2
  have g0 : 0 ≤ Op.cmpValue (FP.fcmp (hdF s) 0) .g ↔ 0 ≤ fk (hdF s) := by rw [fc_ge v1.nn nn_0, fk_zero]
  have g3 : Op.cmpValue (FP.fcmp (hdF (tlF (tlF s))) 0) .l ≤ 0 ↔ fk (hdF (tlF (tlF s))) ≤ 0 := by rw [fc_le v3.nn nn_0, fk_zero]
  have pj : p_X4_take (fI_X4_take I) ∧ ((p_X4_join k (f_X4_take (fI_X4_take I) F) (f_X4_take I F)) ∧ (True)) := ⟨t2.1, by rw [t2.2.1, t1.2.1]; exact j.1, trivial⟩
  refine ⟨?_, ?_⟩
  · unfold p_X4_operate
    refine ⟨t1.1, ⟨fun _ => ⟨by rw [t1.2.1]; exact nn_vf.mpr s0, trivial⟩, fun _ => ⟨fun _ => pj, fun _ => ⟨fun _ => pj, fun _ => ⟨fun _ => ⟨t2.1, t3.1, trivial⟩, fun _ _ => ⟨fun _ => ⟨fun _ => ⟨by rw [t1.2.1]; exact nn_vf.mpr s0, trivial⟩, trivial⟩, fun _ => pj⟩⟩⟩⟩⟩, trivial⟩
  · have kj2 : SK (fI_X4_keep (f_X4_join k (f_X4_take (fI_X4_take I) F) (f_X4_take I F)) (fI_X4_take (fI_X4_take I))) (fF_X4_keep (f_X4_join k (f_X4_take (fI_X4_take I) F) (f_X4_take I F)) (fI_X4_take (fI_X4_take I)) F) (kp (ejoin k (hdF (tlF s)) (hdF s)) :: tlF (tlF s)) ∧ IFr I (fI_X4_keep (f_X4_join k (f_X4_take (fI_X4_take I) F) (f_X4_take I F)) (fI_X4_take (fI_X4_take I))) ∧ FFr F (fF_X4_keep (f_X4_join k (f_X4_take (fI_X4_take I) F) (f_X4_take I F)) (fI_X4_take (fI_X4_take I)) F) := by
      rw [t2.2.1, t1.2.1, j.2.1]
      exact ⟨kj.1, t1.2.2.2.trans (t2.2.2.2.trans kj.2.1), kj.2.2⟩
    unfold fI_X4_operate fF_X4_operate eop
    by_cases c6 : k = 6
    · rw [if_pos c6, if_pos c6, if_pos c6, t1.2.1]
      have a := keep_ok t1.2.2.1 l1 s0
      exact ⟨a.1, t1.2.2.2.trans a.2.1, a.2.2⟩
    rw [if_neg c6, if_neg c6, if_neg c6]
    by_cases c7 : k = 7
    · have n9 : ¬ k = 9 := by rw [c7]; decide
      have n10 : ¬ k = 10 := by rw [c7]; decide
      have n11 : ¬ k = 11 := by rw [c7]; decide
      rw [if_pos c7, if_pos c7, if_neg n9, if_neg n10, if_neg n11]
      exact kj2
    rw [if_neg c7, if_neg c7]
    by_cases c8 : k = 8
    · have n9 : ¬ k = 9 := by rw [c8]; decide
      have n10 : ¬ k = 10 := by rw [c8]; decide
      have n11 : ¬ k = 11 := by rw [c8]; decide
      rw [if_pos c8, if_pos c8, if_neg n9, if_neg n10, if_neg n11]
      exact kj2
    rw [if_neg c8, if_neg c8]
    by_cases c9 : k = 9
    · rw [if_pos c9, if_pos c9, if_pos c9, t1.2.1, t2.2.1, t3.2.1]
      have e : (if Op.cmpValue (FP.fcmp (hdF (tlF (tlF s))) 0) .l ≤ 0 then hdF s else hdF (tlF s)) = if fk (hdF (tlF (tlF s))) ≤ 0 then hdF s else hdF (tlF s) := by
        by_cases y : fk (hdF (tlF (tlF s))) ≤ 0
        · rw [if_pos y, if_pos (g3.mpr y)]
        · rw [if_neg y, if_neg (fun n => y (g3.mp n))]
      rw [e]
      have a := keep_ok (x := if fk (hdF (tlF (tlF s))) ≤ 0 then hdF s else hdF (tlF s)) t3.2.2.1 l3 (by split; exact v1.nn; exact v2.nn)
      exact ⟨a.1, t1.2.2.2.trans (t2.2.2.2.trans (t3.2.2.2.trans a.2.1)), a.2.2⟩
    rw [if_neg c9, if_neg c9, if_neg c9]
    by_cases c10 : k = 10
    · rw [if_pos c10, if_pos c10, if_pos c10, t1.2.1]
      have a := keep_ok t1.2.2.1 l1 (fin_i2f (FP.f2i (hdF s))).nn
      exact ⟨a.1, t1.2.2.2.trans a.2.1, a.2.2⟩
    rw [if_neg c10, if_neg c10, if_neg c10]
    by_cases c11 : k = 11
    · rw [if_pos c11, if_pos c11, if_pos c11, t1.2.1]
      have e : (if 0 ≤ Op.cmpValue (FP.fcmp (hdF s) 0) .g then hdF s else FP.fsub 0 (hdF s)) = if 0 ≤ fk (hdF s) then hdF s else FP.fsub 0 (hdF s) := by
        by_cases y : 0 ≤ fk (hdF s)
        · rw [if_pos y, if_pos (g0.mpr y)]
        · rw [if_neg y, if_neg (fun n => y (g0.mp n))]
      rw [e]
      have a := keep_ok (x := if 0 ≤ fk (hdF s) then hdF s else FP.fsub 0 (hdF s)) t1.2.2.1 l1 (by split; exact v1.nn; exact s0)
      exact ⟨a.1, t1.2.2.2.trans a.2.1, a.2.2⟩
    rw [if_neg c11, if_neg c11, if_neg c11]
    exact kj2
theorem nn_num {v : Int32} : nn (enum v) := nn_div (fin_i2f v).nn (fin_bits.mpr (by decide)) (by decide)
theorem StkP_get {a b : Nat} : ∀ {f : FM}, StkP I a b f → ∀ (m : Nat) (h : m < f.length), I a (f.length - 1 - m) = (f[m]).1 ∧ I b (f.length - 1 - m) = (f[m]).2
  | [], _, m, h => by simp only [List.length_nil] at h; omega
  | p :: l, ⟨h1, h2, h3⟩, 0, h => by
    show I a (l.length + 1 - 1 - 0) = p.1 ∧ I b (l.length + 1 - 1 - 0) = p.2
    rw [show l.length + 1 - 1 - 0 = l.length by omega]
    exact ⟨h1, h2⟩
  | p :: l, ⟨h1, h2, h3⟩, m + 1, h => by
    simp only [List.length_cons] at h
    have z := StkP_get h3 m (by omega)
    show I a (l.length + 1 - 1 - (m + 1)) = (l[m]).1 ∧ I b (l.length + 1 - 1 - (m + 1)) = (l[m]).2
    rw [show l.length + 1 - 1 - (m + 1) = l.length - 1 - m by omega]
    exact z
theorem evalR_len {nm : Nat → UInt32} : ∀ (f : FM), (evalR nm f).length ≤ f.length
  | [] => Nat.le_refl _
  | p :: f => by
    have h := evalR_len (nm := nm) f
    have a1 := tl_len (s := evalR nm f)
    have a2 := tl_len (s := tlF (evalR nm f))
    have a3 := tl_len (s := tlF (tlF (evalR nm f)))
    show (est nm p (evalR nm f)).length ≤ f.length + 1
    unfold est
    split
    · simp only [List.length_cons]; omega
    · split
      · simp only [List.length_cons]; omega
      · unfold eop
        repeat' split
        all_goals (simp only [List.length_cons]; omega)
theorem sp_work7 {o : Nat} {f : FM} {nm : Nat → UInt32} (ho : isFor o) (h40 : f.length ≤ 40) (hn : ∀ j, j < 20 → fin (nm j)) : ∀ (m : Nat), m ≤ f.length → ∀ (I : Nat → Nat → Int32) (F : Nat → Nat → UInt32) (d3 d4 : Option Value), I o 2 = nI f.length → StkP I (o + 1) (o + 2) f → SK I F (evalR nm (f.drop m)) → (∀ j, F 11 j = nm j) →
    (∀ I2 F2, IFr I I2 → FFr F F2 → Q (.inl (some (.float (hdF (evalR nm f))))) (G X I2 L F2)) →
    WP mX4_workOut 7 [some (.ref 10), some (.ref o), some (.int (nI (f.length - m))), d3, d4] [] (G X I L F) 0 0 Q
  | 0, hm, I, F, d3, d4, h1, h2, h3, h4, q => by
    have t := take_ok h3
    refine k_X4_workOut_7 ho ⟨fun _ => ⟨t.1, ?_⟩, fun c => absurd (by rw [h1, Nat.sub_zero]; exact Int32.le_refl _) c⟩
    rw [t.2.1]
    exact q _ _ t.2.2.2 FFr.refl
  | m + 1, hm, I, F, d3, d4, h1, h2, h3, h4, q => by
    have lt : m < f.length := by omega
    have no : o ≠ 10 ∧ o + 1 ≠ 10 ∧ o + 2 ≠ 10 := by
      obtain ⟨a, b, c, d, e⟩ := ho
      refine ⟨fun n => ?_, fun n => ?_, fun n => ?_⟩
      · have := a.2; rw [n] at this; exact absurd this (by decide)
      · have := d.2.1; rw [n] at this; exact absurd this (by decide)
      · have := e.2.1; rw [n] at this; exact absurd this (by decide)
    have ix : f.length - (m + 1) = f.length - 1 - m := by omega
    have g := StkP_get h2 m lt
    have ed : evalR nm (f.drop m) = est nm f[m] (evalR nm (f.drop (m + 1))) := by rw [List.drop_eq_getElem_cons lt]; rfl
    have ci : (nI (f.length - (m + 1))).toNatClampNeg = f.length - 1 - m := by rw [nI_clamp (by omega), ix]
    have hin : vp_in (nI (f.length - (m + 1))) 40 := nI_in (by omega) (by decide)
    have len : (evalR nm (f.drop (m + 1))).length < 40 := by
      have := evalR_len (nm := nm) (f.drop (m + 1))
      rw [List.length_drop] at this
      omega
    have go : ∀ I2 F2, SK I2 F2 (evalR nm (f.drop m)) → IFr I I2 → FFr F F2 → ∀ d3 d4, WP mX4_workOut 7 [some (.ref 10), some (.ref o), some (.int (nI (f.length - (m + 1)) + 1)), d3, d4] [] (G X I2 L F2) 0 0 Q := by
      intro I2 F2 z1 z2 z3 d3 d4
      rw [nI_1, show f.length - (m + 1) + 1 = f.length - m by omega]
      refine sp_work7 ho h40 hn m (by omega) I2 F2 d3 d4 ((z2 o 2 (fun n => no.1 n.1)).trans h1) (StkP_fr (fun k _ => ⟨z2 _ _ (fun n => no.2.1 n.1), z2 _ _ (fun n => no.2.2 n.1)⟩) h2) z1 (fun j => (z3 11 j (by decide)).trans (h4 j)) (fun I3 F3 a b => q I3 F3 (z2.trans a) (z3.trans b))
    refine k_X4_workOut_7 ho ⟨fun c => absurd ((nI_leI (a := f.length) (b := f.length - (m + 1)) (by omega) (by omega)).mp (by rw [← h1]; exact c)) (by omega), fun _ => ⟨fun c => absurd ((nI_leI (a := 40) (by decide) (by omega)).mp c) (by omega), fun _ => ⟨hin, hin, ?_⟩⟩⟩
    rw [ci, g.1, g.2]
    have op := op_ok (k := f[m].1) h3
    refine ⟨⟨fun _ => ⟨nn_vf.mpr nn_num, trivial⟩, fun _ _ => ⟨op.1, trivial⟩⟩, fun I2 eI F2 eF => ?_⟩
    unfold est at ed
    by_cases c0 : f[m].1 = 0
    · rw [if_pos c0] at eI eF ed
      subst eI eF
      have a := keep_ok h3 len (nn_num (v := f[m].2))
      exact go _ _ (by rw [ed]; exact a.1) a.2.1 a.2.2 _ _
    rw [if_neg c0] at eI eF ed
    by_cases c1 : f[m].1 = 1
    · rw [if_pos c1] at eI eF ed
      have e : (if f[m].2 < 0 then 0 else (if 20 ≤ f[m].2 then 0 else F 11 (Int32.toNatClampNeg f[m].2) : UInt32) : UInt32) = ename nm f[m].2 := by
        unfold ename
        rw [h4]
      rw [e] at eI eF
      subst eI eF
      have nx : nn (ename nm f[m].2) := by
        unfold ename
        split
        · exact nn_0
        · split
          · exact nn_0
          · rename_i y1 y2
            exact (hn _ (vp_lt (vi_b (n := 20) (by decide) (by decide) y1 y2))).nn
      have a := keep_ok h3 len nx
      exact go _ _ (by rw [ed]; exact a.1) a.2.1 a.2.2 _ _
    · rw [if_neg c1] at eI eF ed
      subst eI eF
      exact go _ _ (by rw [ed]; exact op.2.1) op.2.2.1 op.2.2.2 _ _
theorem sp_workOut {o : Nat} {f : FM} (ho : isFor o) (h40 : f.length ≤ 40) (h1 : I o 2 = nI f.length) (h2 : StkP I (o + 1) (o + 2) f) (hn : ∀ j, j < 20 → fin (F 11 j)) (q : ∀ I2 F2, IFr I I2 → FFr F F2 → Q (.inl (some (.float (hdF (evalR (F 11) f))))) (G X I2 L F2)) : WP mX4_workOut 0 (am_ent 5 [.ref 10, .ref o]) [] (G X I L F) 0 0 Q := by
  have no : o ≠ 10 ∧ o + 1 ≠ 10 ∧ o + 2 ≠ 10 := by
    obtain ⟨a, b, c, d, e⟩ := ho
    refine ⟨fun n => ?_, fun n => ?_, fun n => ?_⟩
    · have := a.2; rw [n] at this; exact absurd this (by decide)
    · have := d.2.1; rw [n] at this; exact absurd this (by decide)
    · have := e.2.1; rw [n] at this; exact absurd this (by decide)
  have e : f.drop f.length = [] := List.drop_length
  refine k_X4_workOut_0 ho ?_
  have z := sp_work7 (Q := Q) (X := X) (L := L) ho h40 hn f.length (Nat.le_refl _) (am_u I 10 2 0) F none none (by rw [am_u_ne (Or.inl no.1)]; exact h1) (StkP_ne (Ne.symm no.2.1) (Ne.symm no.2.2) h2) (by rw [e]; exact ⟨am_u_eq, trivial, Nat.zero_le _, trivial⟩) (fun _ => rfl) (fun I2 F2 a b => q I2 F2 (IFr_u.trans a) b)
  rw [Nat.sub_self] at z
  exact z
end EX
