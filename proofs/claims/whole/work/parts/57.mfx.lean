/-! own: the model's fault of a text is that function -/
set_option maxRecDepth 100000
section MX
variable {X : Nat × (Nat → Int32)} {I : Nat → Nat → Int32} {L : Nat → Nat → Int64} {F : Nat → Nat → UInt32} {Q : AQ} {rule : Int32}
theorem mRest_len {st fg le ch s2 : Int32} {fr f2 : List Int32} (h : mRest st fr fg le ch = some (s2, f2, fg, le)) : f2.length ≤ fr.length ∧ s2 ≠ -1 := by
  unfold mRest at h
  split at h
  · cases h
  · split at h
    · cases h; exact ⟨Nat.le_refl _, by decide⟩
    · split at h
      · split at h
        · cases h
        · split at h
          · cases h
          · cases h; exact ⟨Nat.le_refl _, by decide⟩
      · split at h
        · split at h
          · cases h
          · split at h
            · cases h; exact ⟨by simp only [List.length_cons]; omega, by decide⟩
            · cases h
        · cases h
theorem Fr1.trans {z : Nat} {I J K : Nat → Nat → Int32} (h1 : Fr1 z I J) (h2 : Fr1 z J K) : Fr1 z I K := fun o k n => (h2 o k n).trans (h1 o k n)
theorem sp_mf13 {n : Nat} (hn : I 498 2 = nI n) (h40 : n ≤ 40) : ∀ (m i : Nat) (st fg le : Int32) (fr : List Int32) (J : Nat → Nat → Int32) (d7 d8 d9 d10 : Option Value), i + m = n → Fr1 500 I J → Stk1 J 500 fr → fr.length ≤ i →
    (∀ k J2, mRun rule (seg (I 499) i m) i (st, fr, fg, le) = .inl k → Fr1 500 I J2 → Q (.inl (some (.int (nI k)))) (G X J2 L F)) →
    (∀ m2 J2, mRun rule (seg (I 499) i m) i (st, fr, fg, le) = .inr m2 → Fr1 500 I J2 → Q (.inl (some (.int (mEndv n m2)))) (G X J2 L F)) →
    WP mX10_faultOf 13 [some (.ref 498), some (.int rule), some (.int st), some (.int (nI fr.length)), some (.int fg), some (.int le), some (.int (nI i)), d7, d8, d9, d10] [] (G X J L F) 0 0 Q
  | 0, i, st, fg, le, fr, J, d7, d8, d9, d10, hi, fm, hk, hl, q1, q2 => by
    have e1 : J 498 2 = nI n := (fm 498 2 (by omega)).trans hn
    refine k_X10_faultOf_13 ⟨fun _ s379 e379 s411 e411 => ?_, fun c => absurd (by rw [e1, nI_leI (by omega) (by omega)]; omega) c⟩
    have lz : (nI fr.length = 0) ↔ fr.length = 0 := nI_eq (b := 0) (by omega) (by decide)
    have e2 : s411 = mEndv n (st, fr, fg, le) := by
      rw [e411, e379, e1]
      unfold mEndv
      show (if (if nI fr.length = 0 then mOver st else 0 : Int32) = 0 then nI n else -1) = if fr.length = 0 then (if mOver st = 0 then nI n else -1) else nI n
      by_cases c : fr.length = 0
      · rw [if_pos (lz.mpr c), if_pos c]
      · rw [if_neg (fun y => c (lz.mp y)), if_neg c, if_pos rfl]
    rw [e2]
    exact q2 _ J rfl fm
  | m + 1, i, st, fg, le, fr, J, d7, d8, d9, d10, hi, fm, hk, hl, q1, q2 => by
    have e1 : J 498 2 = nI n := (fm 498 2 (by omega)).trans hn
    have ci : (nI i).toNatClampNeg = i := nI_clamp (by omega)
    have cf : (nI fr.length).toNatClampNeg = fr.length := nI_clamp (by omega)
    have hin : vp_in (nI fr.length) 40 := nI_in (by omega) (by decide)
    have u : mRun rule (seg (I 499) i (m + 1)) i (st, fr, fg, le) = match mStep rule (I 499 i) (st, fr, fg, le) with
      | none => .inl i
      | some r2 => mRun rule (seg (I 499) (i + 1) m) (i + 1) r2 := rfl
    generalize hch : I 499 i = ch at u
    have hch2 : J 499 i = ch := (fm 499 i (by omega)).trans hch
    -- a turn that ends here, and one that goes on
    have stop : mStep rule ch (st, fr, fg, le) = none → ∀ J2, Fr1 500 J J2 → Q (.inl (some (.int (nI i)))) (G X J2 L F) := fun e J2 f => by
      rw [e] at u
      exact q1 i J2 u (fm.trans f)
    have next : ∀ st2 f2 fg2 le2, mStep rule ch (st, fr, fg, le) = some (st2, f2, fg2, le2) → f2.length ≤ i + 1 → ∀ J2 d7 d8 d9 d10, Fr1 500 J J2 → Stk1 J2 500 f2 → WP mX10_faultOf 13 [some (.ref 498), some (.int rule), some (.int st2), some (.int (nI f2.length)), some (.int fg2), some (.int le2), some (.int (nI i + 1)), d7, d8, d9, d10] [] (G X J2 L F) 0 0 Q := fun st2 f2 fg2 le2 e hl2 J2 d7 d8 d9 d10 f k => by
      rw [e] at u
      rw [nI_1]
      exact sp_mf13 hn h40 m (i + 1) st2 fg2 le2 f2 J2 d7 d8 d9 d10 (by omega) (fm.trans f) k hl2 (fun k2 J3 e2 f2 => q1 k2 J3 (u.trans e2) f2) (fun m2 J3 e2 f2 => q2 m2 J3 (u.trans e2) f2)
    refine k_X10_faultOf_13 ⟨fun c => absurd ((nI_leI (a := n) (b := i) (by omega) (by omega)).mp (by rw [← e1]; exact c)) (by omega), fun _ => ⟨nI_in (by omega) (by decide), ?_⟩⟩
    rw [ci, hch2, cf]
    intro s36 e36
    have e36b : s36 = mOver st := e36
    clear e36
    unfold mStep at stop next
    dsimp only at stop next
    refine ⟨fun c0 s80 e80 => ⟨fun c => ⟨hin, trivial⟩, fun I2 eI v3 e3 => ?_⟩, fun c0 => ?_⟩
    · rw [if_pos c0] at stop next
      refine ⟨fun c => ?_, fun c => ?_⟩
      · rw [if_pos c] at stop
        refine stop rfl I2 ?_
        rw [eI]; split
        · exact Fr1_u Fr1.refl
        · exact Fr1.refl
      · rw [if_neg c] at next
        subst e80
        by_cases c40 : ch = 40
        · rw [if_pos c40] at eI e3
          rw [if_pos c40] at next
          subst eI
          rw [e3, nI_1]
          exact next _ (1 :: fr) _ _ rfl (by simp only [List.length_cons]; omega) _ _ _ _ _ (Fr1_u Fr1.refl) (Stk1_push rfl hk)
        · rw [if_neg c40] at eI e3
          rw [if_neg c40] at next
          subst eI e3
          exact next _ fr _ _ rfl (by omega) _ _ _ _ _ Fr1.refl hk
    rw [if_neg c0] at stop next
    refine ⟨fun cg => ?_, fun cg s129 e129 s149 e149 s162 e162 => ?_⟩
    · rw [if_pos cg] at stop next
      have rest : ¬ (st = 7 ∧ ch = 40) → ¬ (st = 2 ∧ ch = 46) → ∀ d10, _ := fun k1 k2 d10 => rest_blk (s := s36) (st := st) (fg := fg) (le := le) (ch := ch) (x3 := nI fr.length) (fr := fr) (I := J) e36b rfl hk (by omega)
        (R := fun I2 v3 v8 => (v8 = (-1) → Q (.inl (some (.int (nI i)))) (G X I2 L F)) ∧ (¬ v8 = (-1) → WP mX10_faultOf 13 [some (.ref 498), some (.int rule), some (.int v8), some (.int v3), some (.int fg), some (.int le), some (.int (nI i + 1)), some (.int ch), some (.int v8), some (.int s36), d10] [] (G X I2 L F) 0 0 Q))
        (fun e => ⟨fun _ => stop (by rw [if_neg k1, if_neg k2]; exact e) J Fr1.refl, fun n => absurd rfl n⟩)
        (fun s2 f2 e J2 f k => ⟨fun n => absurd n (mRest_len e).2, fun _ => next s2 f2 fg le (by rw [if_neg k1, if_neg k2]; exact e) (by have := (mRest_len e).1; omega) J2 _ _ _ _ f k⟩)
      refine ⟨fun c7 => ⟨fun c40 => ⟨hin, ?_⟩, fun n40 => ⟨fun c2 => ?_, fun c2 => ?_⟩⟩, fun n7 => ⟨fun c2 => ⟨fun c46 => ?_, fun n46 => ?_⟩, fun n2 => ?_⟩⟩
      · rw [if_pos ⟨c7, c40⟩] at next
        rw [nI_1]
        exact next 0 (le :: fr) fg le rfl (by simp only [List.length_cons]; omega) _ _ _ _ _ (Fr1_u Fr1.refl) (Stk1_push rfl hk)
      · exact absurd (c7.symm.trans c2) (by decide)
      · exact rest (fun n => n40 n.2) (fun n => c2 n.1) _
      · rw [if_neg (fun n => n7 n.1), if_pos ⟨c2, c46⟩] at next
        exact next 3 fr fg le rfl (by omega) _ _ _ _ _ Fr1.refl hk
      · exact rest (fun n => n7 n.1) (fun n => n46 n.2) _
      · exact rest (fun n => n7 n.1) (fun n => n2 n.1) _
    · rw [if_neg cg] at stop next
      by_cases c2 : st = 2
      · rw [if_pos c2] at stop next e129
        by_cases c3 : 3 ≤ fg
        · rw [if_pos c3] at stop e129
          subst e129
          rw [if_pos rfl] at e149 e162
          subst e149
          rw [if_neg (by rw [c2]; decide), if_neg (by rw [c2]; decide), if_neg (by rw [c2]; decide)] at e162
          subst e162
          exact ⟨fun _ => stop rfl J Fr1.refl, fun n => absurd rfl n⟩
        · rw [if_neg c3] at next e129
          subst e129
          rw [if_neg (by decide)] at e149 e162
          subst e149 e162
          exact ⟨fun n => absurd n (by decide), fun _ => next 2 fr (fg + 1) le rfl (by omega) J _ _ _ _ Fr1.refl hk⟩
      · rw [if_neg c2] at stop next e129
        subst e129
        rw [if_pos rfl] at e149 e162
        subst e149
        rw [Int32.add_zero]
        by_cases c3 : st = 3
        · rw [if_pos c3] at next e162
          subst e162
          exact ⟨fun n => absurd n (by decide), fun _ => next 4 fr fg le rfl (by omega) J _ _ _ _ Fr1.refl hk⟩
        rw [if_neg c3] at stop next e162
        by_cases c4 : st = 4
        · rw [if_pos c4] at next e162
          subst e162
          exact ⟨fun n => absurd n (by decide), fun _ => next 5 fr fg le rfl (by omega) J _ _ _ _ Fr1.refl hk⟩
        rw [if_neg c4] at stop next e162
        by_cases c6 : st = 6
        · rw [if_pos c6] at stop next e162
          by_cases c7 : le ≤ ch - 48
          · rw [if_pos c7] at stop e162
            subst e162
            exact ⟨fun _ => stop rfl J Fr1.refl, fun n => absurd rfl n⟩
          · rw [if_neg c7] at next e162
            subst e162
            exact ⟨fun n => absurd n (by decide), fun _ => next 1 fr fg le rfl (by omega) J _ _ _ _ Fr1.refl hk⟩
        · rw [if_neg c6] at stop e162
          subst e162
          exact ⟨fun _ => stop rfl J Fr1.refl, fun n => absurd rfl n⟩
theorem sp_faultOf {n : Nat} (hn : I 498 2 = nI n) (h40 : n ≤ 40) (q : ∀ J, Fr1 500 I J → Q (.inl (some (.int (mFault rule (seg (I 499) 0 n))))) (G X J L F)) : WP mX10_faultOf 0 (am_ent 11 [.ref 498, .int rule]) [] (G X I L F) 0 0 Q := by
  refine k_X10_faultOf_0 ?_
  refine sp_mf13 hn h40 n 0 0 0 0 [] I none none none none (by omega) Fr1.refl trivial (Nat.le_refl _) (fun k J e f => ?_) (fun m2 J e f => ?_)
  · have e1 : mFault rule (seg (I 499) 0 n) = nI k := by unfold mFault; rw [e]
    have e2 := q J f
    rw [e1] at e2
    exact e2
  · have e1 : mFault rule (seg (I 499) 0 n) = mEndv n m2 := by unfold mFault; rw [e]; show mEndv (seg (I 499) 0 n).length m2 = _; rw [seg_len]
    have e2 := q J f
    rw [e1] at e2
    exact e2
end MX
