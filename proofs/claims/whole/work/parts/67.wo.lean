/-! own: the model works a text out as the reckoner its formula -/
set_option maxRecDepth 100000
def NameOk (rule ch fig slot : Int32) : Prop := (ch = 104 ∧ fig = 0 ∧ slot = 16) ∨ (rule = 0 ∧ ch = 112 ∧ fig = 0 ∧ slot = 15) ∨
  (rule = 1 ∧ fig = 0 ∧ ((ch = 108 ∧ slot = 17) ∨ (ch = 102 ∧ slot = 18) ∨ (ch = 114 ∧ slot = 19))) ∨
  (rule = 0 ∧ 0 ≤ fig ∧ ((ch = 103 ∧ fig < 3 ∧ slot = 0 + fig) ∨ (ch = 109 ∧ fig < 6 ∧ slot = 3 + fig) ∨ (ch = 113 ∧ fig < 6 ∧ slot = 9 + fig)))
section WO
variable {X : Nat × (Nat → Int32)} {I J : Nat → Nat → Int32} {L : Nat → Nat → Int64} {F H : Nat → Nat → UInt32} {Q : AQ} {nm : Nat → UInt32} {rule ver hour : Int32}
theorem rEnd_id6 {r : RS} (h : rS r = 6) : rEnd r = r := by
  unfold rEnd
  rw [if_neg (by rw [h]; decide), if_neg (by rw [h]; decide)]
theorem rEnd_idA {r : RS} (h1 : ¬ rS r = 1) (h3 : ¬ rS r = 3) : rEnd r = r := by
  unfold rEnd
  rw [if_neg h1, if_neg h3]
theorem fig_ge {c : Int32} (h : ¬ rFig c = -1) : 0 ≤ rFig c := by
  unfold rFig at h ⊢
  split
  · rename_i a; rw [if_pos a] at h; exact absurd rfl h
  · rename_i a
    rw [if_neg a] at h
    split
    · rename_i b; rw [if_pos b] at h; exact absurd rfl h
    · rename_i b
      have a2 := Int32.not_lt.mp a
      have b2 := Int32.not_lt.mp b
      rw [Int32.le_iff_toInt_le] at a2 b2 ⊢
      rw [show (48 : Int32).toInt = 48 from by decide] at a2
      rw [show (57 : Int32).toInt = 57 from by decide] at b2
      rw [Int32.toInt_sub, show (48 : Int32).toInt = 48 from by decide, show (0 : Int32).toInt = 0 from by decide]
      rw [Int.bmod_eq_of_le (by omega) (by omega)]
      omega
theorem notgood {r : RS} (h1 : ¬ rS r = 1) (h3 : ¬ rS r = 3) (h6 : ¬ rS r = 6) : ¬ good r := fun g => h6 (by
  have : rS (rEnd r) = 6 := g.1
  rw [rEnd_idA h1 h3] at this
  exact this)
theorem step_sign {ch : Int32} {r r2 : RS} (h : rStep rule ch r = some r2) (c : rS r = 6 ∨ ((rS r = 1 ∨ rS r = 3) ∧ f_X10_isFigure ch = 0 ∧ ch ≠ 46)) : rSign ch (rEnd r) = some r2 := by
  have n0 : ¬ rS r = 0 := by rcases c with e | ⟨e | e, _⟩ <;> rw [e] <;> decide
  have n4 : ¬ rS r = 4 := by rcases c with e | ⟨e | e, _⟩ <;> rw [e] <;> decide
  have n5 : ¬ rS r = 5 := by rcases c with e | ⟨e | e, _⟩ <;> rw [e] <;> decide
  unfold rStep at h
  rw [if_neg n0, if_neg n4, if_neg n5] at h
  rcases c with e | ⟨e, nf, n46⟩
  · by_cases g : rFig ch = -1
    · rw [if_pos g] at h
      unfold rGo at h
      rw [if_neg (by rw [e]; decide)] at h
      exact h
    · rw [if_neg g] at h
      unfold rFigs at h
      rw [if_neg (by rw [e]; decide), if_neg (by rw [e]; decide), if_neg (by rw [e]; decide)] at h
      cases h
  · rw [if_pos (figs_not.mpr nf)] at h
    unfold rGo at h
    rcases e with e | e
    · rw [if_pos e, if_neg n46] at h; exact h
    · rw [if_neg (by rw [e]; decide)] at h; exact h
theorem full_num {f h : FM} {v : Int32} (z : Open nm f h) : Full nm ((0, v) :: f) h ∧ evalR nm ((0, v) :: f) = kp (enum v) :: evalR nm f :=
  ⟨⟨z.1, z.2.1, by show (evalR nm f).length + 1 = _; rw [z.2.2]⟩, rfl⟩
theorem full_nam {f h : FM} {v : Int32} (z : Open nm f h) : Full nm ((1, v) :: f) h ∧ evalR nm ((1, v) :: f) = kp (ename nm v) :: evalR nm f :=
  ⟨⟨z.1, z.2.1, by show (evalR nm f).length + 1 = _; rw [z.2.2]⟩, rfl⟩
theorem open_push {k c : Int32} {f h : FM} (z : Open nm f h) (hk : (k, c) ∈ hkL) (h0 : ar (k, c) = 0) (hs : ¬ (f_X3_strengthOf k = 1 ∨ f_X3_strengthOf k = 2)) : Open nm f ((k, c) :: h) :=
  ⟨⟨hk, z.1⟩, ⟨fun n => absurd n hs, z.2.1⟩, by show _ = ar (k, c) + Wt h; rw [h0, Nat.zero_add]; exact z.2.2⟩
theorem sp_202 {x1 x2 x3 x4 : Int32} {d5 d6 : Option Value} : ∀ (h f : FM) (I : Nat → Nat → Int32) (F : Nat → Nat → UInt32), Full nm f h → MR I F nm f h → (rSettle 1 h f).2.length = 0 → (∀ J H, MIF I J → MFF F H → Q (.inl (some (.float (hdF (evalR nm (rSettle 1 h f).1))))) (G X J L H)) → WP mX10_worth 202 [some (.ref 498), some (.int x1), some (.int x2), some (.int x3), some (.int x4), d5, d6] [] (G X I L F) 0 0 Q
  | [], f, I, F, z, m, e, q => by
    have e0 : I 498 50 = 0 := mr_nil m
    refine k_X10_worth_202 ⟨fun _ => ?_, fun n => absurd (by rw [e0]; decide) n⟩
    have q2 := q I F MIF.refl MFF.refl
    have l1 : (evalR nm f).length = 1 := z.2.2
    have mv := m.1.2.1
    have e1 : rSettle 1 [] f = (f, []) := rfl
    rw [e1] at q2
    dsimp only at q2
    cases hv : evalR nm f with
    | nil => rw [hv] at l1; cases l1
    | cons x t =>
      rw [hv] at l1 mv q2
      have l0 : t.length = 0 := by simp only [List.length_cons] at l1; omega
      have fx : F 538 t.length = x := mv.1
      rw [l0] at fx
      rw [fx]
      exact q2
  | p :: h, f, I, F, z, m, e, q => by
    obtain ⟨te, tl, hin, top⟩ := mr_top m
    unfold rSettle at e q
    by_cases c : f_X3_strengthOf p.1 < 1
    · rw [if_pos c] at e; simp only [List.length_cons] at e; omega
    · rw [if_neg c] at e q
      have a := hk_str p z.1.1 c
      have b := mr_apply z a.1 a.2 m
      exact k_X10_worth_202 ⟨fun n => absurd ((nI_le0 (n := h.length + 1) (by omega)).mp (by rw [← te]; exact n)) (by omega), fun _ => ⟨b.1, sp_202 h ((p.1, 0) :: f) _ _ (full_pop z a.1 a.2).1 b.2.1 e (fun J H x y => q J H (b.2.2.1.trans x) (b.2.2.2.trans y))⟩⟩
end WO
