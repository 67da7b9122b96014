/-! own: the model's fault of a text, as a function -/
set_option maxRecDepth 100000
/-- state, open brackets (last first), figures, least -/
abbrev MS := Int32 × List Int32 × Int32 × Int32
def mOver (st : Int32) : Int32 := if st = 1 then 1 else if st = 2 then 1 else if st = 4 then 1 else if st = 5 then 1 else 0
def mRest (st : Int32) (fr : List Int32) (fg le ch : Int32) : Option MS :=
  if mOver st = 0 then none else if ¬ f_X10_isSign ch = 0 then some (0, fr, fg, le)
  else if ch = 44 then (match fr with
    | [] => none
    | x :: t => if x ≤ 1 then none else some (0, (x - 1) :: t, fg, le))
  else if ch = 41 then (match fr with
    | [] => none
    | x :: t => if x = 1 then some (1, t, fg, le) else none)
  else none
def mStep (rule ch : Int32) (m : MS) : Option MS :=
  if m.1 = 0 then (if f_X10_begun ch rule = -1 then none else some (f_X10_begun ch rule, if ch = 40 then 1 :: m.2.1 else m.2.1, 1, if f_X10_begun ch rule = 7 then f_X10_inputs ch else f_X10_figures ch rule))
  else if f_X10_isFigure ch = 0 then
    (if m.1 = 7 ∧ ch = 40 then some (0, m.2.2.2 :: m.2.1, m.2.2.1, m.2.2.2)
     else if m.1 = 2 ∧ ch = 46 then some (3, m.2.1, m.2.2.1, m.2.2.2)
     else mRest m.1 m.2.1 m.2.2.1 m.2.2.2 ch)
  else if m.1 = 2 then (if 3 ≤ m.2.2.1 then none else some (2, m.2.1, m.2.2.1 + 1, m.2.2.2))
  else if m.1 = 3 then some (4, m.2.1, m.2.2.1, m.2.2.2)
  else if m.1 = 4 then some (5, m.2.1, m.2.2.1, m.2.2.2)
  else if m.1 = 6 then (if m.2.2.2 ≤ ch - 48 then none else some (1, m.2.1, m.2.2.1, m.2.2.2)) else none
def mRun (rule : Int32) : List Int32 → Nat → MS → Nat ⊕ MS
  | [], _, r => .inr r
  | ch :: l, i, r => match mStep rule ch r with
    | none => .inl i
    | some r2 => mRun rule l (i + 1) r2
def mEndv (n : Nat) (m : MS) : Int32 := if m.2.1.length = 0 then (if mOver m.1 = 0 then nI n else -1) else nI n
def mFault (rule : Int32) (t : List Int32) : Int32 := match mRun rule t 0 (0, [], 0, 0) with
  | .inl i => nI i
  | .inr r => mEndv t.length r
/-- a row of numbers in cells, the last one on top -/
def Stk1 (I : Nat → Nat → Int32) (a : Nat) : List Int32 → Prop
  | [] => True
  | p :: l => I a l.length = p ∧ Stk1 I a l
def Fr1 (z : Nat) (I J : Nat → Nat → Int32) : Prop := ∀ o k, o ≠ z → J o k = I o k
section MF
variable {X : Nat × (Nat → Int32)} {I J K : Nat → Nat → Int32} {L : Nat → Nat → Int64} {F : Nat → Nat → UInt32} {Q : AQ} {rule : Int32} {a k z : Nat} {v : Int32}
theorem Fr1.refl : Fr1 z I I := fun _ _ _ => rfl
theorem Fr1_u (h : Fr1 z I J) : Fr1 z I (am_u J z k v) := fun o2 k2 n => (am_u_ne (Or.inl n)).trans (h o2 k2 n)
theorem Stk1_fr : ∀ {l : List Int32}, (∀ k, k < l.length → J a k = I a k) → Stk1 I a l → Stk1 J a l
  | [], _, _ => trivial
  | p :: l, h, ⟨h1, h3⟩ => ⟨(h l.length (by simp only [List.length_cons]; omega)).trans h1, Stk1_fr (fun k hk => h k (by simp only [List.length_cons]; omega)) h3⟩
theorem Stk1_ge {l : List Int32} (h1 : l.length ≤ k) (h : Stk1 I a l) : Stk1 (am_u I a k v) a l :=
  Stk1_fr (fun j hj => am_u_ne (Or.inr (by omega))) h
theorem Stk1_push {l : List Int32} (hk : k = l.length) (h : Stk1 I a l) : Stk1 (am_u I a k v) a (v :: l) := by
  subst hk
  exact ⟨am_u_eq, Stk1_ge (Nat.le_refl _) h⟩
theorem mRest_none {st fg le ch : Int32} {fr : List Int32} (h : mOver st = 0) : mRest st fr fg le ch = none := by
  unfold mRest; rw [if_pos h]
theorem rest_blk {s st fg le ch x3 : Int32} {fr : List Int32} (hs : s = mOver st) (hd : x3 = nI fr.length) (hk : Stk1 I 500 fr) (hl : fr.length ≤ 40) {R : (Nat → Nat → Int32) → Int32 → Int32 → Prop}
    (q0 : mRest st fr fg le ch = none → R I x3 (-1))
    (q1 : ∀ s2 f2, mRest st fr fg le ch = some (s2, f2, fg, le) → ∀ J, Fr1 500 I J → Stk1 J 500 f2 → R J (nI f2.length) s2) :
    ((¬ s = 0 → (f_X10_isSign ch = 0 → (ch = 44 → (¬ x3 ≤ 0 → vp_in (x3 - 1) 40 ∧ (((I 500 (Int32.toNatClampNeg (x3 - 1))) ≤ 1 → (ch = 41 → vp_in (x3 - 1) 40 ∧ (True))) ∧ (¬ (I 500 (Int32.toNatClampNeg (x3 - 1))) ≤ 1 → vp_in (x3 - 1) 40 ∧ (vp_in (x3 - 1) 40 ∧ (True)))))) ∧ (¬ ch = 44 → (ch = 41 → (¬ x3 ≤ 0 → vp_in (x3 - 1) 40 ∧ (True))))))) ∧ (∀ I263 : Nat → Nat → Int32, I263 = (if s = 0 then I else (if f_X10_isSign ch = 0 then (if ch = 44 then (if x3 ≤ 0 then I else (if (I 500 (Int32.toNatClampNeg (x3 - 1))) ≤ 1 then I else (am_u I 500 (Int32.toNatClampNeg (x3 - 1)) ((I 500 (Int32.toNatClampNeg (x3 - 1))) - 1)) : Nat → Nat → Int32) : Nat → Nat → Int32) else I : Nat → Nat → Int32) else I : Nat → Nat → Int32) : Nat → Nat → Int32) → ∀ v3 : Int32, v3 = (if s = 0 then x3 else (if f_X10_isSign ch = 0 then (if ch = 44 then (if x3 ≤ 0 then x3 else (if (I 500 (Int32.toNatClampNeg (x3 - 1))) ≤ 1 then (if ch = 41 then (if (I 500 (Int32.toNatClampNeg (x3 - 1))) = 1 then (x3 + (-1)) else x3 : Int32) else x3 : Int32) else x3 : Int32) : Int32) else (if ch = 41 then (if x3 ≤ 0 then x3 else (if (I 500 (Int32.toNatClampNeg (x3 - 1))) = 1 then (x3 + (-1)) else x3 : Int32) : Int32) else x3 : Int32) : Int32) else x3 : Int32) : Int32) → ∀ v8 : Int32, v8 = (if s = 0 then (-1) else (if f_X10_isSign ch = 0 then (if ch = 44 then (if x3 ≤ 0 then (-1) else (if (I 500 (Int32.toNatClampNeg (x3 - 1))) ≤ 1 then (if ch = 41 then (if (I 500 (Int32.toNatClampNeg (x3 - 1))) = 1 then 1 else (-1) : Int32) else (-1) : Int32) else 0 : Int32) : Int32) else (if ch = 41 then (if x3 ≤ 0 then (-1) else (if (I 500 (Int32.toNatClampNeg (x3 - 1))) = 1 then 1 else (-1) : Int32) : Int32) else (-1) : Int32) : Int32) else 0 : Int32) : Int32) → R I263 v3 v8) := by
  subst hs
  unfold mRest at q0 q1
  by_cases c1 : mOver st = 0
  · rw [if_pos c1] at q0
    refine ⟨fun n => absurd c1 n, fun I2 eI v3 e3 v8 e8 => ?_⟩
    rw [if_pos c1] at eI e3 e8
    subst eI e3 e8
    exact q0 rfl
  rw [if_neg c1] at q0 q1
  by_cases c2 : f_X10_isSign ch = 0
  · rw [if_neg (fun n => n c2)] at q0 q1
    have in_ok : ∀ x (t : List Int32), fr = x :: t → vp_in (x3 - 1) 40 ∧ Int32.toNatClampNeg (x3 - 1) = t.length ∧ I 500 t.length = x ∧ ¬ x3 ≤ 0 ∧ Stk1 I 500 t ∧ t.length < 40 := by
      intro x t e
      subst e
      simp only [List.length_cons] at hl hd
      have e1 : x3 - 1 = nI t.length := by rw [hd]; exact nI_pred t.length
      exact ⟨by rw [e1]; exact nI_in (by omega) (by decide), by rw [e1]; exact nI_clamp (by omega), hk.1, (by rw [hd, nI_le0 (by omega)]; omega), hk.2, by omega⟩
    by_cases c3 : ch = 44
    · have n41 : ¬ ch = 41 := by rw [c3]; decide
      rw [if_pos c3] at q0 q1
      cases hf : fr with
      | nil =>
        rw [hf] at q0 hd
        have hz : x3 ≤ 0 := by rw [hd]; decide
        refine ⟨fun _ _ => ⟨fun _ n => absurd hz n, fun n => absurd c3 n⟩, fun I2 eI v3 e3 v8 e8 => ?_⟩
        rw [if_neg c1, if_pos c2, if_pos c3, if_pos hz] at eI e3 e8
        subst eI e3 e8
        exact q0 rfl
      | cons x t =>
        obtain ⟨k1, k2, k3, k4, k5, k6⟩ := in_ok x t hf
        rw [hf] at q0 q1
        dsimp only at q0 q1
        rw [k2, k3]
        refine ⟨fun _ _ => ⟨fun _ _ => ⟨k1, fun _ n => absurd n n41, fun _ => ⟨k1, k1, trivial⟩⟩, fun n => absurd c3 n⟩, fun I2 eI v3 e3 v8 e8 => ?_⟩
        rw [if_neg c1, if_pos c2, if_pos c3, if_neg k4] at eI e3 e8
        by_cases c4 : x ≤ 1
        · rw [if_pos c4] at eI q0
          rw [if_pos c4, if_neg n41] at e3 e8
          subst eI e3 e8
          exact q0 rfl
        · rw [if_neg c4] at eI e3 e8 q1
          subst eI e8
          rw [e3, hd, hf]
          exact q1 0 ((x - 1) :: t) rfl _ (Fr1_u Fr1.refl) (Stk1_push rfl k5)
    · rw [if_neg c3] at q0 q1
      by_cases c5 : ch = 41
      · rw [if_pos c5] at q0 q1
        cases hf : fr with
        | nil =>
          rw [hf] at q0 hd
          have hz : x3 ≤ 0 := by rw [hd]; decide
          refine ⟨fun _ _ => ⟨fun n => absurd n c3, fun _ _ n => absurd hz n⟩, fun I2 eI v3 e3 v8 e8 => ?_⟩
          rw [if_neg c1, if_pos c2, if_neg c3] at eI e3 e8
          rw [if_pos c5, if_pos hz] at e3 e8
          subst eI e3 e8
          exact q0 rfl
        | cons x t =>
          obtain ⟨k1, k2, k3, k4, k5, k6⟩ := in_ok x t hf
          rw [hf] at q0 q1
          dsimp only at q0 q1
          rw [k2, k3]
          refine ⟨fun _ _ => ⟨fun n => absurd n c3, fun _ _ _ => ⟨k1, trivial⟩⟩, fun I2 eI v3 e3 v8 e8 => ?_⟩
          rw [if_neg c1, if_pos c2, if_neg c3] at eI e3 e8
          rw [if_pos c5, if_neg k4] at e3 e8
          by_cases c6 : x = 1
          · rw [if_pos c6] at e3 e8 q1
            subst eI e8
            have e9 : v3 = nI t.length := by
              rw [e3, hd, hf, ← Int32.sub_eq_add_neg]; exact nI_pred t.length
            rw [e9]
            exact q1 1 t rfl _ Fr1.refl k5
          · rw [if_neg c6] at e3 e8 q0
            subst eI e3 e8
            exact q0 rfl
      · rw [if_neg c5] at q0
        refine ⟨fun _ _ => ⟨fun n => absurd n c3, fun _ n => absurd n c5⟩, fun I2 eI v3 e3 v8 e8 => ?_⟩
        rw [if_neg c1, if_pos c2, if_neg c3] at eI e3 e8
        rw [if_neg c5] at e3 e8
        subst eI e3 e8
        exact q0 rfl
  · rw [if_pos c2] at q1
    refine ⟨fun _ n => absurd n c2, fun I2 eI v3 e3 v8 e8 => ?_⟩
    rw [if_neg c1, if_neg c2] at eI e3 e8
    subst eI e8
    rw [e3, hd]
    exact q1 0 fr rfl _ Fr1.refl hk
end MF
