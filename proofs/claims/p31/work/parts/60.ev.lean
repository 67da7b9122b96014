/-! own: working out, as a function, and that the class's reckoner does so -/
set_option maxRecDepth 100000
def hdF (s : List UInt32) : UInt32 := match s with
  | [] => 0
  | x :: _ => x
def tlF (s : List UInt32) : List UInt32 := match s with
  | [] => []
  | _ :: t => t
def ejoin (k : Int32) (l r : UInt32) : UInt32 := if k = 2 then FP.fadd l r else if k = 3 then FP.fsub l r else if k = 4 then FP.fmul l r else if k = 5 then (if fk r = 0 then 0 else FP.fdiv l r) else if k = 7 then (if fk l < fk r then r else l) else if fk r < fk l then r else l
def eop (k : Int32) (s : List UInt32) : List UInt32 :=
  if k = 6 then kp (FP.fsub 0 (hdF s)) :: tlF s else if k = 9 then kp (if fk (hdF (tlF (tlF s))) ≤ 0 then hdF s else hdF (tlF s)) :: tlF (tlF (tlF s))
  else if k = 10 then kp (FP.i2f (FP.f2i (hdF s))) :: tlF s else if k = 11 then kp (if 0 ≤ fk (hdF s) then hdF s else FP.fsub 0 (hdF s)) :: tlF s
  else kp (ejoin k (hdF (tlF s)) (hdF s)) :: tlF (tlF s)
def enum (v : Int32) : UInt32 := FP.fdiv (FP.i2f v) 1120403456
def ename (nm : Nat → UInt32) (v : Int32) : UInt32 := if v < 0 then 0 else if 20 ≤ v then 0 else nm v.toNatClampNeg
def est (nm : Nat → UInt32) (p : Int32 × Int32) (s : List UInt32) : List UInt32 := if p.1 = 0 then kp (enum p.2) :: s else if p.1 = 1 then kp (ename nm p.2) :: s else eop p.1 s
/-- the values that parts leave, the last first -/
def evalR (nm : Nat → UInt32) : FM → List UInt32
  | [] => []
  | p :: f => est nm p (evalR nm f)
def StkF (F : Nat → Nat → UInt32) (a : Nat) : List UInt32 → Prop
  | [] => True
  | x :: l => F a l.length = x ∧ StkF F a l
def kvs : List UInt32 → Prop
  | [] => True
  | x :: l => kv x ∧ kvs l
def SK (I : Nat → Nat → Int32) (F : Nat → Nat → UInt32) (s : List UInt32) : Prop := I 10 2 = nI s.length ∧ StkF F 12 s ∧ s.length ≤ 40 ∧ kvs s
def IFr (I J : Nat → Nat → Int32) : Prop := ∀ o k, ¬ (o = 10 ∧ k = 2) → J o k = I o k
def FFr (F H : Nat → Nat → UInt32) : Prop := ∀ o k, o ≠ 12 → H o k = F o k
section EV
variable {X : Nat × (Nat × (Nat → Int32))} {I J K : Nat → Nat → Int32} {L : Nat → Nat → Int64} {F H H2 : Nat → Nat → UInt32} {Q : AQ} {s : List UInt32} {x : UInt32} {k : Int32}
theorem IFr.refl : IFr I I := fun _ _ _ => rfl
theorem FFr.refl : FFr F F := fun _ _ _ => rfl
theorem IFr.trans (h1 : IFr I J) (h2 : IFr J K) : IFr I K := fun o k n => (h2 o k n).trans (h1 o k n)
theorem FFr.trans (h1 : FFr F H) (h2 : FFr H H2) : FFr F H2 := fun o k n => (h2 o k n).trans (h1 o k n)
theorem IFr_u {v : Int32} : IFr I (am_u I 10 2 v) := fun o k n => if_neg n
theorem FFr_u {j : Nat} {v : UInt32} : FFr F (am_u F 12 j v) := fun o k n => am_u_ne (Or.inl n)
theorem StkF_ge : ∀ {l : List UInt32} {j : Nat}, l.length ≤ j → StkF F 12 l → StkF (am_u F 12 j x) 12 l
  | [], _, _, _ => trivial
  | y :: l, j, h, ⟨h1, h2⟩ => by
    simp only [List.length_cons] at h
    exact ⟨by rw [am_u_ne (by omega)]; exact h1, StkF_ge (by omega) h2⟩
theorem kv_hd (h : kvs s) : kv (hdF s) := by
  cases s with
  | nil => exact kv_0
  | cons x l => exact h.1
theorem kvs_tl (h : kvs s) : kvs (tlF s) := by
  cases s with
  | nil => trivial
  | cons x l => exact h.2
theorem tl_len : (tlF s).length = s.length - 1 := by cases s <;> rfl
theorem take_ok (z : SK I F s) : p_X4_take I ∧ f_X4_take I F = hdF s ∧ SK (fI_X4_take I) F (tlF s) ∧ IFr I (fI_X4_take I) := by
  obtain ⟨h1, h2, h3, h4⟩ := z
  unfold p_X4_take f_X4_take fI_X4_take
  rw [h1]
  cases s with
  | nil =>
    have c : nI ([] : List UInt32).length < 1 := by decide
    rw [if_pos c, if_pos c]
    exact ⟨⟨fun n => absurd c n, trivial⟩, rfl, ⟨h1, trivial, Nat.zero_le _, trivial⟩, IFr.refl⟩
  | cons y l =>
    simp only [List.length_cons] at h3 ⊢
    have c : ¬ nI (l.length + 1) < 1 := fun n => absurd ((nI_ltI (b := 1) (by omega) (by decide)).mp n) (by omega)
    have c2 : nI (l.length + 1) ≤ 40 := (nI_leI (b := 40) (by omega) (by decide)).mpr h3
    have e : nI (l.length + 1) - 1 = nI l.length := nI_pred l.length
    rw [if_neg c, if_neg c, if_pos c2, if_pos c2, e, nI_clamp (by omega)]
    exact ⟨⟨fun _ _ => ⟨nI_in (by omega) (by decide), trivial⟩, trivial⟩, h2.1, ⟨am_u_eq, h2.2, by show l.length ≤ 40; omega, h4.2⟩, IFr_u⟩
theorem kp_code (hx : nn x) : (if (Op.cmpValue (FP.fcmp (if (Op.cmpValue (FP.fcmp x 1315859240) .l) ≤ 0 then (if 0 ≤ (Op.cmpValue (FP.fcmp x 3463342888) .g) then x else 3463342888) else 1315859240) 0) .l) = 0 then 0 else (if (Op.cmpValue (FP.fcmp x 1315859240) .l) ≤ 0 then (if 0 ≤ (Op.cmpValue (FP.fcmp x 3463342888) .g) then x else 3463342888) else 1315859240)) = kp x := by
  have a1 : nn 1315859240 := nn_lit (by decide)
  have a2 : nn 3463342888 := nn_lit (by decide)
  have b1 : fk 1315859240 = 1315859240 := by decide
  have b2 : fk 3463342888 = -1315859240 := by decide
  unfold kp
  by_cases c1 : 1315859240 < fk x
  · have d : ¬ Op.cmpValue (FP.fcmp x 1315859240) .l ≤ 0 := fun n => by
      rw [fc_le hx a1, b1] at n; omega
    rw [if_pos c1, if_neg d, if_neg (by rw [fc_eq a1 nn_0, b1, fk_zero]; decide)]
  · have d : Op.cmpValue (FP.fcmp x 1315859240) .l ≤ 0 := by
      rw [fc_le hx a1, b1]; omega
    rw [if_neg c1, if_pos d]
    by_cases c2 : fk x < -1315859240
    · have e : ¬ 0 ≤ Op.cmpValue (FP.fcmp x 3463342888) .g := fun n => by
        rw [fc_ge hx a2, b2] at n; omega
      rw [if_pos c2, if_neg e, if_neg (by rw [fc_eq a2 nn_0, b2, fk_zero]; decide)]
    · have e : 0 ≤ Op.cmpValue (FP.fcmp x 3463342888) .g := by
        rw [fc_ge hx a2, b2]; omega
      rw [if_neg c2, if_pos e]
      by_cases c3 : fk x = 0
      · rw [if_pos c3, if_pos (by rw [fc_eq hx nn_0, fk_zero]; exact c3)]
      · rw [if_neg c3, if_neg (by rw [fc_eq hx nn_0, fk_zero]; exact c3)]
theorem keep_ok (z : SK I F s) (hl : s.length < 40) (hx : nn x) : SK (fI_X4_keep x I) (fF_X4_keep x I F) (kp x :: s) ∧ IFr I (fI_X4_keep x I) ∧ FFr F (fF_X4_keep x I F) := by
  obtain ⟨h1, h2, h3, h4⟩ := z
  have lt := nI_lt40 hl
  unfold fI_X4_keep fF_X4_keep
  rw [h1, if_neg lt.1, if_neg lt.2.1, if_neg lt.1, if_neg lt.2.1, kp_code hx, nI_clamp (by omega), nI_1]
  exact ⟨⟨am_u_eq, ⟨am_u_eq, StkF_ge (Nat.le_refl _) h2⟩, by show s.length + 1 ≤ 40; omega, kp_kv, h4⟩, IFr_u, FFr_u⟩
theorem join_nn {l r : UInt32} (hl : kv l) (hr : kv r) : p_X4_join k l r ∧ f_X4_join k l r = ejoin k l r ∧ nn (ejoin k l r) := by
  have z1 : (Op.cmpValue (FP.fcmp r 0) .l) = 0 ↔ fk r = 0 := by rw [fc_eq hr.nn nn_0, fk_zero]
  unfold p_X4_join f_X4_join ejoin
  refine ⟨⟨⟨fun _ => ⟨nn_vf.mpr (nn_add hl.nn hr.fin), trivial⟩, fun _ => ⟨fun _ => ⟨nn_vf.mpr (nn_sub hl.nn hr.fin), trivial⟩, fun _ => ⟨fun _ => ⟨nn_vf.mpr (nn_mul hl.fin hr.fin), trivial⟩, fun _ _ => ⟨fun n => ⟨nn_vf.mpr (nn_div hl.nn hr.fin (fun y => n (z1.mpr y))), trivial⟩, trivial⟩⟩⟩⟩, trivial⟩, ?_, ?_⟩
  · by_cases c2 : k = 2
    · rw [if_pos c2, if_pos c2]
    rw [if_neg c2, if_neg c2]
    by_cases c3 : k = 3
    · rw [if_pos c3, if_pos c3]
    rw [if_neg c3, if_neg c3]
    by_cases c4 : k = 4
    · rw [if_pos c4, if_pos c4]
    rw [if_neg c4, if_neg c4]
    by_cases c5 : k = 5
    · rw [if_pos c5, if_pos c5]
      by_cases y : fk r = 0
      · rw [if_pos y, if_pos (z1.mpr y)]
      · rw [if_neg y, if_neg (fun n => y (z1.mp n))]
    rw [if_neg c5, if_neg c5]
    have g : (if 0 < Op.cmpValue (FP.fcmp l r) .g then r else l) = if fk r < fk l then r else l := by
      have := fc_gt (op := .g) hl.nn hr.nn
      by_cases y : fk r < fk l
      · rw [if_pos y, if_pos (this.mpr y)]
      · rw [if_neg y, if_neg (fun n => y (this.mp n))]
    have g2 : (if Op.cmpValue (FP.fcmp l r) .l < 0 then r else l) = if fk l < fk r then r else l := by
      have := fc_lt (op := .l) hl.nn hr.nn
      by_cases y : fk l < fk r
      · rw [if_pos y, if_pos (this.mpr y)]
      · rw [if_neg y, if_neg (fun n => y (this.mp n))]
    rw [g, g2]
    by_cases c7 : k = 7
    · have c6 : ¬ k = 6 := by rw [c7]; decide
      rw [if_neg c6]
    · rw [if_neg c7]
      split <;> rfl
  · split
    · exact nn_add hl.nn hr.fin
    · split
      · exact nn_sub hl.nn hr.fin
      · split
        · exact nn_mul hl.fin hr.fin
        · split
          · split
            · exact nn_0
            · exact nn_div hl.nn hr.fin ‹_›
          · split
            · split
              · exact hr.nn
              · exact hl.nn
            · split
              · exact hr.nn
              · exact hl.nn
end EV
