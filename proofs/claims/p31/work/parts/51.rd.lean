/-! own: reading a text, as a function; what of the memory shows it -/
set_option maxRecDepth 100000
abbrev FM := List (Int32 × Int32)
/-- parts (last first), held (last first), state, number, figures, slot, its figures, models, gauges -/
abbrev RS := FM × FM × Int32 × Int32 × Int32 × Int32 × Int32 × Int32 × Int32
def rF (r : RS) : FM := r.1
def rH (r : RS) : FM := r.2.1
def rS (r : RS) : Int32 := r.2.2.1
def rN (r : RS) : Int32 := r.2.2.2.1
def rG (r : RS) : Int32 := r.2.2.2.2.1
def rL (r : RS) : Int32 := r.2.2.2.2.2.1
def rC (r : RS) : Int32 := r.2.2.2.2.2.2.1
def rM (r : RS) : Int32 := r.2.2.2.2.2.2.2.1
def rA (r : RS) : Int32 := r.2.2.2.2.2.2.2.2
def rAdd (k v : Int32) (r : RS) : RS := ((k, v) :: r.1, r.2)
def rSt (x : Int32) (r : RS) : RS := (r.1, r.2.1, x, r.2.2.2)
def rNum (n g : Int32) (r : RS) : RS := (r.1, r.2.1, r.2.2.1, n, g, r.2.2.2.2.2)
def rNam (s c : Int32) (r : RS) : RS := (r.1, r.2.1, r.2.2.1, r.2.2.2.1, r.2.2.2.2.1, s, c, r.2.2.2.2.2.2.2)
def rMG (m a : Int32) (r : RS) : RS := (r.1, r.2.1, r.2.2.1, r.2.2.2.1, r.2.2.2.2.1, r.2.2.2.2.2.1, r.2.2.2.2.2.2.1, m, a)
def rHold (k c : Int32) (r : RS) : RS := (r.1, (k, c) :: r.2.1, r.2.2)
def rFH (f h : FM) (r : RS) : RS := (f, h, r.2.2)
def rMod (slot m : Int32) : Int32 := if 3 ≤ slot ∧ slot < 9 then m ||| ((1 : Int32) <<< ((slot - 3) &&& 31)) else if 9 ≤ slot ∧ slot < 15 then m ||| ((1 : Int32) <<< ((slot - 9) &&& 31)) else m
def rGau (slot a : Int32) : Int32 := if 0 ≤ slot ∧ slot < 3 then a ||| ((1 : Int32) <<< ((slot - 0) &&& 31)) else a
def rName (slot : Int32) (r : RS) : RS := rSt 6 (rMG (rMod slot (rM r)) (rGau slot (rA r)) (rAdd 1 slot r))
def rFig (ch : Int32) : Int32 := if ch < 48 then -1 else if 57 < ch then -1 else ch - 48
def rEnd (r : RS) : RS := if rS r = 1 then rSt 6 (rAdd 0 (rN r * 100) r) else if rS r = 3 then rSt 6 (rAdd 0 (rN r * 10) r) else r
def rSettle (s : Int32) : FM → FM → FM × FM
  | [], f => (f, [])
  | p :: h, f => if f_X3_strengthOf p.1 < s then (f, p :: h) else rSettle s h ((p.1, 0) :: f)
def rSet (s : Int32) (r : RS) : RS := rFH (rSettle s (rH r) (rF r)).1 (rSettle s (rH r) (rF r)).2 r
def rFac (rule ch : Int32) (r : RS) : Option RS :=
  if ch = 40 then some (rHold 12 0 r) else if ch = 45 then some (rHold 6 0 r) else if ch = 97 then some (rHold 11 0 (rSt 5 r))
  else if ch = 102 then (if rule = 0 then none else some (rName 18 r)) else if ch = 103 then (if rule = 0 then some (rSt 4 (rNam 0 3 r)) else none)
  else if ch = 104 then some (rName 16 r) else if ch = 105 then some (rHold 9 2 (rSt 5 r))
  else if ch = 108 then (if rule = 0 then none else some (rName 17 r)) else if ch = 109 then (if rule = 0 then some (rSt 4 (rNam 3 6 r)) else none)
  else if ch = 110 then some (rHold 8 1 (rSt 5 r)) else if ch = 112 then (if rule = 0 then some (rName 15 r) else none)
  else if ch = 113 then (if rule = 0 then some (rSt 4 (rNam 9 6 r)) else none) else if ch = 114 then (if rule = 0 then none else some (rName 19 r))
  else if ch = 116 then some (rHold 10 0 (rSt 5 r)) else if ch = 120 then some (rHold 7 1 (rSt 5 r)) else none
def rFigs (fig : Int32) (r : RS) : Option RS :=
  if rS r = 1 then (if rG r < 3 then some (rNum (rN r * 10 + fig) (rG r + 1) r) else none)
  else if rS r = 2 then some (rSt 3 (rNum (rN r * 10 + fig) (rG r + 1) r))
  else if rS r = 3 then some (rSt 6 (rAdd 0 (rN r * 10 + fig) (rNum (rN r * 10 + fig) (rG r + 1) r))) else none
def rOp (k s : Int32) (r : RS) : Option RS := some (rHold k 0 (rSt 0 (rSet s r)))
def rComma (r : RS) : Option RS := match rH (rSet 1 r) with
  | [] => none
  | p :: h => if p.2 = 0 then none else some (rSt 0 (rFH (rF (rSet 1 r)) ((p.1, p.2 - 1) :: h) r))
def rBrack (r : RS) : Option RS := match rH (rSet 1 r) with
  | [] => none
  | p :: h => if p.2 = 0 then (if p.1 = 12 then some (rFH (rF (rSet 1 r)) h r) else some (rFH ((p.1, 0) :: rF (rSet 1 r)) h r)) else none
def rSign (ch : Int32) (r : RS) : Option RS :=
  if rS r = 6 then (if ch = 41 then rBrack r else if ch = 42 then rOp 4 2 r else if ch = 43 then rOp 2 1 r else if ch = 44 then rComma r else if ch = 45 then rOp 3 1 r else if ch = 47 then rOp 5 2 r else none) else none
def rGo (ch : Int32) (r : RS) : Option RS := if rS r = 1 then (if ch = 46 then some (rSt 2 r) else rSign ch (rEnd r)) else rSign ch (rEnd r)
def rStep (rule ch : Int32) (r : RS) : Option RS :=
  if rS r = 0 then (if rFig ch = -1 then rFac rule ch r else some (rSt 1 (rNum (rFig ch) 1 r)))
  else if rS r = 4 then (if rFig ch = -1 then none else if rC r ≤ rFig ch then none else some (rName (rL r + rFig ch) r))
  else if rS r = 5 then (if ch = 40 then some (rSt 0 r) else none)
  else if rFig ch = -1 then rGo ch r else rFigs (rFig ch) r
def r0 : RS := ([], [], 0, 0, 0, 0, 0, 0, 0)
/-- letters from the i-th on: the place of the first fault, or the state behind them -/
def rRun (rule : Int32) : List Int32 → Nat → RS → Nat ⊕ RS
  | [], _, r => .inr r
  | ch :: l, i, r => match rStep rule ch r with
    | none => .inl i
    | some r2 => rRun rule l (i + 1) r2
def rFin (r : RS) : RS := rSet 1 (rEnd r)
def rEnds (r : RS) : Prop := rS (rFin r) = 6 ∧ rH (rFin r) = []
/-- what is behind a number that is begun -/
def rPend (r : RS) : Nat := if rS r = 1 then 1 else if rS r = 2 then 1 else if rS r = 3 then 1 else 0
def rSz (r : RS) : Nat := (rF r).length + (rH r).length + rPend r
theorem rSettle_sz {s : Int32} : ∀ (h f : FM), (rSettle s h f).1.length + (rSettle s h f).2.length = f.length + h.length
  | [], f => rfl
  | p :: h, f => by
    unfold rSettle
    split
    · rfl
    · rw [rSettle_sz h ((p.1, 0) :: f)]; simp only [List.length_cons]; omega
/-- a row of pairs in two rows of cells, the last one on top -/
def StkP (I : Nat → Nat → Int32) (a b : Nat) : FM → Prop
  | [] => True
  | p :: l => I a l.length = p.1 ∧ I b l.length = p.2 ∧ StkP I a b l
section SK
variable {I J : Nat → Nat → Int32} {a b o k : Nat} {v : Int32}
theorem StkP_fr : ∀ {l : FM}, (∀ k, k < l.length → J a k = I a k ∧ J b k = I b k) → StkP I a b l → StkP J a b l
  | [], _, _ => trivial
  | p :: l, h, ⟨h1, h2, h3⟩ => by
    have z := h l.length (by simp only [List.length_cons]; omega)
    exact ⟨z.1.trans h1, z.2.trans h2, StkP_fr (fun k hk => h k (by simp only [List.length_cons]; omega)) h3⟩
theorem StkP_ne {l : FM} (h1 : o ≠ a) (h2 : o ≠ b) (h : StkP I a b l) : StkP (am_u I o k v) a b l :=
  StkP_fr (fun _ _ => ⟨am_u_ne (Or.inl (Ne.symm h1)), am_u_ne (Or.inl (Ne.symm h2))⟩) h
theorem StkP_ge {l : FM} (h1 : l.length ≤ k) (h : StkP I a b l) : StkP (am_u I o k v) a b l :=
  StkP_fr (fun j hj => ⟨am_u_ne (Or.inr (by omega)), am_u_ne (Or.inr (by omega))⟩) h
theorem StkP_push {l : FM} {x y : Int32} (hab : a ≠ b) (hk : k = l.length) (h : StkP I a b l) : StkP (am_u (am_u I a k x) b k y) a b ((x, y) :: l) := by
  subst hk
  exact ⟨by rw [am_u_ne (Or.inl hab), am_u_eq], am_u_eq, StkP_ge (Nat.le_refl _) (StkP_ge (Nat.le_refl _) h)⟩
end SK
/-- the reader's cells show the state r -/
def Rd (I : Nat → Nat → Int32) (rule : Int32) (r : RS) : Prop :=
  I 3 3 = nI (rH r).length ∧ StkP I 7 8 (rH r) ∧ I 4 2 = nI (rF r).length ∧ StkP I 5 6 (rF r) ∧ I 3 4 = rS r ∧ I 3 5 = rule ∧
  (rS r = 1 ∨ rS r = 2 ∨ rS r = 3 → I 3 6 = rN r ∧ I 3 7 = rG r) ∧ (rS r = 4 → I 3 8 = rL r ∧ I 3 9 = rC r) ∧ I 4 3 = rM r ∧ I 4 4 = rA r
/-- nothing but the reader's cells has changed -/
def RdFr (I J : Nat → Nat → Int32) : Prop := ∀ o k, (o < 3 ∨ 8 < o) → J o k = I o k
section RD
variable {I J K : Nat → Nat → Int32} {o k : Nat} {v rule : Int32} {r : RS}
theorem RdFr.refl : RdFr I I := fun _ _ _ => rfl
theorem RdFr.trans (h1 : RdFr I J) (h2 : RdFr J K) : RdFr I K := fun o k h => (h2 o k h).trans (h1 o k h)
theorem RdFr_u (h1 : 3 ≤ o) (h2 : o ≤ 8) (h : RdFr I J) : RdFr I (am_u J o k v) := fun o2 k2 z => (am_u_ne (Or.inl (by omega))).trans (h o2 k2 z)
theorem nI_lt40 {n : Nat} (h : n < 40) : ¬ nI n < 0 ∧ ¬ 40 ≤ nI n ∧ nI n < 40 := by
  have h1 : nI n < 40 := (nI_ltI (b := 40) (by omega) (by decide)).mpr h
  exact ⟨fun z => absurd ((nI_ltI (b := 0) (by omega) (by decide)).mp z) (by omega), fun z => absurd h1 (Int32.not_lt.mpr z), h1⟩
theorem add4 {f : FM} {x y : Int32} (h : I 4 2 = nI f.length) (hl : f.length < 40) : fI_X2_add 4 x y I = am_u (am_u (am_u I 5 f.length x) 6 f.length y) 4 2 (nI (f.length + 1)) := by
  have z := nI_lt40 hl
  have c : (nI f.length).toNatClampNeg = f.length := nI_clamp (by omega)
  unfold fI_X2_add
  simp only [h, if_neg z.1, if_neg z.2.1, c]
  rw [nI_succ]
theorem rAdd_Rd {x y : Int32} (h : Rd I rule r) (hl : (rF r).length < 40) : Rd (fI_X2_add 4 x y I) rule (rAdd x y r) ∧ RdFr I (fI_X2_add 4 x y I) := by
  obtain ⟨h1, h2, h3, h4, h5, h6, h7, h8, h9, h10⟩ := h
  rw [add4 h3 hl]
  refine ⟨⟨?_, ?_, am_u_eq, ?_, ?_, ?_, ?_, ?_, ?_, ?_⟩, RdFr_u (by decide) (by decide) (RdFr_u (by decide) (by decide) (RdFr_u (by decide) (by decide) RdFr.refl))⟩
  · rw [am_u_ne (by omega), am_u_ne (by omega), am_u_ne (by omega)]; exact h1
  · exact StkP_ne (by decide) (by decide) (StkP_ne (by decide) (by decide) (StkP_ne (by decide) (by decide) h2))
  · exact StkP_ne (by decide) (by decide) (StkP_push (by decide) rfl h4)
  · rw [am_u_ne (by omega), am_u_ne (by omega), am_u_ne (by omega)]; exact h5
  · rw [am_u_ne (by omega), am_u_ne (by omega), am_u_ne (by omega)]; exact h6
  · intro z; rw [am_u_ne (by omega), am_u_ne (by omega), am_u_ne (by omega), am_u_ne (by omega), am_u_ne (by omega), am_u_ne (by omega)]; exact h7 z
  · intro z; rw [am_u_ne (by omega), am_u_ne (by omega), am_u_ne (by omega), am_u_ne (by omega), am_u_ne (by omega), am_u_ne (by omega)]; exact h8 z
  · rw [am_u_ne (by omega), am_u_ne (by omega), am_u_ne (by omega)]; exact h9
  · rw [am_u_ne (by omega), am_u_ne (by omega), am_u_ne (by omega)]; exact h10
theorem hold_eq {x y : Int32} {h : FM} (h1 : I 3 3 = nI h.length) (hl : h.length < 40) : fI_X3_hold x y I = am_u (am_u (am_u I 7 h.length x) 8 h.length y) 3 3 (nI (h.length + 1)) ∧ f_X3_hold x y I = 1 := by
  have z := nI_lt40 hl
  have c : (nI h.length).toNatClampNeg = h.length := nI_clamp (by omega)
  unfold fI_X3_hold f_X3_hold
  simp only [h1, if_neg z.1, if_neg z.2.1, if_pos z.2.2, c]
  rw [nI_succ]
  exact ⟨rfl, trivial⟩
theorem rHold_Rd {x y : Int32} (h : Rd I rule r) (hl : (rH r).length < 40) : Rd (fI_X3_hold x y I) rule (rHold x y r) ∧ RdFr I (fI_X3_hold x y I) ∧ f_X3_hold x y I = 1 := by
  obtain ⟨h1, h2, h3, h4, h5, h6, h7, h8, h9, h10⟩ := h
  have e := hold_eq (x := x) (y := y) h1 hl
  rw [e.1]
  refine ⟨⟨am_u_eq, ?_, ?_, ?_, ?_, ?_, ?_, ?_, ?_, ?_⟩, RdFr_u (by decide) (by decide) (RdFr_u (by decide) (by decide) (RdFr_u (by decide) (by decide) RdFr.refl)), e.2⟩
  · exact StkP_ne (by decide) (by decide) (StkP_push (by decide) rfl h2)
  · rw [am_u_ne (by omega), am_u_ne (by omega), am_u_ne (by omega)]; exact h3
  · exact StkP_ne (by decide) (by decide) (StkP_ne (by decide) (by decide) (StkP_ne (by decide) (by decide) h4))
  · rw [am_u_ne (by omega), am_u_ne (by omega), am_u_ne (by omega)]; exact h5
  · rw [am_u_ne (by omega), am_u_ne (by omega), am_u_ne (by omega)]; exact h6
  · intro z; rw [am_u_ne (by omega), am_u_ne (by omega), am_u_ne (by omega), am_u_ne (by omega), am_u_ne (by omega), am_u_ne (by omega)]; exact h7 z
  · intro z; rw [am_u_ne (by omega), am_u_ne (by omega), am_u_ne (by omega), am_u_ne (by omega), am_u_ne (by omega), am_u_ne (by omega)]; exact h8 z
  · rw [am_u_ne (by omega), am_u_ne (by omega), am_u_ne (by omega)]; exact h9
  · rw [am_u_ne (by omega), am_u_ne (by omega), am_u_ne (by omega)]; exact h10
/-- a new state: numbers and names are shown where the new one asks for them -/
theorem rSt_Rd {x : Int32} (h : Rd I rule r) (hn : x = 1 ∨ x = 2 ∨ x = 3 → I 3 6 = rN r ∧ I 3 7 = rG r) (hm : x = 4 → I 3 8 = rL r ∧ I 3 9 = rC r) : Rd (am_u I 3 4 x) rule (rSt x r) ∧ RdFr I (am_u I 3 4 x) := by
  obtain ⟨h1, h2, h3, h4, h5, h6, h7, h8, h9, h10⟩ := h
  refine ⟨⟨?_, ?_, ?_, ?_, am_u_eq, ?_, ?_, ?_, ?_, ?_⟩, RdFr_u (by decide) (by decide) RdFr.refl⟩
  · rw [am_u_ne (by omega)]; exact h1
  · exact StkP_ne (by decide) (by decide) h2
  · rw [am_u_ne (by omega)]; exact h3
  · exact StkP_ne (by decide) (by decide) h4
  · rw [am_u_ne (by omega)]; exact h6
  · intro z; rw [am_u_ne (by omega), am_u_ne (by omega)]; exact hn z
  · intro z; rw [am_u_ne (by omega), am_u_ne (by omega)]; exact hm z
  · rw [am_u_ne (by omega)]; exact h9
  · rw [am_u_ne (by omega)]; exact h10
/-- numbers and names told, in whatever state -/
theorem rNum_Rd {n g : Int32} (h : Rd I rule r) : Rd (am_u (am_u I 3 6 n) 3 7 g) rule (rNum n g r) ∧ RdFr I (am_u (am_u I 3 6 n) 3 7 g) ∧ (am_u (am_u I 3 6 n) 3 7 g) 3 6 = n ∧ (am_u (am_u I 3 6 n) 3 7 g) 3 7 = g := by
  obtain ⟨h1, h2, h3, h4, h5, h6, h7, h8, h9, h10⟩ := h
  refine ⟨⟨?_, ?_, ?_, ?_, ?_, ?_, ?_, ?_, ?_, ?_⟩, RdFr_u (by decide) (by decide) (RdFr_u (by decide) (by decide) RdFr.refl), ?_, am_u_eq⟩
  · rw [am_u_ne (by omega), am_u_ne (by omega)]; exact h1
  · exact StkP_ne (by decide) (by decide) (StkP_ne (by decide) (by decide) h2)
  · rw [am_u_ne (by omega), am_u_ne (by omega)]; exact h3
  · exact StkP_ne (by decide) (by decide) (StkP_ne (by decide) (by decide) h4)
  · rw [am_u_ne (by omega), am_u_ne (by omega)]; exact h5
  · rw [am_u_ne (by omega), am_u_ne (by omega)]; exact h6
  · intro _; exact ⟨by rw [am_u_ne (by omega), am_u_eq]; rfl, am_u_eq⟩
  · intro z; rw [am_u_ne (by omega), am_u_ne (by omega), am_u_ne (by omega), am_u_ne (by omega)]; exact h8 z
  · rw [am_u_ne (by omega), am_u_ne (by omega)]; exact h9
  · rw [am_u_ne (by omega), am_u_ne (by omega)]; exact h10
  · rw [am_u_ne (by omega), am_u_eq]
theorem rNam_Rd {n g : Int32} (h : Rd I rule r) : Rd (am_u (am_u I 3 8 n) 3 9 g) rule (rNam n g r) ∧ RdFr I (am_u (am_u I 3 8 n) 3 9 g) ∧ (am_u (am_u I 3 8 n) 3 9 g) 3 8 = n ∧ (am_u (am_u I 3 8 n) 3 9 g) 3 9 = g := by
  obtain ⟨h1, h2, h3, h4, h5, h6, h7, h8, h9, h10⟩ := h
  refine ⟨⟨?_, ?_, ?_, ?_, ?_, ?_, ?_, ?_, ?_, ?_⟩, RdFr_u (by decide) (by decide) (RdFr_u (by decide) (by decide) RdFr.refl), ?_, am_u_eq⟩
  · rw [am_u_ne (by omega), am_u_ne (by omega)]; exact h1
  · exact StkP_ne (by decide) (by decide) (StkP_ne (by decide) (by decide) h2)
  · rw [am_u_ne (by omega), am_u_ne (by omega)]; exact h3
  · exact StkP_ne (by decide) (by decide) (StkP_ne (by decide) (by decide) h4)
  · rw [am_u_ne (by omega), am_u_ne (by omega)]; exact h5
  · rw [am_u_ne (by omega), am_u_ne (by omega)]; exact h6
  · intro z; rw [am_u_ne (by omega), am_u_ne (by omega), am_u_ne (by omega), am_u_ne (by omega)]; exact h7 z
  · intro _; exact ⟨by rw [am_u_ne (by omega), am_u_eq]; rfl, am_u_eq⟩
  · rw [am_u_ne (by omega), am_u_ne (by omega)]; exact h9
  · rw [am_u_ne (by omega), am_u_ne (by omega)]; exact h10
  · rw [am_u_ne (by omega), am_u_eq]
theorem rM_Rd {m : Int32} (h : Rd I rule r) : Rd (am_u I 4 3 m) rule (rMG m (rA r) r) ∧ RdFr I (am_u I 4 3 m) := by
  obtain ⟨h1, h2, h3, h4, h5, h6, h7, h8, h9, h10⟩ := h
  refine ⟨⟨?_, ?_, ?_, ?_, ?_, ?_, ?_, ?_, am_u_eq, ?_⟩, RdFr_u (by decide) (by decide) RdFr.refl⟩
  · rw [am_u_ne (by omega)]; exact h1
  · exact StkP_ne (by decide) (by decide) h2
  · rw [am_u_ne (by omega)]; exact h3
  · exact StkP_ne (by decide) (by decide) h4
  · rw [am_u_ne (by omega)]; exact h5
  · rw [am_u_ne (by omega)]; exact h6
  · intro z; rw [am_u_ne (by omega), am_u_ne (by omega)]; exact h7 z
  · intro z; rw [am_u_ne (by omega), am_u_ne (by omega)]; exact h8 z
  · rw [am_u_ne (by omega)]; exact h10
theorem rA_Rd {m : Int32} (h : Rd I rule r) : Rd (am_u I 4 4 m) rule (rMG (rM r) m r) ∧ RdFr I (am_u I 4 4 m) := by
  obtain ⟨h1, h2, h3, h4, h5, h6, h7, h8, h9, h10⟩ := h
  refine ⟨⟨?_, ?_, ?_, ?_, ?_, ?_, ?_, ?_, ?_, am_u_eq⟩, RdFr_u (by decide) (by decide) RdFr.refl⟩
  · rw [am_u_ne (by omega)]; exact h1
  · exact StkP_ne (by decide) (by decide) h2
  · rw [am_u_ne (by omega)]; exact h3
  · exact StkP_ne (by decide) (by decide) h4
  · rw [am_u_ne (by omega)]; exact h5
  · rw [am_u_ne (by omega)]; exact h6
  · intro z; rw [am_u_ne (by omega), am_u_ne (by omega)]; exact h7 z
  · intro z; rw [am_u_ne (by omega), am_u_ne (by omega)]; exact h8 z
  · rw [am_u_ne (by omega)]; exact h9
end RD
