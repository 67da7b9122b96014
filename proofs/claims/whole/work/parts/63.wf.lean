/-! own: what is held fits the values -/
set_option maxRecDepth 100000
def hkL : List (Int32 × Int32) := [(2, 0), (3, 0), (4, 0), (5, 0), (6, 0), (12, 0), (10, 0), (11, 0), (7, 0), (7, 1), (8, 0), (8, 1), (9, 0), (9, 1), (9, 2)]
def HK : FM → Prop
  | [] => True
  | p :: h => p ∈ hkL ∧ HK h
def ar (p : Int32 × Int32) : Nat := if p.1 = 9 then 2 - p.2.toNatClampNeg else if p.1 = 7 then 1 - p.2.toNatClampNeg else if p.1 = 8 then 1 - p.2.toNatClampNeg else if p.1 = 6 then 0 else if p.1 = 12 then 0 else if p.1 = 10 then 0 else if p.1 = 11 then 0 else 1
def Wt : FM → Nat
  | [] => 0
  | p :: h => ar p + Wt h
/-- no - ahead at the top -/
def NT (h : FM) : Prop := match h with
  | [] => True
  | q :: _ => q.1 ≠ 6
def NN : FM → Prop
  | [] => True
  | p :: h => ((f_X3_strengthOf p.1 = 1 ∨ f_X3_strengthOf p.1 = 2) → NT h) ∧ NN h
theorem hk_nk : ∀ p ∈ hkL, p.1 ≠ 12 → p.2 = 0 → nk p.1 = ar p + 1 ∧ p.1 ∈ kinds := by decide
theorem hk_str : ∀ p ∈ hkL, ¬ f_X3_strengthOf p.1 < 1 → p.1 ≠ 12 ∧ p.2 = 0 := by decide
theorem hk_neg : ∀ p ∈ hkL, (¬ f_X3_strengthOf p.1 < 3 ↔ p.1 = 6) ∧ (kl p.1 = 126 ↔ p.1 = 6) ∧ (kl p.1 = 40 ↔ p.1 = 12) := by decide
theorem hk_w2 : ∀ p ∈ hkL, p.1 ≠ 6 → (¬ f_X3_strengthOf p.1 < 2 ↔ (kl p.1 = 42 ∨ kl p.1 = 47)) ∧ (¬ f_X3_strengthOf p.1 < 1 ↔ (kl p.1 = 42 ∨ kl p.1 = 47 ∨ kl p.1 = 43 ∨ kl p.1 = 45)) := by decide
theorem hk_bin : ∀ p ∈ hkL, ¬ f_X3_strengthOf p.1 < 1 → p.1 ≠ 6 → f_X3_strengthOf p.1 = 1 ∨ f_X3_strengthOf p.1 = 2 := by decide
theorem kd_01 : ∀ k ∈ kinds, k ≠ 0 ∧ k ≠ 1 ∧ 1 ≤ nk k := by decide
theorem eop_len {k : Int32} {s : List UInt32} (hk : k ∈ kinds) (hn : nk k ≤ s.length) : (eop k s).length + nk k = s.length + 1 := by
  have a1 := tl_len (s := s)
  have a2 := tl_len (s := tlF s)
  have a3 := tl_len (s := tlF (tlF s))
  unfold kinds at hk
  simp only [List.mem_cons, List.mem_nil_iff, or_false] at hk
  have z : ∀ (n : Nat) (y : UInt32) (t : List UInt32), t.length + n = s.length → 1 ≤ n → (y :: t).length + n = s.length + 1 := fun n y t h _ => by
    show t.length + 1 + n = _; omega
  rcases hk with e | e | e | e | e | e | e | e | e | e <;> subst e
  · exact z 2 _ (tlF (tlF s)) (by have : 2 ≤ s.length := hn; omega) (by decide)
  · exact z 2 _ (tlF (tlF s)) (by have : 2 ≤ s.length := hn; omega) (by decide)
  · exact z 2 _ (tlF (tlF s)) (by have : 2 ≤ s.length := hn; omega) (by decide)
  · exact z 2 _ (tlF (tlF s)) (by have : 2 ≤ s.length := hn; omega) (by decide)
  · exact z 1 _ (tlF s) (by have : 1 ≤ s.length := hn; omega) (by decide)
  · exact z 2 _ (tlF (tlF s)) (by have : 2 ≤ s.length := hn; omega) (by decide)
  · exact z 2 _ (tlF (tlF s)) (by have : 2 ≤ s.length := hn; omega) (by decide)
  · exact z 3 _ (tlF (tlF (tlF s))) (by have : 3 ≤ s.length := hn; omega) (by decide)
  · exact z 1 _ (tlF s) (by have : 1 ≤ s.length := hn; omega) (by decide)
  · exact z 1 _ (tlF s) (by have : 1 ≤ s.length := hn; omega) (by decide)
theorem evalR_op {nm : Nat → UInt32} {k : Int32} {f : FM} (hk : k ∈ kinds) : evalR nm ((k, 0) :: f) = eop k (evalR nm f) := by
  have z := kd_01 k hk
  show est nm (k, 0) (evalR nm f) = _
  unfold est
  rw [if_neg z.1, if_neg z.2.1]
/-- parts, held: as many values as what is held asks for, and one -/
def Full (nm : Nat → UInt32) (f h : FM) : Prop := HK h ∧ NN h ∧ (evalR nm f).length = Wt h + 1
section WF
variable {nm : Nat → UInt32} {s : Int32} {p : Int32 × Int32}
/-- what is let go -/
theorem full_pop {f h : FM} (z : Full nm f (p :: h)) (h12 : p.1 ≠ 12) (h0 : p.2 = 0) : Full nm ((p.1, 0) :: f) h ∧ p.1 ∈ kinds ∧ nk p.1 ≤ (evalR nm f).length := by
  obtain ⟨⟨h1, h2⟩, ⟨h3, h4⟩, h5⟩ := z
  have k := hk_nk p h1 h12 h0
  have w : Wt (p :: h) = ar p + Wt h := rfl
  have l := eop_len (s := evalR nm f) k.2 (by omega)
  refine ⟨⟨h2, h4, ?_⟩, k.2, by omega⟩
  rw [evalR_op k.2]
  omega
theorem str_ge {x : Int32} (hs : 1 ≤ s) (c : ¬ x < s) : ¬ x < 1 := by
  rw [Int32.lt_iff_toInt_lt] at c ⊢
  rw [Int32.le_iff_toInt_le] at hs
  omega
theorem settle_full (hs : 1 ≤ s) : ∀ (h f : FM), Full nm f h → Full nm (rSettle s h f).1 (rSettle s h f).2
  | [], f, z => z
  | p :: h, f, z => by
    unfold rSettle
    by_cases c : f_X3_strengthOf p.1 < s
    · rw [if_pos c]; exact z
    · rw [if_neg c]
      have a := hk_str p z.1.1 (str_ge hs c)
      exact settle_full hs h ((p.1, 0) :: f) (full_pop z a.1 a.2).1
theorem settle_comp (hs : s ≤ 3) : ∀ (h f : FM), rSettle s (rSettle 3 h f).2 (rSettle 3 h f).1 = rSettle s h f
  | [], f => rfl
  | p :: h, f => by
    by_cases c : f_X3_strengthOf p.1 < 3
    · have e : rSettle 3 (p :: h) f = (f, p :: h) := by
        show (if f_X3_strengthOf p.1 < 3 then (f, p :: h) else rSettle 3 h ((p.1, 0) :: f)) = _
        rw [if_pos c]
      rw [e]
    · have e : rSettle 3 (p :: h) f = rSettle 3 h ((p.1, 0) :: f) := by
        show (if f_X3_strengthOf p.1 < 3 then (f, p :: h) else rSettle 3 h ((p.1, 0) :: f)) = _
        rw [if_neg c]
      have d : ¬ f_X3_strengthOf p.1 < s := by
        rw [Int32.lt_iff_toInt_lt] at c ⊢
        rw [Int32.le_iff_toInt_le] at hs
        omega
      rw [e, settle_comp hs h ((p.1, 0) :: f)]
      show _ = (if f_X3_strengthOf p.1 < s then (f, p :: h) else rSettle s h ((p.1, 0) :: f))
      rw [if_neg d]
theorem settle3_nt : ∀ (h f : FM), HK h → NT (rSettle 3 h f).2
  | [], f, _ => trivial
  | p :: h, f, z => by
    unfold rSettle
    by_cases c : f_X3_strengthOf p.1 < 3
    · rw [if_pos c]
      exact fun e => ((hk_neg p z.1).1.mpr e) c
    · rw [if_neg c]
      exact settle3_nt h _ z.2
theorem settle_nt (hs : s ≤ 3) : ∀ (h f : FM), HK h → NT (rSettle s h f).2
  | [], f, _ => trivial
  | p :: h, f, z => by
    unfold rSettle
    by_cases c : f_X3_strengthOf p.1 < s
    · rw [if_pos c]
      intro e
      have d := (hk_neg p z.1).1.mpr e
      apply d
      rw [Int32.lt_iff_toInt_lt] at c ⊢
      rw [Int32.le_iff_toInt_le] at hs
      omega
    · rw [if_neg c]
      exact settle_nt hs h _ z.2
end WF
