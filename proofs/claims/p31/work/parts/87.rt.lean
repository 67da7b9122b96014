/-! own: models that rest on models: closures -/
set_option maxRecDepth 100000
/-- b is named by a, or by one that a rests on, in at most n + 1 steps -/
def pth (N : Nat → Int32) : Nat → Nat → Nat → Prop
  | 0, a, b => ib (N a) b = true
  | n + 1, a, b => ib (N a) b = true ∨ ∃ x, x < 6 ∧ ib (N a) x = true ∧ pth N n x b
def RT (N : Nat → Int32) (a b : Nat) : Prop := ∃ n, pth N n a b
def cd (U : Int32) : Nat := (ib U 0).toNat + (ib U 1).toNat + (ib U 2).toNat + (ib U 3).toNat + (ib U 4).toNat + (ib U 5).toNat
def Sub6 (U V : Int32) : Prop := ∀ k, k < 6 → ib U k = true → ib V k = true
def Closed (N : Nat → Int32) (U : Int32) : Prop := ∀ x, x < 6 → ib U x = true → Sub6 (N x) U
section RT
variable {N : Nat → Int32} {U V : Int32}
theorem RT.one {a b : Nat} (h : ib (N a) b = true) : RT N a b := ⟨0, h⟩
theorem RT.cons {a x b : Nat} (hx : x < 6) (h : ib (N a) x = true) (z : RT N x b) : RT N a b := by
  obtain ⟨n, z⟩ := z
  exact ⟨n + 1, Or.inr ⟨x, hx, h, z⟩⟩
theorem pth_trans : ∀ (n : Nat) {a x b : Nat}, x < 6 → pth N n a x → RT N x b → RT N a b
  | 0, a, x, b, hx, h, z => RT.cons hx h z
  | n + 1, a, x, b, hx, h, z => by
    rcases h with h | ⟨y, hy, h1, h2⟩
    · exact RT.cons hx h z
    · exact RT.cons hy h1 (pth_trans n hx h2 z)
theorem RT.trans {a x b : Nat} (hx : x < 6) (h : RT N a x) (z : RT N x b) : RT N a b := by
  obtain ⟨n, h⟩ := h
  exact pth_trans n hx h z
theorem closed_in (c : Closed N U) : ∀ (n : Nat) {a b : Nat}, a < 6 → b < 6 → ib U a = true → pth N n a b → ib U b = true
  | 0, a, b, ha, hb, u, h => c a ha u b hb h
  | n + 1, a, b, ha, hb, u, h => by
    rcases h with h | ⟨y, hy, h1, h2⟩
    · exact c a ha u b hb h
    · exact closed_in c n hy hb (c a ha u y hy h1) h2
theorem closed_rt (c : Closed N U) {a b : Nat} (hb : b < 6) (s : Sub6 (N a) U) (h : RT N a b) : ib U b = true := by
  obtain ⟨n, h⟩ := h
  cases n with
  | zero => exact s b hb h
  | succ n =>
    rcases h with h | ⟨y, hy, h1, h2⟩
    · exact s b hb h
    · exact closed_in c n hy hb (s y hy h1) h2
theorem cd_le (U : Int32) : cd U ≤ 6 := by
  unfold cd
  have h : ∀ b : Bool, b.toNat ≤ 1 := by decide
  have := h (ib U 0); have := h (ib U 1); have := h (ib U 2); have := h (ib U 3); have := h (ib U 4); have := h (ib U 5)
  omega
theorem tn_mono {a b : Bool} (h : a = true → b = true) : a.toNat ≤ b.toNat := by
  cases a with
  | false => exact Nat.zero_le _
  | true => rw [h rfl]; exact Nat.le_refl _
theorem cd_grow (h : Sub6 U V) (n : ¬ Sub6 V U) : cd U < cd V := by
  have m := fun k (hk : k < 6) => tn_mono (h k hk)
  have m0 := m 0 (by decide)
  have m1 := m 1 (by decide)
  have m2 := m 2 (by decide)
  have m3 := m 3 (by decide)
  have m4 := m 4 (by decide)
  have m5 := m 5 (by decide)
  unfold cd
  refine Classical.byContradiction fun le => n (fun k hk v => ?_)
  have z : ∀ b : Bool, b.toNat = 1 → b = true := by decide
  have vb : (ib V k).toNat = 1 := by rw [v]; rfl
  apply z
  have : k = 0 ∨ k = 1 ∨ k = 2 ∨ k = 3 ∨ k = 4 ∨ k = 5 := by omega
  rcases this with e | e | e | e | e | e <;> subst e <;> omega
/-- a round of a closure: it holds what was there, and what that names; it leaves a closed set as it is; after six it is closed -/
def Rnd (N : Nat → Int32) (r : Nat) (U : Int32) : Prop := Closed N U ∨ r + 1 ≤ cd U
theorem rnd_next {r : Nat} (h : Rnd N r U) (s : Sub6 U V) (st : ∀ x, x < 6 → ib U x = true → Sub6 (N x) V) (cl : Closed N U → Sub6 V U) : Rnd N (r + 1) V := by
  by_cases e : Sub6 V U
  · left
    intro x hx v y hy n
    exact st x hx (e x hx v) y hy n
  · rcases h with h | h
    · exact absurd (cl h) e
    · right
      have := cd_grow s e
      omega
theorem rnd_0 : Rnd N 0 U := by
  by_cases e : cd U = 0
  · left
    intro x hx u
    exfalso
    unfold cd at e
    have vb : (ib U x).toNat = 1 := by rw [u]; rfl
    have : x = 0 ∨ x = 1 ∨ x = 2 ∨ x = 3 ∨ x = 4 ∨ x = 5 := by omega
    rcases this with e2 | e2 | e2 | e2 | e2 | e2 <;> subst e2 <;> omega
  · right; omega
theorem rnd_6 (h : Rnd N 6 U) : Closed N U := by
  rcases h with h | h
  · exact h
  · have := cd_le U; omega
end RT
section CU
variable {X : Nat × (Nat × (Nat → Int32))} {I : Nat → Nat → Int32} {L : Nat → Nat → Int64} {F : Nat → Nat → UInt32} {Q : AQ}
/-- what a model's latest version names, in the class -/
def NB (I : Nat → Nat → Int32) (k : Nat) : Int32 := f_X6_namedBy (nI k) I
theorem sp_und17 {m r : Nat} {U0 : Int32} (hs : ∀ y, y < 6 → ib U0 y = true → RT (NB I) m y)
    (next : ∀ U, Sub6 U0 U → (∀ x, x < 6 → ib U0 x = true → Sub6 (NB I x) U) → (Closed (NB I) U0 → Sub6 U U0) → (∀ y, y < 6 → ib U y = true → RT (NB I) m y) → ∀ d4, WP mX6_modelsUnder 8 [some (.ref 9), some (.int (nI m)), some (.int U), some (.int (nI r + 1)), d4] [] (G X I L F) 0 0 Q) :
    ∀ (n j : Nat) (U : Int32), j + n = 6 → Sub6 U0 U → (∀ x, x < j → ib U0 x = true → Sub6 (NB I x) U) → (Closed (NB I) U0 → Sub6 U U0) → (∀ y, y < 6 → ib U y = true → RT (NB I) m y) →
      WP mX6_modelsUnder 17 [some (.ref 9), some (.int (nI m)), some (.int U), some (.int (nI r)), some (.int (nI j))] [] (G X I L F) 0 0 Q
  | 0, j, U, hj, h1, h2, h3, h4 => by
    have e : j = 6 := by omega
    subst e
    exact k_X6_modelsUnder_17 ⟨fun _ => next U h1 h2 h3 h4 _, fun n => absurd (by decide) n⟩
  | n + 1, j, U, hj, h1, h2, h3, h4 => by
    refine k_X6_modelsUnder_17 ⟨fun z => absurd ((nI_leI (a := 6) (by decide) (by omega)).mp z) (by omega), fun _ s31 e31 => ?_⟩
    rw [i_test (show j < 32 by omega)] at e31
    have v31 : s31 = if ib U j = true then NB I j else 0 := by
      rw [e31]
      by_cases c : ib U j = true
      · rw [if_pos c, if_pos c, if_neg (by decide)]; rfl
      · rw [if_neg c, if_neg c, if_pos rfl]
    have up : ∀ k, ib U k = true → ib (U ||| s31) k = true := fun k h => by rw [ib_or, h]; rfl
    have dn : ∀ k, ib (U ||| s31) k = true → ib U k = true ∨ (ib U j = true ∧ ib (NB I j) k = true) := fun k h => by
      rw [ib_or] at h
      rcases Bool.or_eq_true_iff.mp h with h | h
      · exact Or.inl h
      · rw [v31] at h
        by_cases c : ib U j = true
        · rw [if_pos c] at h; exact Or.inr ⟨c, h⟩
        · rw [if_neg c, ib_0] at h; cases h
    rw [nI_1]
    refine sp_und17 hs next n (j + 1) _ (by omega) (fun k hk h => up k (h1 k hk h)) (fun x hx h => ?_) (fun cl k hk h => ?_) (fun y hy h => ?_)
    · by_cases xj : x = j
      · subst xj
        intro k hk nk
        have uj := h1 x (by omega) h
        rw [ib_or, v31, if_pos uj, nk, Bool.or_true]
      · intro k hk nk
        exact up k (h2 x (by omega) h k hk nk)
    · rcases dn k h with h | ⟨a, b⟩
      · exact h3 cl k hk h
      · exact cl j (by omega) (h3 cl j (by omega) a) k hk b
    · rcases dn y h with h | ⟨a, b⟩
      · exact h4 y hy h
      · exact (h4 j (by omega) a).trans (show j < 6 by omega) (RT.one b)
theorem sp_und8 {m : Nat} (q : ∀ U, (∀ y, y < 6 → (ib U y = true ↔ RT (NB I) m y)) → Q (.inl (some (.int U))) (G X I L F)) : ∀ (n r : Nat) (U : Int32) (d4 : Option Value), r + n = 6 → Rnd (NB I) r U → Sub6 (NB I m) U → (∀ y, y < 6 → ib U y = true → RT (NB I) m y) →
    WP mX6_modelsUnder 8 [some (.ref 9), some (.int (nI m)), some (.int U), some (.int (nI r)), d4] [] (G X I L F) 0 0 Q
  | 0, r, U, d4, hr, h1, h2, h3 => by
    have e : r = 6 := by omega
    subst e
    exact k_X6_modelsUnder_8 ⟨fun _ => q U (fun y hy => ⟨h3 y hy, closed_rt (rnd_6 h1) hy h2⟩), fun n => absurd (by decide) n⟩
  | n + 1, r, U, d4, hr, h1, h2, h3 => by
    refine k_X6_modelsUnder_8 ⟨fun z => absurd ((nI_leI (a := 6) (by decide) (by omega)).mp z) (by omega), fun _ => ?_⟩
    refine sp_und17 (U0 := U) (r := r) h3 (fun V s1 s2 s3 s4 d4 => ?_) 6 0 U rfl (fun _ _ h => h) (fun x hx => by omega) (fun _ _ _ h => h) h3
    rw [nI_1]
    exact sp_und8 q n (r + 1) V d4 (by omega) (rnd_next h1 s1 s2 s3) (fun k hk h => s1 k hk (h2 k hk h)) s4
/-- the models under a model, in the class -/
theorem sp_under {m : Nat} (q : ∀ U, (∀ y, y < 6 → (ib U y = true ↔ RT (NB I) m y)) → Q (.inl (some (.int U))) (G X I L F)) : WP mX6_modelsUnder 0 (am_ent 5 [.ref 9, .int (nI m)]) [] (G X I L F) 0 0 Q :=
  k_X6_modelsUnder_0 (sp_und8 q 6 0 _ _ rfl rnd_0 (fun _ _ h => h) (fun _ _ h => RT.one h))
/-- a set of models by its members -/
def mB (f : Nat → Bool) : Nat → Int32
  | 0 => 0
  | j + 1 => mB f j ||| (if f j then (1 : Int32) <<< (nI j &&& 31) else 0)
theorem ib_mB {f : Nat → Bool} : ∀ (j : Nat), j ≤ 6 → ∀ k, ib (mB f j) k = (decide (k < j) && f k)
  | 0, _, k => by show ib 0 k = _; rw [ib_0, decide_eq_false (by omega)]; rfl
  | j + 1, hj, k => by
    show ib (mB f j ||| _) k = _
    rw [ib_or, ib_mB j (by omega) k]
    have e : ib (if f j then (1 : Int32) <<< (nI j &&& 31) else 0) k = (f j && decide (k = j)) := by
      cases f j
      · exact ib_0 k
      · exact i_oneN (by omega)
    rw [e]
    by_cases kj : k = j
    · subst kj
      rw [decide_eq_false (by omega), decide_eq_true rfl, decide_eq_true (by omega)]
      simp
    · rw [decide_eq_false kj, Bool.and_false, Bool.or_false]
      by_cases lt : k < j
      · rw [decide_eq_true lt, decide_eq_true (by omega)]
      · rw [decide_eq_false lt, decide_eq_false (by omega)]
theorem sp_on4 {m : Nat} (hm : m < 6) {f : Nat → Bool} (hf : ∀ k, k < 6 → (f k = true ↔ RT (NB I) k m)) (q : Q (.inl (some (.int (mB f 6)))) (G X I L F)) : ∀ (n j : Nat), j + n = 6 →
    WP mX6_modelsOn 4 [some (.ref 9), some (.int (nI m)), some (.int (mB f j)), some (.int (nI j))] [] (G X I L F) 0 0 Q
  | 0, j, hj => by
    have e : j = 6 := by omega
    subst e
    exact k_X6_modelsOn_4 ⟨fun _ => q, fun n => absurd (by decide) n⟩
  | n + 1, j, hj => by
    refine k_X6_modelsOn_4 ⟨fun z => absurd ((nI_leI (a := 6) (by decide) (by omega)).mp z) (by omega), fun _ => sp_under (fun U hU => k_X6_modelsOn_16 ?_)⟩
    rw [i_test (show m < 32 by omega), nI_1]
    have e : ((if ib U m = true then (1 : Int32) else 0) <<< (nI j &&& 31)) = (if f j then (1 : Int32) <<< (nI j &&& 31) else 0) := by
      have z0 : ∀ j, j < 6 → (0 : Int32) <<< (nI j &&& 31) = 0 := by decide
      by_cases c : f j = true
      · rw [if_pos ((hU m hm).mpr ((hf j (by omega)).mp c)), if_pos c]
      · rw [if_neg (fun n => c ((hf j (by omega)).mpr ((hU m hm).mp n))), if_neg c, z0 j (by omega)]
    rw [e]
    exact sp_on4 hm hf q n (j + 1) (by omega)
/-- the models that rest on a model, in the class -/
theorem sp_modelsOn {m : Nat} (hm : m < 6) {f : Nat → Bool} (hf : ∀ k, k < 6 → (f k = true ↔ RT (NB I) k m)) (q : Q (.inl (some (.int (mB f 6)))) (G X I L F)) : WP mX6_modelsOn 0 (am_ent 4 [.ref 9, .int (nI m)]) [] (G X I L F) 0 0 Q :=
  k_X6_modelsOn_0 (sp_on4 hm hf q 6 0 rfl)
end CU
