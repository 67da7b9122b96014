/-! own: binding anew, without any heap -/
set_option maxRecDepth 100000
/-- versions: how many, their texts, their pins, the latest ones, their models -/
abbrev AS := Nat × (Nat → List Int32) × (Nat → Nat → Int32) × (Nat → Int32) × (Nat → Int32)
def aC (s : AS) : Nat := s.1
def aT (s : AS) : Nat → List Int32 := s.2.1
def aP (s : AS) : Nat → Nat → Int32 := s.2.2.1
def aL (s : AS) : Nat → Int32 := s.2.2.2.1
def aM (s : AS) : Nat → Int32 := s.2.2.2.2
def entA (m : Nat) (t : List Int32) (s : AS) : AS :=
  (aC s + 1, (fun v => if v = aC s then t else aT s v), (fun v k => if v = aC s then (if ib (msk 0 t) k = true then aL s k else -1) else aP s v k), (fun k => if k = m then nI (aC s) else aL s k), (fun v => if v = aC s then nI m else aM s v))
def aN (s : AS) (k : Nat) : Int32 := if aL s k = -1 then 0 else msk 0 (aT s (aL s k).toNatClampNeg)
def aO (s : AS) (k : Nat) : List Int32 := aT s (aL s k).toNatClampNeg
def stA (s : AS) (k : Nat) : Prop := ∃ v, v < aC s ∧ aL s k = nI v ∧ ∃ j, j < 6 ∧ aP s v j ≠ -1 ∧ aP s v j ≠ aL s j
def Cand (s : AS) (k : Nat) : Prop := stA s k ∧ ∀ j, j < 6 → stA s j → ¬ RT (aN s) k j
def NxA (s : AS) (k : Nat) : Prop := Cand s k ∧ ∀ i, i < k → ¬ Cand s i
def WA (s : AS) : Prop := aC s ≤ 60 ∧ (∀ v, v < aC s → Txt 0 (aT s v) ∧ (∀ k, k < 6 → (aP s v k = -1 ∨ ∃ u, u < v ∧ aP s v k = nI u) ∧ (aP s v k ≠ -1 ↔ ib (msk 0 (aT s v)) k = true)) ∧ ∃ m, m < 6 ∧ aM s v = nI m) ∧ (∀ k, k < 6 → aL s k = -1 ∨ ∃ v, v < aC s ∧ aL s k = nI v ∧ aM s v = nI k)
def LN (s : AS) : Prop := ∀ k, k < 6 → ∀ j, j < 6 → ib (aN s k) j = true → aL s j ≠ -1
def Acy (N : Nat → Int32) : Prop := ∀ k, k < 6 → ¬ RT N k k
def Frsh (s : AS) : Prop := ∀ k, k < 6 → ¬ stA s k
/-- some versions are bound anew, one after the other, until none is stale -/
def BindR : Nat → AS → AS → Prop
  | 0, s, z => (WA s ∧ Acy (aN s)) ∧ (∀ k, k < 6 → ¬ Cand s k) ∧ z = s
  | n + 1, s, z => (WA s ∧ Acy (aN s)) ∧ ∃ k, k < 6 ∧ NxA s k ∧ BindR n (entA k (aO s k) s) z
section BI
variable {s z : AS} {m k c : Nat} {t : List Int32} {f g : Nat → Bool} {N : Nat → Int32}
theorem cntB_mono : ∀ n, (∀ k, k < n → f k = true → g k = true) → cntB f n ≤ cntB g n
  | 0, _ => Nat.le_refl 0
  | n + 1, h => by
    have a := cntB_mono n (fun k hk => h k (by omega))
    have b := tn_mono (h n (by omega))
    show cntB f n + (f n).toNat ≤ cntB g n + (g n).toNat
    omega
theorem cntB_lt {j : Nat} (hg : g j = true) (hf : f j = false) : ∀ n, j < n → (∀ k, k < n → f k = true → g k = true) → cntB f n + 1 ≤ cntB g n
  | 0, h, _ => absurd h (by omega)
  | n + 1, h, a => by
    show cntB f n + (f n).toNat + 1 ≤ cntB g n + (g n).toNat
    by_cases e : j = n
    · subst e
      have b := cntB_mono (f := f) (g := g) j (fun k hk => a k (by omega))
      rw [hg, hf]
      show cntB f j + 0 + 1 ≤ cntB g j + 1
      omega
    · have b := cntB_lt hg hf n (by omega) (fun k hk => a k (by omega))
      have d := tn_mono (a n (by omega))
      omega
theorem low_ex {p : Nat → Prop} : ∀ n k, k < n → p k → ∃ k, k < n ∧ p k ∧ ∀ i, i < k → ¬ p i
  | 0, k, h, _ => absurd h (by omega)
  | n + 1, k, h, hp => by
    by_cases e : ∃ i, i < n ∧ p i
    · obtain ⟨i, hi, pi⟩ := e
      obtain ⟨a, b, d⟩ := low_ex n i hi pi
      exact ⟨a, by omega, d⟩
    · have kn : k = n := by
        by_cases l : k < n
        · exact absurd ⟨k, l, hp⟩ e
        · omega
      subst kn
      exact ⟨k, by omega, hp, fun i hi pi => e ⟨i, hi, pi⟩⟩
theorem cand_ex (ac : Acy (aN s)) : ∀ n k, k < 6 → stA s k → (∀ g : Nat → Bool, (∀ j, j < 6 → (g j = true ↔ RT (aN s) k j)) → cntB g 6 ≤ n) → ∃ j, j < 6 ∧ Cand s j
  | 0, k, hk, st, b => by
    refine ⟨k, hk, st, fun j hj _ rt => ?_⟩
    have h := b (fun j => @decide (RT (aN s) k j) (Classical.propDecidable _)) (fun j _ => @decide_eq_true_iff _ (Classical.propDecidable _))
    have h2 := cntB_lt (f := fun _ => false) (g := fun j => @decide (RT (aN s) k j) (Classical.propDecidable _)) (j := j) ((@decide_eq_true_iff _ (Classical.propDecidable _)).mpr rt) rfl 6 hj (fun _ _ h => by cases h)
    omega
  | n + 1, k, hk, st, b => by
    by_cases e : ∃ j, j < 6 ∧ stA s j ∧ RT (aN s) k j
    · obtain ⟨j, hj, sj, rt⟩ := e
      refine cand_ex ac n j hj sj (fun g hg => ?_)
      have h := b (fun j => @decide (RT (aN s) k j) (Classical.propDecidable _)) (fun j _ => @decide_eq_true_iff _ (Classical.propDecidable _))
      have h2 := cntB_lt (f := g) (g := fun j => @decide (RT (aN s) k j) (Classical.propDecidable _)) (j := j) ((@decide_eq_true_iff _ (Classical.propDecidable _)).mpr rt) (Bool.eq_false_iff.mpr (fun h => ac j hj ((hg j hj).mp h))) 6 hj (fun i hi h => (@decide_eq_true_iff _ (Classical.propDecidable _)).mpr (rt.trans hj ((hg i hi).mp h)))
      omega
    · exact ⟨k, hk, st, fun j hj sj rt => e ⟨j, hj, sj, rt⟩⟩
theorem no_cand (ac : Acy (aN s)) (h : ∀ k, k < 6 → ¬ Cand s k) : Frsh s := fun k hk st => by
  obtain ⟨j, hj, cj⟩ := cand_ex ac 6 k hk st (fun g _ => cntB_le g 6)
  exact h j hj cj
theorem entA_L (hm : m < 6) (h : k ≠ m) : aL (entA m t s) k = aL s k := if_neg h
theorem entA_Lm : aL (entA m t s) m = nI (aC s) := if_pos rfl
theorem entA_T {v : Nat} (h : v ≠ aC s) : aT (entA m t s) v = aT s v := if_neg h
theorem entA_Tc : aT (entA m t s) (aC s) = t := if_pos rfl
theorem entA_P {v : Nat} (h : v ≠ aC s) : aP (entA m t s) v k = aP s v k := if_neg h
theorem entA_Pc : aP (entA m t s) (aC s) k = if ib (msk 0 t) k = true then aL s k else -1 := if_pos rfl
theorem entA_M {v : Nat} (h : v ≠ aC s) : aM (entA m t s) v = aM s v := if_neg h
theorem entA_Mc : aM (entA m t s) (aC s) = nI m := if_pos rfl
theorem entA_C : aC (entA m t s) = aC s + 1 := rfl
theorem lat_lt (w : WA s) (hk : k < 6) (h : aL s k ≠ -1) : ∃ v, v < aC s ∧ aL s k = nI v ∧ (aL s k).toNatClampNeg = v := by
  rcases w.2.2 k hk with e | ⟨v, hv, e, _⟩
  · exact absurd e h
  · have := w.1
    exact ⟨v, hv, e, by rw [e, nI_clamp (by omega)]⟩
theorem entA_WA (w : WA s) (hm : m < 6) (hc : aC s < 60) (tx : Txt 0 t) (hn : ∀ j, j < 6 → ib (msk 0 t) j = true → aL s j ≠ -1) : WA (entA m t s) := by
  refine ⟨by rw [entA_C]; omega, fun v hv => ?_, fun k hk => ?_⟩
  · rw [entA_C] at hv
    by_cases e : v = aC s
    · subst e
      rw [entA_Tc, entA_Mc]
      refine ⟨tx, fun k hk => ?_, m, hm, rfl⟩
      rw [entA_Pc]
      by_cases u : ib (msk 0 t) k = true
      · rw [if_pos u]
        obtain ⟨v, hv, e, _⟩ := lat_lt w hk (hn k hk u)
        exact ⟨Or.inr ⟨v, hv, e⟩, fun _ => u, fun _ => hn k hk u⟩
      · rw [if_neg u]
        exact ⟨Or.inl rfl, fun n => absurd rfl n, fun n => absurd n u⟩
    · rw [entA_T e, entA_M e]
      have z := w.2.1 v (by omega)
      refine ⟨z.1, fun k hk => ?_, z.2.2⟩
      rw [entA_P e]
      exact z.2.1 k hk
  · by_cases e : k = m
    · subst e
      exact Or.inr ⟨aC s, by rw [entA_C]; omega, entA_Lm, entA_Mc⟩
    · rw [entA_L hm e]
      rcases w.2.2 k hk with h | ⟨v, hv, h1, h2⟩
      · exact Or.inl h
      · exact Or.inr ⟨v, by rw [entA_C]; omega, h1, by rw [entA_M (by omega)]; exact h2⟩
theorem nI_ne {a b : Nat} (ha : a < 2147483648) (hb : b < 2147483648) (h : a ≠ b) : nI a ≠ nI b := fun e => h ((nI_eq ha hb).mp e)
theorem entA_N (w : WA s) (hm : m < 6) (hk : k < 6) (h : k ≠ m) : aN (entA m t s) k = aN s k := by
  unfold aN
  rw [entA_L hm h]
  by_cases e : aL s k = -1
  · rw [if_pos e, if_pos e]
  · obtain ⟨v, hv, e1, e2⟩ := lat_lt w hk e
    rw [if_neg e, if_neg e, e2, entA_T (by omega)]
theorem entA_Nm (hc : aC s < 60) : aN (entA m t s) m = msk 0 t := by
  unfold aN
  rw [entA_Lm, if_neg (nI_m1 (by omega)), nI_clamp (by omega), entA_Tc]
theorem stA_v (hc : aC s ≤ 60) {v : Nat} (hv : v < aC s) (e : aL s k = nI v) : stA s k ↔ ∃ j, j < 6 ∧ aP s v j ≠ -1 ∧ aP s v j ≠ aL s j := by
  constructor
  · intro ⟨u, hu, eu, h⟩
    have : u = v := (nI_eq (by omega) (by omega)).mp (eu.symm.trans e)
    subst this
    exact h
  · intro h; exact ⟨v, hv, e, h⟩
/-- behind an entry: the new version is fresh, others are stale as before or by naming it -/
theorem entA_st (w : WA s) (hm : m < 6) (hc : aC s < 60) (hn : ib (msk 0 t) m = false) : ¬ stA (entA m t s) m ∧ ∀ k, k < 6 → k ≠ m → stA (entA m t s) k → stA s k ∨ ib (aN s k) m = true := by
  constructor
  · intro h
    obtain ⟨j, hj, h1, h2⟩ := (stA_v (by rw [entA_C]; omega) (show aC s < aC (entA m t s) by rw [entA_C]; omega) entA_Lm).mp h
    rw [entA_Pc] at h1 h2
    by_cases u : ib (msk 0 t) j = true
    · rw [if_pos u] at h2
      by_cases jm : j = m
      · rw [jm, hn] at u; cases u
      · exact h2 (entA_L hm jm).symm
    · rw [if_neg u] at h1; exact h1 rfl
  · intro k hk km h
    have z : aL s k ≠ -1 := fun e => by
      obtain ⟨v, hv, ev, _⟩ := h
      rw [entA_L hm km, e] at ev
      rw [entA_C] at hv
      exact nI_m1 (by omega) ev.symm
    obtain ⟨v, hv, e1, e2⟩ := lat_lt w hk z
    obtain ⟨j, hj, h1, h2⟩ := (stA_v (by rw [entA_C]; omega) (show v < aC (entA m t s) by rw [entA_C]; omega) ((entA_L hm km).trans e1)).mp h
    rw [entA_P (by omega)] at h1 h2
    by_cases jm : j = m
    · right
      subst jm
      unfold aN
      rw [if_neg z, e2]
      exact (((w.2.1 v hv).2.1 j hj).2).mp h1
    · left
      rw [entA_L hm jm] at h2
      exact (stA_v (by omega) hv e1).mpr ⟨j, hj, h1, h2⟩
end BI
