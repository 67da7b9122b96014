/-! own: a version is shelved, in the class -/
set_option maxRecDepth 100000
/-- a formula copied -/
def CpF (o p : Nat) (I J : Nat → Nat → Int32) : Prop := (∀ k, k < 40 → J (o + 1) k = I (p + 1) k ∧ J (o + 2) k = I (p + 2) k) ∧ (J o 2 = I p 2 ∧ J o 3 = I p 3 ∧ J o 4 = I p 4) ∧ ∀ a k, ¬ (o ≤ a ∧ a ≤ o + 2) → J a k = I a k
section SV
variable {X : Nat × (Nat × (Nat → Int32))} {I J K : Nat → Nat → Int32} {L M : Nat → Nat → Int64} {F : Nat → Nat → UInt32} {Q : AQ} {c m k : Nat} {s zf : AS} {t : List Int32} {o p : Nat}
theorem stk_copy {a b a2 b2 : Nat} : ∀ {l : FM}, (∀ k, k < l.length → J a2 k = I a k ∧ J b2 k = I b k) → StkP I a b l → StkP J a2 b2 l
  | [], _, _ => trivial
  | x :: l, h, z => by
    have e := h l.length (by simp only [List.length_cons]; omega)
    exact ⟨e.1.trans z.1, e.2.trans z.2.1, stk_copy (fun k hk => h k (by simp only [List.length_cons]; omega)) z.2.2⟩
theorem CpF.fc (h : CpF o p I J) (tx : Txt 0 t) (z : FC I p (rForm 0 t)) : FC J o (rForm 0 t) :=
  ⟨h.2.1.1.trans z.1, stk_copy (fun k hk => h.1 k (by have := tx.len; omega)) z.2.1, h.2.1.2.1.trans z.2.2.1, h.2.1.2.2.trans z.2.2.2⟩
theorem sp_cp2 (ho : isFor o) (hp : isFor p) (hd : p + 2 < o ∨ o + 2 < p) (q : ∀ J, CpF o p I J → Q (.inl none) (G X J L F)) : ∀ (n i : Nat) (J : Nat → Nat → Int32), i + n = 40 → (∀ k, k < i → J (o + 1) k = I (p + 1) k ∧ J (o + 2) k = I (p + 2) k) → (∀ a k, ¬ (o + 1 ≤ a ∧ a ≤ o + 2) → J a k = I a k) →
    WP mX2_copy 2 [some (.ref o), some (.ref p), some (.int (nI i))] [] (G X J L F) 0 0 Q
  | 0, i, J, hi, h, fr => by
    have e : i = 40 := by omega
    subst e
    refine k_X2_copy_2 ho hp ⟨fun _ => q _ ⟨fun k hk => ?_, ⟨?_, ?_, ?_⟩, fun a k n => ?_⟩, fun n => absurd (by decide) n⟩
    · rw [am_u_ne (Or.inl (by omega)), am_u_ne (Or.inl (by omega)), am_u_ne (Or.inl (by omega)), am_u_ne (Or.inl (by omega)), am_u_ne (Or.inl (by omega)), am_u_ne (Or.inl (by omega))]
      exact h k hk
    · rw [am_u_ne (Or.inr (by decide)), am_u_ne (Or.inr (by decide)), am_u_eq]
      exact fr p 2 (by omega)
    · rw [am_u_ne (Or.inr (by decide)), am_u_eq, am_u_ne (Or.inl (by omega))]
      exact fr p 3 (by omega)
    · rw [am_u_eq, am_u_ne (Or.inl (by omega)), am_u_ne (Or.inl (by omega))]
      exact fr p 4 (by omega)
    · rw [am_u_ne (Or.inl (by omega)), am_u_ne (Or.inl (by omega)), am_u_ne (Or.inl (by omega))]
      exact fr a k (by omega)
  | n + 1, i, J, hi, h, fr => by
    have hin : vp_in (nI i) 40 := nI_in (by omega) (by decide)
    refine k_X2_copy_2 ho hp ⟨fun z => absurd ((nI_leI (a := 40) (by decide) (by omega)).mp z) (by omega), fun _ => ⟨hin, hin, hin, hin, ?_⟩⟩
    rw [nI_clamp (show i < 2 ^ 31 by omega), nI_1]
    refine sp_cp2 ho hp hd q n (i + 1) _ (by omega) (fun k hk => ?_) (fun a k n => ?_)
    · by_cases e : k = i
      · rw [e, am_u_eq, am_u_ne (Or.inl (by omega)), am_u_eq, am_u_ne (Or.inl (by omega))]
        exact ⟨fr (p + 1) i (by omega), fr (p + 2) i (by omega)⟩
      · rw [am_u_ne (Or.inr e), am_u_ne (Or.inr e), am_u_ne (Or.inr e), am_u_ne (Or.inr e)]
        exact h k (by omega)
    · rw [am_u_ne (Or.inl (by omega)), am_u_ne (Or.inl (by omega))]
      exact fr a k n
/-- a formula is copied -/
theorem sp_copy (ho : isFor o) (hp : isFor p) (hd : p + 2 < o ∨ o + 2 < p) (q : ∀ J, CpF o p I J → Q (.inl none) (G X J L F)) : WP mX2_copy 0 (am_ent 3 [.ref o, .ref p]) [] (G X I L F) 0 0 Q :=
  k_X2_copy_0 ho hp (sp_cp2 ho hp hd q 40 0 I rfl (fun k hk => absurd hk (by omega)) (fun _ _ _ => rfl))
/-- versions, in the class -/
def CAv (I : Nat → Nat → Int32) (L : Nat → Nat → Int64) (s : AS) : Prop := ∀ v, v < aC s → FC I (19 + 6 * v + 1) (rForm 0 (aT s v)) ∧ (∀ k, k < 6 → I (19 + 6 * v + 4) k = aP s v k) ∧ I (19 + 6 * v) 3 = aM s v ∧
  (∀ g, ib (I (19 + 6 * v) 4) g = true ↔ (ib (msk 1 (aT s v)) g = true ∨ ∃ k u, k < 6 ∧ u < v ∧ aP s v k = nI u ∧ ib (I (19 + 6 * u) 4) g = true)) ∧
  (∀ x, lb (L (19 + 6 * v) 5) x = true ↔ (x = v ∨ ∃ k u, k < 6 ∧ u < v ∧ aP s v k = nI u ∧ lb (L (19 + 6 * u) 5) x = true))
def CA (I : Nat → Nat → Int32) (L : Nat → Nat → Int64) (s : AS) : Prop := I 9 4 = nI (aC s) ∧ CAv I L s ∧ ∀ k, k < 6 → I 14 k = aL s k
/-- what shelving may change -/
def ShF (c : Nat) (I J : Nat → Nat → Int32) : Prop := (∀ o k, ¬ (19 + 6 * c ≤ o ∧ o < 379) → o ≠ 14 → ¬ (o = 9 ∧ k = 4) → J o k = I o k) ∧ ∀ v, J (19 + 6 * v) 6 = I (19 + 6 * v) 6
def LhF (c : Nat) (L M : Nat → Nat → Int64) : Prop := ∀ o k, ¬ (19 + 6 * c ≤ o ∧ o < 379) → M o k = L o k
theorem ShF.trans {c2 : Nat} (h : ShF c I J) (g : ShF c2 J K) (l : c ≤ c2) : ShF c I K :=
  ⟨fun o k a b d => (g.1 o k (by omega) b d).trans (h.1 o k a b d), fun v => (g.2 v).trans (h.2 v)⟩
theorem LhF.trans {c2 : Nat} {N : Nat → Nat → Int64} (h : LhF c L M) (g : LhF c2 M N) (l : c ≤ c2) : LhF c L N := fun o k a => (g o k (by omega)).trans (h o k a)
theorem ShF.cav (h : ShF c I J) (g : LhF c L M) (w : WA s) (l : aC s ≤ c) (c60 : c < 60) (z : CAv I L s) : CAv J M s := fun v hv => by
  obtain ⟨a, b, d, e, f⟩ := z v hv
  have len := ((w.2.1 v hv).1).len
  have fr : ∀ o k, o < 19 + 6 * c → o ≠ 14 → o ≠ 9 → J o k = I o k := fun o k h1 h2 h3 => h.1 o k (by omega) h2 (fun n => h3 n.1)
  have fl : ∀ o k, o < 19 + 6 * c → M o k = L o k := fun o k h1 => g o k (by omega)
  refine ⟨⟨?_, stk_copy (fun k _ => ⟨fr _ k (by omega) (by omega) (by omega), fr _ k (by omega) (by omega) (by omega)⟩) a.2.1, ?_, ?_⟩, fun k hk => ?_, ?_, fun x => ?_, fun x => ?_⟩
  · rw [fr _ _ (by omega) (by omega) (by omega)]; exact a.1
  · rw [fr _ _ (by omega) (by omega) (by omega)]; exact a.2.2.1
  · rw [fr _ _ (by omega) (by omega) (by omega)]; exact a.2.2.2
  · rw [fr _ _ (by omega) (by omega) (by omega)]; exact b k hk
  · rw [fr _ _ (by omega) (by omega) (by omega)]; exact d
  · rw [fr _ _ (by omega) (by omega) (by omega), e x]
    refine or_congr Iff.rfl ⟨fun ⟨k, u, h1, h2, h3, h4⟩ => ⟨k, u, h1, h2, h3, by rw [fr _ _ (by omega) (by omega) (by omega)]; exact h4⟩, fun ⟨k, u, h1, h2, h3, h4⟩ => ⟨k, u, h1, h2, h3, by rw [fr _ _ (by omega) (by omega) (by omega)] at h4; exact h4⟩⟩
  · rw [fl _ _ (by omega), f x]
    refine or_congr Iff.rfl ⟨fun ⟨k, u, h1, h2, h3, h4⟩ => ⟨k, u, h1, h2, h3, by rw [fl _ _ (by omega)]; exact h4⟩, fun ⟨k, u, h1, h2, h3, h4⟩ => ⟨k, u, h1, h2, h3, by rw [fl _ _ (by omega)] at h4; exact h4⟩⟩
end SV
