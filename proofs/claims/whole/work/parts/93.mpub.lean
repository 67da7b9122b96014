/-! own: a version enters, and the stale ones, in the model -/
set_option maxRecDepth 100000
def MAv (I : Nat → Nat → Int32) (s : AS) : Prop := ∀ v, v < aC s → vT (I 502) (I 503) v = aT s v ∧ I 502 v = nI (aT s v).length ∧ (∀ k, k < 6 → I 504 (6 * v + k) = aP s v k) ∧ I 501 v = aM s v
def MA (I : Nat → Nat → Int32) (s : AS) : Prop := I 498 5 = nI (aC s) ∧ MAv I s ∧ ∀ k, k < 6 → I 505 k = aL s k
/-- what a publishing may change -/
def PubF (c : Nat) (I J : Nat → Nat → Int32) : Prop := ∀ o k, ¬ (o = 501 ∧ c ≤ k) → ¬ (o = 502 ∧ c ≤ k) → ¬ (o = 503 ∧ 40 * c ≤ k) → ¬ (o = 504 ∧ 6 * c ≤ k) → ¬ (o = 510 ∧ c ≤ k) → o ≠ 505 → o ≠ 506 → ¬ (o = 498 ∧ k = 5) → J o k = I o k
section MP
variable {X : Nat × (Nat → Int32)} {I J K : Nat → Nat → Int32} {L : Nat → Nat → Int64} {F : Nat → Nat → UInt32} {Q : AQ} {c m : Nat} {s : AS} {t : List Int32}
theorem PubF.refl : PubF c I I := fun _ _ _ _ _ _ _ _ _ _ => rfl
theorem PubF.trans {c2 : Nat} (h : PubF c I J) (h2 : PubF c2 J K) (l : c ≤ c2) : PubF c I K := fun o k a b d e f g i j =>
  (h2 o k (fun n => a ⟨n.1, by omega⟩) (fun n => b ⟨n.1, by omega⟩) (fun n => d ⟨n.1, by omega⟩) (fun n => e ⟨n.1, by omega⟩) (fun n => f ⟨n.1, by omega⟩) g i j).trans (h o k a b d e f g i j)
theorem PubF.fr6 (h : Fr1 506 I J) : PubF c I J := fun o k _ _ _ _ _ _ n _ => h o k n
theorem PubF.wr {o k : Nat} {z : Int32} (h : PubF c I J) (w : (o = 501 ∧ c ≤ k) ∨ (o = 502 ∧ c ≤ k) ∨ (o = 503 ∧ 40 * c ≤ k) ∨ (o = 504 ∧ 6 * c ≤ k) ∨ (o = 510 ∧ c ≤ k) ∨ o = 505 ∨ o = 506 ∨ (o = 498 ∧ k = 5)) : PubF c I (am_u J o k z) := fun o2 k2 a b d e f g i j => by
  by_cases x : o2 = o ∧ k2 = k
  · obtain ⟨x1, x2⟩ := x
    rw [x1, x2] at a b d e f j
    rw [x1] at g i
    rcases w with w | w | w | w | w | w | w | w
    · exact absurd w a
    · exact absurd w b
    · exact absurd w d
    · exact absurd w e
    · exact absurd w f
    · exact absurd w g
    · exact absurd w i
    · exact absurd w j
  · rw [am_u_ne (by by_cases y : o2 = o; exact Or.inr (fun n => x ⟨y, n⟩); exact Or.inl y)]
    exact h o2 k2 a b d e f g i j
theorem PubF.mrv (h : PubF c I J) (w : WA s) (l : aC s ≤ c) (z : MAv I s) : MAv J s := fun v hv => by
  obtain ⟨a, b, d, e⟩ := z v hv
  have len := (w.2.1 v hv).1.1
  have e2 : J 502 v = I 502 v := h 502 v (by omega) (by omega) (by omega) (by omega) (by omega) (by omega) (by omega) (by omega)
  refine ⟨?_, e2.trans b, fun k hk => ?_, ?_⟩
  · rw [← a]
    unfold vT
    rw [e2, b, nI_clamp (by omega)]
    exact seg_cong _ _ _ (fun k hk => h 503 (40 * v + k) (by omega) (by omega) (by omega) (by omega) (by omega) (by omega) (by omega) (by omega))
  · rw [← d k hk]
    exact h 504 (6 * v + k) (by omega) (by omega) (by omega) (by omega) (by omega) (by omega) (by omega) (by omega)
  · rw [← e]
    exact h 501 v (by omega) (by omega) (by omega) (by omega) (by omega) (by omega) (by omega) (by omega)
theorem MA.fr6 (h : Fr1 506 I J) (w : WA s) (z : MA I s) : MA J s :=
  ⟨(h 498 5 (by decide)).trans z.1, PubF.mrv (c := aC s) (PubF.fr6 h) w (Nat.le_refl _) z.2.1, fun k hk => (h 505 k (by decide)).trans (z.2.2 k hk)⟩
theorem MA.vm (z : MA I s) (w : WA s) : VM I (aC s) := fun v hv => by
  obtain ⟨a, b, d, e⟩ := z.2.1 v hv
  obtain ⟨tx, ps, _⟩ := w.2.1 v hv
  rw [← a] at tx b
  refine ⟨tx, b, fun k hk => by rw [d k hk]; exact (ps k hk).1, fun j hj h => ?_⟩
  rw [d j hj]
  refine (ps j hj).2.mpr ?_
  rw [← a, ← mask_txt (Or.inl rfl) tx]
  exact form_mask tx hj h
theorem MA.lo (z : MA I s) (w : WA s) : LatOk I (aC s) := fun k hk => by
  rw [z.2.2 k hk]
  rcases w.2.2 k hk with e | ⟨v, hv, e, _⟩
  · exact Or.inl e
  · exact Or.inr ⟨v, hv, e⟩
theorem MA.nm (z : MA I s) (w : WA s) {k : Nat} (hk : k < 6) : NM I k = aN s k := by
  unfold NM aN
  rw [z.2.2 k hk]
  by_cases e : aL s k = -1
  · rw [if_pos e, if_pos e]
  · obtain ⟨v, hv, e1, e2⟩ := lat_lt w hk e
    rw [if_neg e, if_neg e, e2, (z.2.1 v hv).1]

/-- while the pins of a new version are laid -/
def EJ (m : Nat) (t : List Int32) (s : AS) (I J : Nat → Nat → Int32) (j : Nat) : Prop := PubF (aC s) I J ∧ J 498 5 = nI (aC s) ∧ (∀ k, J 505 k = I 505 k) ∧ (∀ k, J 502 k = I 502 k) ∧ (∀ k, J 503 k = I 503 k) ∧ J 501 (aC s) = nI m ∧ J 510 (aC s) = 0 ∧ ∀ k, k < j → J 504 (6 * aC s + k) = if ib (msk 0 t) k = true then aL s k else -1
theorem sp_ent32 (w : WA s) (hc : aC s < 60) (hm : m < 6) (z : MA I s) (et : vT (I 502) (I 503) (aC s) = t) (el : I 502 (aC s) = nI t.length) (q : ∀ K, MA K (entA m t s) → PubF (aC s) I K → K 510 (aC s) = 0 → Q (.inl none) (G X K L F)) : ∀ (n j : Nat) (J : Nat → Nat → Int32), j + n = 6 → EJ m t s I J j →
    WP mX10_enters 32 [some (.ref 498), some (.int (nI m)), some (.int (msk 0 t)), some (.int (nI j))] [] (G X J L F) 0 0 Q
  | 0, j, J, hj, e => by
    have e6 : j = 6 := by omega
    subst e6
    obtain ⟨f, e5, e505, e502, e503, e501, e510, e504⟩ := e
    refine k_X10_enters_32 ⟨fun _ => ⟨nI_in (by omega) (by decide), ?_⟩, fun n => absurd (by decide) n⟩
    rw [nI_clamp (by omega), e5, nI_1]
    have fK : PubF (aC s) I (am_u (am_u J 505 m (nI (aC s))) 498 5 (nI (aC s + 1))) := (f.wr (by simp)).wr (by simp)
    have old := fK.mrv w (Nat.le_refl _) z.2.1
    have k502 : am_u (am_u J 505 m (nI (aC s))) 498 5 (nI (aC s + 1)) 502 = I 502 := by
      funext k; rw [am_u_ne (Or.inl (by decide)), am_u_ne (Or.inl (by decide)), e502]
    have k503 : am_u (am_u J 505 m (nI (aC s))) 498 5 (nI (aC s + 1)) 503 = I 503 := by
      funext k; rw [am_u_ne (Or.inl (by decide)), am_u_ne (Or.inl (by decide)), e503]
    refine q _ ⟨by rw [am_u_eq, entA_C], fun v hv => ?_, fun k hk => ?_⟩ fK (by rw [am_u_ne (Or.inl (by decide)), am_u_ne (Or.inl (by decide)), e510])
    · rw [entA_C] at hv
      by_cases vc : v = aC s
      · subst vc
        rw [entA_Tc, entA_Mc, k502, k503]
        refine ⟨et, el, fun k hk => ?_, by rw [am_u_ne (Or.inl (by decide)), am_u_ne (Or.inl (by decide)), e501]⟩
        rw [entA_Pc, am_u_ne (Or.inl (by decide)), am_u_ne (Or.inl (by decide)), e504 k hk]
      · rw [entA_T vc, entA_M vc]
        obtain ⟨a, b, d, g⟩ := old v (by omega)
        exact ⟨a, b, fun k hk => by rw [entA_P vc]; exact d k hk, g⟩
    · rw [am_u_ne (Or.inl (by decide))]
      by_cases km : k = m
      · rw [km, am_u_eq, entA_Lm]
      · rw [am_u_ne (Or.inr km), entA_L hm km, e505, z.2.2 k hk]
  | n + 1, j, J, hj, e => by
    obtain ⟨f, e5, e505, e502, e503, e501, e510, e504⟩ := e
    refine k_X10_enters_32 ⟨fun z => absurd ((nI_leI (a := 6) (by decide) (by omega)).mp z) (by omega), fun _ => ⟨fun _ => ⟨nI_in (by omega) (by decide), trivial⟩, fun x ex => ?_⟩⟩
    have ei : (6 : Int32) * J 498 5 + nI j = nI (6 * aC s + j) := by rw [e5, show (6 : Int32) = nI 6 from rfl, nI_mul, nI_add]
    rw [ei, nI_clamp (by omega), nI_1]
    rw [i_test (show j < 32 by omega), nI_clamp (by omega), e505, z.2.2 j (by omega)] at ex
    have ex2 : x = if ib (msk 0 t) j = true then aL s j else -1 := by
      rw [ex]
      by_cases u : ib (msk 0 t) j = true
      · rw [if_pos u, if_pos u, if_pos rfl]
      · rw [if_neg u, if_neg u, if_neg (by decide)]
    refine ⟨nI_in (by omega) (by decide), sp_ent32 w hc hm z et el q n (j + 1) _ (by omega) ⟨f.wr (by simp), ?_, fun k => ?_, fun k => ?_, fun k => ?_, ?_, ?_, fun k hk => ?_⟩⟩
    · rw [am_u_ne (Or.inl (by decide))]; exact e5
    · rw [am_u_ne (Or.inl (by decide))]; exact e505 k
    · rw [am_u_ne (Or.inl (by decide))]; exact e502 k
    · rw [am_u_ne (Or.inl (by decide))]; exact e503 k
    · rw [am_u_ne (Or.inl (by decide))]; exact e501
    · rw [am_u_ne (Or.inl (by decide))]; exact e510
    · by_cases kj : k = j
      · rw [kj, am_u_eq, ex2]
      · rw [am_u_ne (Or.inr (by omega))]; exact e504 k (by omega)
/-- a version enters, in the model -/
theorem sp_enters (w : WA s) (hc : aC s < 60) (hm : m < 6) (tx : Txt 0 t) (z : MA I s) (et : vT (I 502) (I 503) (aC s) = t) (el : I 502 (aC s) = nI t.length) (q : ∀ K, MA K (entA m t s) → PubF (aC s) I K → K 510 (aC s) = 0 → Q (.inl none) (G X K L F)) : WP mX10_enters 0 (am_ent 4 [.ref 498, .int (nI m)]) [] (G X I L F) 0 0 Q := by
  refine k_X10_enters_0 ?_
  rw [z.1]
  refine sp_names (areG := 0) (Or.inl rfl) hc (by rw [et]; exact tx) (by rw [et]; exact el) (k_X10_enters_9 ?_)
  rw [z.1, nI_clamp (by omega), et]
  refine ⟨nI_in hc (by decide), nI_in hc (by decide), sp_ent32 w hc hm z et el q 6 0 _ rfl ⟨((PubF.refl).wr (by simp)).wr (by simp), ?_, fun k => ?_, fun k => ?_, fun k => ?_, ?_, am_u_eq, fun k hk => by omega⟩⟩
  · rw [am_u_ne (Or.inl (by decide)), am_u_ne (Or.inl (by decide))]; exact z.1
  · rw [am_u_ne (Or.inl (by decide)), am_u_ne (Or.inl (by decide))]
  · rw [am_u_ne (Or.inl (by decide)), am_u_ne (Or.inl (by decide))]
  · rw [am_u_ne (Or.inl (by decide)), am_u_ne (Or.inl (by decide))]
  · rw [am_u_ne (Or.inl (by decide)), am_u_eq]
end MP
