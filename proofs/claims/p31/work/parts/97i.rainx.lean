/-! own: outputs that are kept stay right when a rain is told; runs are stamped -/
set_option maxRecDepth 100000
section RX
variable {X : Nat × (Nat × (Nat → Int32))} {I J K : Nat → Nat → Int32} {L M : Nat → Nat → Int64} {F : Nat → Nat → UInt32} {Q : AQ} {c g h v t : Nat} {mm : Int32} {s : AS}
theorem OI_rain (w : WA s) (z2 : MA I s) (e502 : J 1000502 = I 1000502) (e503 : J 1000503 = I 1000503) (e504 : J 1000504 = I 1000504) (e507 : ∀ k, k ≠ 201 * g + h → J 1000507 k = I 1000507 k) (hh : h < 201) (hv : v < aC s) (ht : t < 201) (cd : J 1000507 (201 * g + h) = I 1000507 (201 * g + h) ∨ t < h ∨ ¬ GU I v g) : OI J v t = OI I v t := by
  have hc := w.1
  unfold OI
  rw [e502, e503, e504]
  refine OO_cong (H := t) (S := fun u => u ≤ v ∧ Rch (I 1000504) v u) (fun u ⟨uv, ru⟩ => ?_) t (Nat.le_refl t) v ⟨Nat.le_refl v, Rch.self⟩
  obtain ⟨tx, l, po, _⟩ := z2.vm w u (by omega)
  refine ⟨by omega, tx, rfl, po, fun _ _ => rfl, fun k x hk e lt => ⟨by omega, Rch.snoc (by omega) ru hk e lt⟩, fun g2 hg2 b t2 ht2 => ?_⟩
  by_cases e : 201 * g2 + t2 = 201 * g + h
  · have eg : g2 = g := by omega
    have eh : t2 = h := by omega
    rw [eg, eh]
    rcases cd with cd | cd | cd
    · exact cd
    · omega
    · exact absurd ⟨u, uv, ru, by rw [← eg]; exact b⟩ cd
  · exact e507 _ e
/-- what the class keeps, behind a rain -/
theorem oc_rain (w : WA s) (z : CA I L s) (z2 : MA I s) (oc : OC I F (aC s)) (e502 : J 1000502 = I 1000502) (e503 : J 1000503 = I 1000503) (e504 : J 1000504 = I 1000504) (e507 : ∀ k, k ≠ 201 * g + h → J 1000507 k = I 1000507 k) (hh : h < 201)
    (tru : ∀ v, v < aC s → TRU g h (J 1000507 (201 * g + h) ≠ I 1000507 (201 * g + h)) I J v) : OC J F (aC s) := fun v hv => by
  obtain ⟨kh, k201, ek, ok⟩ := oc v hv
  obtain ⟨k2, l2, e2, l3⟩ := tru v hv kh k201 ek
  refine ⟨k2, by omega, e2, fun t ht => ?_⟩
  rw [ok t (by omega)]
  refine (OI_rain w z2 e502 e503 e504 e507 hh hv (by omega) ?_).symm
  by_cases a : J 1000507 (201 * g + h) = I 1000507 (201 * g + h)
  · exact Or.inl a
  · by_cases b : GU I v g
    · exact Or.inr (Or.inl (by have := l3 a ((ca_gau w z z2 (v + 1) v (by omega) hv g).mpr b); omega))
    · exact Or.inr (Or.inr b)
/-- what the model keeps, behind a rain -/
theorem om_rain (w : WA s) (z2 : MA I s) (om : OM I F (aC s)) (e502 : J 1000502 = I 1000502) (e503 : J 1000503 = I 1000503) (e504 : J 1000504 = I 1000504) (e507 : ∀ k, k ≠ 201 * g + h → J 1000507 k = I 1000507 k) (hh : h < 201)
    (mru : ∀ v, v < aC s → MRU h I J v) : OM J F (aC s) := fun v hv => by
  obtain ⟨kh, k201, ek, ok⟩ := om v hv
  obtain ⟨k2, l2, e2, l3⟩ := mru v hv kh k201 ek
  refine ⟨k2, by omega, e2, fun t ht => ?_⟩
  rw [ok t (by omega)]
  exact (OI_rain w z2 e502 e503 e504 e507 hh hv (by omega) (Or.inr (Or.inl (by omega)))).symm
/-- what stamping may change -/
def STF (I J : Nat → Nat → Int32) : Prop := ∀ o k, ¬ (383 ≤ o ∧ o < 423 ∧ k = 5) → J o k = I o k
theorem names_v {x : Nat} (hc : c ≤ 60) (e9 : I 9 4 = nI c) (hv : v < c) (hg : g < 3) : (f_X6_names (nI v) (nI g) I = 0) ↔ ¬ ib (I (19 + 6 * v) 4) g = true := by
  unfold f_X6_names
  rw [has_lt hc e9 hv, if_neg (show ¬ (1 : Int32) = 0 by decide), nI_clamp (show v < 2 ^ 31 by omega), i_test (show g < 32 by omega)]
  cases ib (I (19 + 6 * v) 4) g
  · exact ⟨fun _ n => (by cases n), fun _ => rfl⟩
  · exact ⟨fun n => absurd n (by decide), fun n => absurd rfl n⟩
theorem sp_st2 {rc : Nat} (hc : c ≤ 60) (e9 : I 9 4 = nI c) (hg : g < 3) (hr : rc ≤ 40) (hh : h < 201) (e7 : I 0 7 = nI rc) (hrun : ∀ r, r < rc → ∃ v b, v < c ∧ b < 201 ∧ I (383 + r) 0 = nI v ∧ I (383 + r) 2 = nI b)
    (q : ∀ J, STF I J → (∀ r v b, r < rc → v < c → b < 201 → I (383 + r) 0 = nI v → I (383 + r) 2 = nI b → ((h ≤ b ∧ ib (I (19 + 6 * v) 4) g = true) → J (383 + r) 5 = 1) ∧ (¬ (h ≤ b ∧ ib (I (19 + 6 * v) 4) g = true) → J (383 + r) 5 = I (383 + r) 5)) → Q (.inl none) (G X J L F)) : ∀ (n j : Nat) (J : Nat → Nat → Int32), j + n = rc → STF I J →
    (∀ r v b, r < j → v < c → b < 201 → I (383 + r) 0 = nI v → I (383 + r) 2 = nI b → ((h ≤ b ∧ ib (I (19 + 6 * v) 4) g = true) → J (383 + r) 5 = 1) ∧ (¬ (h ≤ b ∧ ib (I (19 + 6 * v) 4) g = true) → J (383 + r) 5 = I (383 + r) 5)) → (∀ r, j ≤ r → J (383 + r) 5 = I (383 + r) 5) →
    WP mX9_stampRuns 2 [some (.ref 0), some (.int (nI g)), some (.int (nI h)), some (.int (nI j))] [] (G X J L F) 0 0 Q
  | 0, j, J, hj, f, u1, u2 => by
    have e : j = rc := by omega
    subst e
    have e7J : J 0 7 = nI j := (f 0 7 (by omega)).trans e7
    refine k_X9_stampRuns_2 ⟨fun _ => q J f u1, fun n => absurd ?_ n⟩
    rw [e7J, nI_leI (by omega) (by omega)]; omega
  | n + 1, j, J, hj, f, u1, u2 => by
    have e7J : J 0 7 = nI rc := (f 0 7 (by omega)).trans e7
    have hin : vp_in (nI j) 40 := nI_in (by omega) (by decide)
    obtain ⟨v, b, hv, hb, e0, e2⟩ := hrun j (by omega)
    refine k_X9_stampRuns_2 ⟨fun z => absurd ((nI_leI (a := rc) (b := j) (by omega) (by omega)).mp (by rw [← e7J]; exact z)) (by omega), fun _ => ⟨fun z => absurd ((nI_leI (a := 40) (by decide) (by omega)).mp z) (by omega), fun _ => ⟨hin, fun _ => ⟨hin, fun _ => ⟨hin, trivial⟩⟩, fun K eK => ?_⟩⟩⟩
    have e9J : J 9 4 = nI c := (f 9 4 (by omega)).trans e9
    have egJ : J (19 + 6 * v) 4 = I (19 + 6 * v) 4 := f _ 4 (by omega)
    rw [nI_clamp (show j < 2 ^ 31 by omega), f (383 + j) 2 (by omega), f (383 + j) 0 (by omega), e0, e2] at eK
    rw [nI_1]
    have lt : nI b < nI h ↔ b < h := nI_ltI (by omega) (by omega)
    have nm := names_v (x := 0) (I := J) hc e9J hv hg
    rw [egJ] at nm
    have key : (K = J ∧ ¬ (h ≤ b ∧ ib (I (19 + 6 * v) 4) g = true)) ∨ (K = am_u J (383 + j) 5 1 ∧ (h ≤ b ∧ ib (I (19 + 6 * v) 4) g = true)) := by
      by_cases l : b < h
      · rw [if_pos (lt.mpr l)] at eK
        exact Or.inl ⟨eK, fun n => by omega⟩
      · rw [if_neg (fun n => l (lt.mp n))] at eK
        by_cases t : ib (I (19 + 6 * v) 4) g = true
        · rw [if_neg (fun n => nm.mp n t)] at eK
          exact Or.inr ⟨eK, by omega, t⟩
        · rw [if_pos (nm.mpr t)] at eK
          exact Or.inl ⟨eK, fun n => t n.2⟩
    have one : ∀ v2 b2, v2 < c → b2 < 201 → I (383 + j) 0 = nI v2 → I (383 + j) 2 = nI b2 → v2 = v ∧ b2 = b := fun v2 b2 h1 h2 h3 h4 =>
      ⟨(nI_eq (by omega) (by omega)).mp (h3.symm.trans e0), (nI_eq (by omega) (by omega)).mp (h4.symm.trans e2)⟩
    rcases key with ⟨ek, l⟩ | ⟨ek, l⟩
    · rw [ek]
      refine sp_st2 hc e9 hg hr hh e7 hrun q n (j + 1) J (by omega) f (fun r v2 b2 h1 h2 h3 h4 h5 => ?_) (fun r hr => u2 r (by omega))
      by_cases rj : r = j
      · rw [rj] at h4 h5 ⊢
        obtain ⟨a1, a2⟩ := one v2 b2 h2 h3 h4 h5
        rw [a1, a2]
        exact ⟨fun n => absurd n l, fun _ => u2 j (Nat.le_refl j)⟩
      · exact u1 r v2 b2 (by omega) h2 h3 h4 h5
    · rw [ek]
      refine sp_st2 hc e9 hg hr hh e7 hrun q n (j + 1) _ (by omega) (fun o k n1 => (am_u_ne (by
          by_cases x : o = 383 + j
          · exact Or.inr (fun y => n1 ⟨by omega, by omega, y⟩)
          · exact Or.inl x)).trans (f o k n1)) (fun r v2 b2 h1 h2 h3 h4 h5 => ?_) (fun r hr => (am_u_ne (Or.inl (by omega))).trans (u2 r (by omega)))
      by_cases rj : r = j
      · rw [rj] at h4 h5 ⊢
        obtain ⟨a1, a2⟩ := one v2 b2 h2 h3 h4 h5
        rw [a1, a2]
        exact ⟨fun _ => am_u_eq, fun n => absurd l n⟩
      · have z := u1 r v2 b2 (by omega) h2 h3 h4 h5
        rw [am_u_ne (Or.inl (by omega))]
        exact z
/-- the runs on which a rain tells are stamped, in the class -/
theorem sp_stampRuns {rc : Nat} (hc : c ≤ 60) (e9 : I 9 4 = nI c) (hg : g < 3) (hr : rc ≤ 40) (hh : h < 201) (e7 : I 0 7 = nI rc) (hrun : ∀ r, r < rc → ∃ v b, v < c ∧ b < 201 ∧ I (383 + r) 0 = nI v ∧ I (383 + r) 2 = nI b)
    (q : ∀ J, STF I J → (∀ r v b, r < rc → v < c → b < 201 → I (383 + r) 0 = nI v → I (383 + r) 2 = nI b → ((h ≤ b ∧ ib (I (19 + 6 * v) 4) g = true) → J (383 + r) 5 = 1) ∧ (¬ (h ≤ b ∧ ib (I (19 + 6 * v) 4) g = true) → J (383 + r) 5 = I (383 + r) 5)) → Q (.inl none) (G X J L F)) : WP mX9_stampRuns 0 (am_ent 4 [.ref 0, .int (nI g), .int (nI h)]) [] (G X I L F) 0 0 Q :=
  k_X9_stampRuns_0 (sp_st2 hc e9 hg hr hh e7 hrun q rc 0 I (Nat.zero_add _) (fun _ _ _ => rfl) (fun r v b h1 => absurd h1 (by omega)) (fun _ _ => rfl))
end RX
