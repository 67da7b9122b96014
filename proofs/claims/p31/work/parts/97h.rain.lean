/-! own: a rain is told -/
set_option maxRecDepth 100000
/-- what telling a rain may change in the class's versions -/
def TRF (g h : Nat) (I J : Nat → Nat → Int32) : Prop := ∀ o k, ¬ (o = 16 + g ∧ k = h) → ¬ (∃ v, v < 60 ∧ o = 19 + 6 * v ∧ k = 6) → J o k = I o k
def TRU (g h : Nat) (ch : Prop) (I J : Nat → Nat → Int32) (v : Nat) : Prop := ∀ kh, kh ≤ 201 → I (19 + 6 * v) 6 = nI kh → ∃ k2, k2 ≤ kh ∧ J (19 + 6 * v) 6 = nI k2 ∧ (ch → ib (I (19 + 6 * v) 4) g = true → k2 ≤ h)
/-- what telling a rain may change in the model's versions -/
def MRF (I J : Nat → Nat → Int32) : Prop := ∀ o k, o ≠ 1000510 → J o k = I o k
def MRU (h : Nat) (I J : Nat → Nat → Int32) (v : Nat) : Prop := ∀ kh, kh ≤ 201 → I 1000510 v = nI kh → ∃ k2, k2 ≤ kh ∧ J 1000510 v = nI k2 ∧ k2 ≤ h
section TR
variable {X : Nat × (Nat × (Nat → Int32))} {I J K : Nat → Nat → Int32} {L M : Nat → Nat → Int64} {F : Nat → Nat → UInt32} {Q : AQ} {c g h : Nat} {mm b : Int32}
theorem sp_tr40 (hg : g < 3) (hh : h < 201) (hc : c ≤ 60) (e9 : I 9 4 = nI c) (hk : ∀ v, v < c → ∃ kh, kh ≤ 201 ∧ I (19 + 6 * v) 6 = nI kh) (q : ∀ J, TRF g h I J → J (16 + g) h = mm → (∀ v, v < c → TRU g h (b ≠ mm) I J v) → (∀ v, c ≤ v → J (19 + 6 * v) 6 = I (19 + 6 * v) 6) → Q (.inl (some (.int b))) (G X J L F)) : ∀ (n j : Nat) (J : Nat → Nat → Int32) (d6 : Option Value), j + n = c → TRF g h I J → J (16 + g) h = mm → (∀ v, v < j → TRU g h (b ≠ mm) I J v) → (∀ v, j ≤ v → J (19 + 6 * v) 6 = I (19 + 6 * v) 6) →
    WP mX6_tellRain 40 [some (.ref 9), some (.int (nI g)), some (.int (nI h)), some (.int mm), some (.int b), some (.int (nI j)), d6] [] (G X J L F) 0 0 Q
  | 0, j, J, d6, hj, f, em, u1, u2 => by
    have e : j = c := by omega
    subst e
    have e94 : J 9 4 = nI j := (f 9 4 (by omega) (fun ⟨v, _, h, _⟩ => by omega)).trans e9
    refine k_X6_tellRain_40 ⟨fun _ => q J f em u1 u2, fun n => absurd ?_ n⟩
    rw [e94, nI_leI (by omega) (by omega)]; omega
  | n + 1, j, J, d6, hj, f, em, u1, u2 => by
    have e94 : J 9 4 = nI c := (f 9 4 (by omega) (fun ⟨v, _, h, _⟩ => by omega)).trans e9
    have same : ¬ b ≠ mm → ∀ v, j ≤ v → TRU g h (b ≠ mm) I J v := fun nb v jv kh _ e => ⟨kh, Nat.le_refl _, (u2 v jv).trans e, fun n => absurd n nb⟩
    refine k_X6_tellRain_40 ⟨fun z => absurd ((nI_leI (a := c) (b := j) (by omega) (by omega)).mp (by rw [← e94]; exact z)) (by omega), fun _ => ⟨fun z => absurd ((nI_leI (a := 60) (by decide) (by omega)).mp z) (by omega), fun _ => ⟨fun e => q J f em (fun v hv => ?_) (fun v hv => u2 v (by omega)), fun e => ⟨nI_in (by omega) (by decide), fun K eK => ?_⟩⟩⟩⟩
    · by_cases l : v < j
      · exact u1 v l
      · exact same (fun n => n e) v (by omega)
    · obtain ⟨kh, k201, ekh⟩ := hk j (by omega)
      have j4 : J (19 + 6 * j) 4 = I (19 + 6 * j) 4 := f _ _ (by omega) (fun ⟨v, _, _, h⟩ => by omega)
      have j6 : J (19 + 6 * j) 6 = nI kh := (u2 j (Nat.le_refl j)).trans ekh
      rw [nI_clamp (show j < 2 ^ 31 by omega), j4, j6, i_test (show g < 32 by omega)] at eK
      rw [nI_1]
      have le : nI kh ≤ nI h ↔ kh ≤ h := nI_leI (by omega) (by omega)
      have key : K = J ∧ (ib (I (19 + 6 * j) 4) g = true → kh ≤ h) ∨ K = am_u J (19 + 6 * j) 6 (nI h) ∧ h < kh := by
        by_cases t : ib (I (19 + 6 * j) 4) g = true
        · rw [if_pos t, if_neg (show ¬ (1 : Int32) = 0 by decide)] at eK
          by_cases l : kh ≤ h
          · rw [if_pos (le.mpr l)] at eK
            exact Or.inl ⟨eK, fun _ => l⟩
          · rw [if_neg (fun n => l (le.mp n))] at eK
            exact Or.inr ⟨eK, by omega⟩
        · rw [if_neg t, if_pos rfl] at eK
          exact Or.inl ⟨eK, fun n => absurd n t⟩
      rcases key with ⟨ek, l⟩ | ⟨ek, l⟩
      · rw [ek]
        refine sp_tr40 hg hh hc e9 hk q n (j + 1) J _ (by omega) f em (fun v hv => ?_) (fun v hv => u2 v (by omega))
        by_cases vj : v = j
        · rw [vj]
          intro kh2 h2 e2
          have : kh2 = kh := (nI_eq (by omega) (by omega)).mp (e2.symm.trans ekh)
          rw [this]
          exact ⟨kh, Nat.le_refl _, j6, fun _ t => l t⟩
        · exact u1 v (by omega)
      · rw [ek]
        refine sp_tr40 hg hh hc e9 hk q n (j + 1) _ _ (by omega) (fun o k n1 n2 => ?_) ?_ (fun v hv => ?_) (fun v hv => ?_)
        · rw [am_u_ne (by
            by_cases x : o = 19 + 6 * j
            · exact Or.inr (fun y => n2 ⟨j, by omega, x, y⟩)
            · exact Or.inl x)]
          exact f o k n1 n2
        · rw [am_u_ne (Or.inl (by omega))]; exact em
        · by_cases vj : v = j
          · rw [vj]
            intro kh2 h2 e2
            have : kh2 = kh := (nI_eq (by omega) (by omega)).mp (e2.symm.trans ekh)
            rw [this]
            exact ⟨h, by omega, am_u_eq, fun _ _ => Nat.le_refl _⟩
          · intro kh2 h2 e2
            obtain ⟨a, a1, a2, a3⟩ := u1 v (by omega) kh2 h2 e2
            exact ⟨a, a1, (am_u_ne (Or.inl (by omega))).trans a2, a3⟩
        · rw [am_u_ne (Or.inl (by omega))]; exact u2 v (by omega)
/-- a rain is told, in the class's shelf -/
theorem sp_tellRain (hg : g < 3) (hh : h < 201) (hc : c ≤ 60) (e9 : I 9 4 = nI c) (hk : ∀ v, v < c → ∃ kh, kh ≤ 201 ∧ I (19 + 6 * v) 6 = nI kh) (q : ∀ J, TRF g h I J → J (16 + g) h = mm → (∀ v, v < c → TRU g h (I (16 + g) h ≠ mm) I J v) → (∀ v, c ≤ v → J (19 + 6 * v) 6 = I (19 + 6 * v) 6) → Q (.inl (some (.int (I (16 + g) h)))) (G X J L F)) : WP mX6_tellRain 0 (am_ent 7 [.ref 9, .int (nI g), .int (nI h), .int mm]) [] (G X I L F) 0 0 Q := by
  refine k_X6_tellRain_0 ⟨fun z => absurd z (nI_pos (by omega)), fun _ => ⟨fun z => absurd ((nI_leI (a := 3) (by decide) (by omega)).mp z) (by omega), fun _ => ⟨fun z => absurd z (by rw [isHour_nI hh]; decide), fun _ => ?_⟩⟩⟩
  rw [nI_clamp (show g < 2 ^ 31 by omega), nI_clamp (show h < 2 ^ 31 by omega)]
  exact sp_tr40 hg hh hc e9 hk q c 0 _ none (Nat.zero_add _) (fun o k n1 n2 => am_u_ne (by
    by_cases x : o = 16 + g
    · exact Or.inr (fun y => n1 ⟨x, y⟩)
    · exact Or.inl x)) am_u_eq (fun v hv => absurd hv (by omega)) (fun v hv => am_u_ne (Or.inl (by omega)))
end TR
