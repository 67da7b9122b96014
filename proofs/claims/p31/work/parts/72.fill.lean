/-! own: the class fills outputs in -/
set_option maxRecDepth 100000
def OI (I : Nat → Nat → Int32) (v h : Nat) : UInt32 := OO (I 1000502) (I 1000503) (I 1000504) (I 1000507) v h
def VC (I : Nat → Nat → Int32) (c : Nat) : Prop := ∀ v, v < c → Txt 0 (vT (I 1000502) (I 1000503) v) ∧ FC I (19 + 6 * v + 1) (rForm 0 (vT (I 1000502) (I 1000503) v)) ∧ PinsOk (I 1000504) v ∧ ∀ k, k < 6 → I (19 + 6 * v + 4) k = I 1000504 (6 * v + k)
def RC (I : Nat → Nat → Int32) : Prop := ∀ g, g < 3 → ∀ h, h < 201 → I (16 + g) h = I 1000507 (201 * g + h)
def OC (I : Nat → Nat → Int32) (F : Nat → Nat → UInt32) (c : Nat) : Prop := ∀ v, v < c → ∃ kh, kh ≤ 201 ∧ I (19 + 6 * v) 6 = nI kh ∧ ∀ h, h < kh → F (19 + 6 * v + 5) h = OI I v h
def NF (F : Nat → Nat → UInt32) : Prop := ∀ j, j < 20 → fin (F 11 j)
/-- what filling may change -/
def OIF (I J : Nat → Nat → Int32) : Prop := ∀ o k, ¬ (o = 10 ∧ k = 2) → ¬ (∃ v, v < 60 ∧ o = 19 + 6 * v ∧ k = 6 ∧ nI v < I 9 4) → J o k = I o k
def OFF (F H : Nat → Nat → UInt32) : Prop := ∀ o k, o ≠ 11 → o ≠ 12 → ¬ (∃ v, v < 60 ∧ o = 19 + 6 * v + 5) → H o k = F o k
section FI
variable {X : Nat × (Nat × (Nat → Int32))} {I J K : Nat → Nat → Int32} {L : Nat → Nat → Int64} {F H H2 : Nat → Nat → UInt32} {Q : AQ} {c v h : Nat}
theorem OIF.refl : OIF I I := fun _ _ _ _ => rfl
theorem OFF.refl : OFF F F := fun _ _ _ _ _ => rfl
theorem OIF.cnt (h : OIF I J) : J 9 4 = I 9 4 := h 9 4 (by omega) (fun ⟨v, _, e, _⟩ => by omega)
theorem OIF.trans (h1 : OIF I J) (h2 : OIF J K) : OIF I K := fun o k n m => (h2 o k n (by rw [h1.cnt]; exact m)).trans (h1 o k n m)
theorem OFF.trans (h1 : OFF F H) (h2 : OFF H H2) : OFF F H2 := fun o k n m l => (h2 o k n m l).trans (h1 o k n m l)
theorem OIF.of (h : IFr I J) : OIF I J := fun o k n _ => h o k n
theorem OIF.row (h : OIF I J) {o : Nat} (h1 : o ≠ 10) (h2 : ¬ ∃ v, v < 60 ∧ o = 19 + 6 * v) : J o = I o := funext fun k => h o k (fun n => h1 n.1) (fun ⟨v, a, b, _⟩ => h2 ⟨v, a, b⟩)
theorem OIF.big (h : OIF I J) {o : Nat} (h1 : 374 ≤ o) : J o = I o := h.row (by omega) (fun ⟨v, a, b⟩ => by omega)
theorem OI_cong (h2 : J 1000502 = I 1000502) (h3 : J 1000503 = I 1000503) (h4 : J 1000504 = I 1000504) (h7 : J 1000507 = I 1000507) : OI J = OI I := by
  funext v h
  unfold OI
  rw [h2, h3, h4, h7]
theorem OIF.oi (h : OIF I J) : OI J = OI I := OI_cong (h.big (by decide)) (h.big (by decide)) (h.big (by decide)) (h.big (by decide))
theorem FC_fr {o : Nat} {R : RS} (h : ∀ q k, q = o ∨ q = o + 1 ∨ q = o + 2 → J q k = I q k) (z : FC I o R) : FC J o R := by
  obtain ⟨z1, z2, z3, z4⟩ := z
  exact ⟨(h _ _ (Or.inl rfl)).trans z1, StkP_fr (fun k _ => ⟨h _ _ (Or.inr (Or.inl rfl)), h _ _ (Or.inr (Or.inr rfl))⟩) z2, (h _ _ (Or.inl rfl)).trans z3, (h _ _ (Or.inl rfl)).trans z4⟩
theorem OIF.vc (h : OIF I J) (hc : c ≤ 60) (z : VC I c) : VC J c := by
  intro v hv
  obtain ⟨z1, z2, z3, z4⟩ := z v hv
  have e2 : J 1000502 = I 1000502 := h.big (by decide)
  have e3 : J 1000503 = I 1000503 := h.big (by decide)
  have e4 : J 1000504 = I 1000504 := h.big (by decide)
  rw [e2, e3, e4]
  exact ⟨z1, FC_fr (fun q k hq => congrFun (h.row (by omega) (fun ⟨u, a, b⟩ => by omega)) k) z2, z3, fun k hk => (congrFun (h.row (by omega) (fun ⟨u, a, b⟩ => by omega)) k).trans (z4 k hk)⟩
theorem OIF.rc (h : OIF I J) (z : RC I) : RC J := fun g hg t ht => by
  rw [congrFun (h.row (o := 16 + g) (by omega) (fun ⟨u, a, b⟩ => by omega)) t, congrFun (h.big (o := 1000507) (by decide)) _]
  exact z g hg t ht
theorem has_lt (hc : c ≤ 60) (h9 : I 9 4 = nI c) {u : Nat} (hu : u < c) : f_X6_has (nI u) I = 1 := by
  unfold f_X6_has
  rw [if_neg (nI_pos (by omega)), h9, if_neg (fun n => absurd ((nI_leI (by omega) (by omega)).mp n) (by omega)), if_neg (show ¬ (60 : Int32) ≤ nI u from fun n => absurd ((nI_leI (a := 60) (by decide) (by omega)).mp n) (by omega))]
theorem has_m1 : f_X6_has (-1) I = 0 := by
  unfold f_X6_has
  rw [if_pos (by decide)]
/-- the gauges' names -/
theorem sp_fill36 {last : Int32} (hv : isVer (19 + 6 * v)) (hh : h < 201) : ∀ (m g : Nat) (F : Nat → Nat → UInt32) (d6 d7 : Option Value), g + m = 3 → NF F →
    (∀ H, (∀ o k, o ≠ 11 → H o k = F o k) → (∀ j, j < g → H 11 j = F 11 j) → (∀ j, g ≤ j → j < 3 → H 11 j = FP.i2f (I (16 + j) h)) → NF H → WP mX6_fill 68 [some (.ref 9), some (.ref (19 + 6 * v)), some (.int last), some (.ref 11), some (.int (nI h)), some (.int 0), d6, d7] [] (G X I L H) 0 0 Q) →
    WP mX6_fill 36 [some (.ref 9), some (.ref (19 + 6 * v)), some (.int last), some (.ref 11), some (.int (nI h)), some (.int (nI g)), d6, d7] [] (G X I L F) 0 0 Q
  | 0, g, F, d6, d7, hg, nf, q => by
    have e : g = 3 := by omega
    subst e
    exact k_X6_fill_36 hv ⟨fun _ => q F (fun _ _ _ => rfl) (fun _ _ => rfl) (fun j a b => by omega) nf, fun n => absurd (by decide) n⟩
  | m + 1, g, F, d6, d7, hg, nf, q => by
    have cg : (nI g).toNatClampNeg = g := nI_clamp (by omega)
    have ch : (nI h).toNatClampNeg = h := nI_clamp (by omega)
    refine k_X6_fill_36 hv ⟨fun n => absurd ((nI_leI (a := 3) (by decide) (by omega)).mp n) (by omega), fun _ => ⟨nI_in (by omega) (by decide), nI_in (by omega) (by decide), ?_⟩⟩
    rw [Int32.zero_add, cg, ch, nI_1]
    refine ⟨nI_in (by omega) (by decide), ?_⟩
    refine sp_fill36 hv hh m (g + 1) _ d6 d7 (by omega) (fun j hj => ?_) (fun H f1 f2 f3 nh => q H (fun o k n => (f1 o k n).trans (am_u_ne (Or.inl n))) (fun j hj => (f2 j (by omega)).trans (am_u_ne (Or.inr (by omega)))) (fun j a b => ?_) nh)
    · by_cases e : j = g
      · rw [e, am_u_eq]; exact fin_i2f _
      · rw [am_u_ne (Or.inr e)]; exact nf j hj
    · by_cases e : j = g
      · rw [f2 j (by omega), e, am_u_eq]
      · exact f3 j (by omega) b
/-- the models' names -/
theorem sp_fill68 {last : Int32} (hc : c ≤ 60) (h9 : I 9 4 = nI c) (hvc : v < c) (vc : VC I c) (hh : h < 201) (hk : ∀ u, u < v → (∃ k, k < 6 ∧ I 1000504 (6 * v + k) = nI u) → ∀ t, t ≤ h → F (19 + 6 * u + 5) t = OI I u t) : ∀ (m k : Nat) (H0 : Nat → Nat → UInt32) (d6 d7 : Option Value), k + m = 6 → NF H0 → (∀ o k, o ≠ 11 → H0 o k = F o k) →
    (∀ H d6 d7, (∀ o k, o ≠ 11 → H o k = F o k) → (∀ j, j < 3 + k → H 11 j = H0 11 j) → (∀ j, 9 ≤ j → j < 9 + k → H 11 j = H0 11 j) → (∀ j, k ≤ j → j < 6 → H 11 (3 + j) = (if I 1000504 (6 * v + j) = -1 then 0 else OI I (I 1000504 (6 * v + j)).toNatClampNeg h) ∧ H 11 (9 + j) = (if I 1000504 (6 * v + j) = -1 then 0 else if h = 0 then 0 else OI I (I 1000504 (6 * v + j)).toNatClampNeg (h - 1))) → NF H → WP mX6_fill 68 [some (.ref 9), some (.ref (19 + 6 * v)), some (.int last), some (.ref 11), some (.int (nI h)), some (.int 6), d6, d7] [] (G X I L H) 0 0 Q) →
    WP mX6_fill 68 [some (.ref 9), some (.ref (19 + 6 * v)), some (.int last), some (.ref 11), some (.int (nI h)), some (.int (nI k)), d6, d7] [] (G X I L H0) 0 0 Q
  | 0, k, H0, d6, d7, hk6, nf, f0, q => by
    have e : k = 6 := by omega
    subst e
    exact q H0 d6 d7 f0 (fun _ _ => rfl) (fun _ _ _ => rfl) (fun j a b => by omega) nf
  | m + 1, k, H0, d6, d7, hk6, nf, f0, q => by
    have ck : (nI k).toNatClampNeg = k := nI_clamp (by omega)
    have ch : (nI h).toNatClampNeg = h := nI_clamp (by omega)
    have hv : isVer (19 + 6 * v) := gi_verN (by omega)
    have pe : I (19 + 6 * v + 4) k = I 1000504 (6 * v + k) := (vc v hvc).2.2.2 k (by omega)
    have po := (vc v hvc).2.2.1 k (by omega)
    have n6 : ¬ (6 : Int32) ≤ nI k := fun n => absurd ((nI_leI (a := 6) (by decide) (by omega)).mp n) (by omega)
    have le0 : nI h ≤ 0 ↔ h = 0 := nI_le0 (by omega)
    have hin : vp_in (nI h) 201 := nI_in (by omega) (by decide)
    have hin1 : ¬ nI h ≤ 0 → vp_in (nI h - 1) 201 ∧ (nI h - 1).toNatClampNeg = h - 1 := fun n => by
      have h1 : h ≠ 0 := fun z => n (le0.mpr z)
      have e : nI h - 1 = nI (h - 1) := by
        have := nI_pred (h - 1)
        rw [show h - 1 + 1 = h by omega] at this
        exact this
      rw [e]
      exact ⟨nI_in (by omega) (by decide), nI_clamp (by omega)⟩
    refine k_X6_fill_68 hv ⟨fun n => absurd n n6, fun _ => ⟨nI_in (by omega) (by decide), ?_⟩⟩
    rw [ck, pe, ch, show (3 : Int32) + nI k = nI (3 + k) from nI_add 3 k, show (9 : Int32) + nI k = nI (9 + k) from nI_add 9 k, nI_clamp (show 3 + k < 2 ^ 31 by omega), nI_clamp (show 9 + k < 2 ^ 31 by omega), nI_1]
    refine ⟨fun _ => ⟨hin, trivial⟩, fun s99 e99 => ⟨nI_in (by omega) (by decide), fun _ n => ⟨(hin1 n).1, trivial⟩, fun s128 e128 => ⟨nI_in (by omega) (by decide), ?_⟩⟩⟩
    have v99 : s99 = (if I 1000504 (6 * v + k) = -1 then 0 else OI I (I 1000504 (6 * v + k)).toNatClampNeg h) := by
      rw [e99]
      rcases po with e | ⟨u, hu, e⟩
      · rw [e, has_m1, if_pos rfl, if_pos rfl]
      · rw [e, has_lt hc h9 (by omega), if_neg (by decide), if_neg (nI_m1 (by omega)), nI_clamp (by omega), f0 _ _ (by omega)]
        exact hk u hu ⟨k, by omega, e⟩ h (Nat.le_refl _)
    have v128 : s128 = (if I 1000504 (6 * v + k) = -1 then 0 else if h = 0 then 0 else OI I (I 1000504 (6 * v + k)).toNatClampNeg (h - 1)) := by
      rw [e128]
      rcases po with e | ⟨u, hu, e⟩
      · rw [e, has_m1, if_pos rfl, if_pos rfl]
      · rw [e, has_lt hc h9 (by omega), if_neg (by decide), if_neg (nI_m1 (by omega)), nI_clamp (show u < 2 ^ 31 by omega)]
        by_cases z : h = 0
        · rw [if_pos (le0.mpr z), if_pos z]
        · rw [if_neg (fun n => z (le0.mp n)), if_neg z, (hin1 (fun n => z (le0.mp n))).2, f0 _ _ (by omega)]
          exact hk u hu ⟨k, by omega, e⟩ (h - 1) (by omega)
    have f99 : fin s99 := by
      rw [v99]
      split
      · exact kv_0.fin
      · exact OO_kv.fin
    have f128 : fin s128 := by
      rw [v128]
      split
      · exact kv_0.fin
      · split
        · exact kv_0.fin
        · exact OO_kv.fin
    refine sp_fill68 hc h9 hvc vc hh hk m (k + 1) _ _ _ (by omega) (fun j hj => ?_) (fun o i n => by rw [am_u_ne (Or.inl n), am_u_ne (Or.inl n)]; exact f0 o i n) (fun H d6 d7 g1 g2 g3 g4 nh => q H d6 d7 g1 (fun j hj => ?_) (fun j a b => ?_) (fun j a b => ?_) nh)
    · by_cases z : j = 9 + k
      · rw [z, am_u_eq]; exact f128
      · rw [am_u_ne (Or.inr z)]
        by_cases y : j = 3 + k
        · rw [y, am_u_eq]; exact f99
        · rw [am_u_ne (Or.inr y)]; exact nf j hj
    · rw [g2 j (by omega), am_u_ne (Or.inr (by omega)), am_u_ne (Or.inr (by omega))]
    · rw [g3 j a (by omega), am_u_ne (Or.inr (by omega)), am_u_ne (Or.inr (by omega))]
    · by_cases z : j = k
      · subst z
        rw [g2 (3 + j) (by omega), am_u_ne (Or.inr (by omega)), am_u_eq, v99, g3 (9 + j) (by omega) (by omega), am_u_eq, v128]
        exact ⟨rfl, rfl⟩
      · exact g4 j (by omega) b
end FI
