/-! own: the model goes on behind a factor -/
set_option maxRecDepth 100000
def MR (I : Nat → Nat → Int32) (F : Nat → Nat → UInt32) (nm : Nat → UInt32) (f h : FM) : Prop := MV I F (evalR nm f) ∧ MW I (h.map (fun p => kl p.1))
section MG
variable {X : Nat × (Nat → Int32)} {I J : Nat → Nat → Int32} {L : Nat → Nat → Int64} {F H : Nat → Nat → UInt32} {Q : AQ} {nm : Nat → UInt32} {p : Int32 × Int32} {f h : FM}
theorem mr_apply (z : Full nm f (p :: h)) (h12 : p.1 ≠ 12) (h0 : p.2 = 0) (m : MR I F nm f (p :: h)) : p_X10_applies I F ∧ MR (fI_X10_applies I F) (fF_X10_applies I F) nm ((p.1, 0) :: f) h ∧ MIF I (fI_X10_applies I F) ∧ MFF F (fF_X10_applies I F) := by
  have a := full_pop z h12 h0
  have b := ap_ok a.2.1 m.2 m.1 a.2.2
  unfold MR
  rw [evalR_op a.2.1]
  exact ⟨b.1, ⟨b.2.1, b.2.2.1⟩, b.2.2.2⟩
theorem mr_top (m : MR I F nm f (p :: h)) : I 498 50 = nI (h.length + 1) ∧ h.length < 40 ∧ vp_in ((I 498 50) - 1) 48 ∧ I 539 (Int32.toNatClampNeg ((I 498 50) - 1)) = kl p.1 := by
  have e : I 498 50 = nI (h.length + 1) := by
    have := m.2.1
    simp only [List.map_cons, List.length_cons, List.length_map] at this
    exact this
  have l : h.length < 40 := by
    have := m.2.2.2
    simp only [List.map_cons, List.length_cons, List.length_map] at this
    omega
  have t := mtop m.2 m.1
  exact ⟨e, l, t.1, t.2.1⟩
theorem mr_nil (m : MR I F nm f []) : I 498 50 = 0 := m.2.1
theorem sp_closes : ∀ (h f : FM) (I : Nat → Nat → Int32) (F : Nat → Nat → UInt32), Full nm f h → MR I F nm f h → (∀ J H, MR J H nm (rSettle 3 h f).1 (rSettle 3 h f).2 → MIF I J → MFF F H → Q (.inl none) (G X J L H)) → WP mX10_closes 0 [some (.ref 498)] [] (G X I L F) 0 0 Q
  | [], f, I, F, z, m, q => by
    have e : I 498 50 = 0 := mr_nil m
    exact k_X10_closes_0 ⟨fun _ => q I F m MIF.refl MFF.refl, fun n => absurd (by rw [e]; decide) n⟩
  | p :: h, f, I, F, z, m, q => by
    obtain ⟨e, l, hin, top⟩ := mr_top m
    have hg := hk_neg p z.1.1
    refine k_X10_closes_0 ⟨fun n => absurd ((nI_le0 (n := h.length + 1) (by omega)).mp (by rw [← e]; exact n)) (by omega), fun _ => ⟨hin, ?_⟩⟩
    rw [top]
    unfold rSettle at q
    refine ⟨fun c => ?_, fun c => ?_⟩
    · have k6 := hg.2.1.mp c
      have s3 := hg.1.mpr k6
      rw [if_neg s3] at q
      have a := hk_str p z.1.1 (str_ge (s := 3) (by decide) s3)
      have b := mr_apply z a.1 a.2 m
      exact ⟨b.1, sp_closes h ((p.1, 0) :: f) _ _ (full_pop z a.1 a.2).1 b.2.1 (fun J H x y w => q J H x (b.2.2.1.trans y) (b.2.2.2.trans w))⟩
    · have s3 : f_X3_strengthOf p.1 < 3 := Classical.byContradiction fun n => c (hg.2.1.mpr (hg.1.mp n))
      rw [if_pos s3] at q
      exact q I F m MIF.refl MFF.refl
theorem wait01 {x2 t : Int32} : (if t = 42 then 1 else (if t = 47 then 1 else (if x2 = 0 then (if t = 43 then 1 else (if t = 45 then 1 else 0 : Int32) : Int32) else 0 : Int32) : Int32) : Int32) = 0 ∨ (if t = 42 then 1 else (if t = 47 then 1 else (if x2 = 0 then (if t = 43 then 1 else (if t = 45 then 1 else 0 : Int32) : Int32) else 0 : Int32) : Int32) : Int32) = 1 := by
  repeat' first | refine b01_ite ?_ ?_ | exact Or.inl rfl | exact Or.inr rfl
theorem waits_nil {x2 : Int32} (m : MR I F nm f []) : p_X10_waitsFor x2 I ∧ f_X10_waitsFor x2 I = 0 := by
  have e : I 498 50 = 0 := mr_nil m
  refine ⟨⟨fun n => absurd e n, wait01, trivial⟩, ?_⟩
  unfold f_X10_waitsFor
  rw [if_pos e, if_neg (show ¬ (40 : Int32) = 42 by decide), if_neg (show ¬ (40 : Int32) = 47 by decide), if_neg (show ¬ (40 : Int32) = 43 by decide), if_neg (show ¬ (40 : Int32) = 45 by decide)]
  split <;> rfl
theorem waits_top {x2 s : Int32} (hs : (x2 = 1 ∧ s = 2) ∨ (x2 = 0 ∧ s = 1)) (hk : p ∈ hkL) (h6 : p.1 ≠ 6) (m : MR I F nm f (p :: h)) : p_X10_waitsFor x2 I ∧ (f_X10_waitsFor x2 I = 0 ↔ f_X3_strengthOf p.1 < s) := by
  obtain ⟨e, l, hin, top⟩ := mr_top m
  have e0 : ¬ I 498 50 = 0 := fun n => absurd ((nI_eq (b := 0) (by omega) (by decide)).mp (e.symm.trans n)) (by omega)
  have w := hk_w2 p hk h6
  refine ⟨⟨fun _ => ⟨hin, trivial⟩, wait01, trivial⟩, ?_⟩
  unfold f_X10_waitsFor
  rw [if_neg e0, top]
  rcases hs with ⟨a, b⟩ | ⟨a, b⟩ <;> subst a b
  · by_cases c : f_X3_strengthOf p.1 < 2
    · have n1 : ¬ kl p.1 = 42 := fun n => (w.1.mpr (Or.inl n)) c
      have n2 : ¬ kl p.1 = 47 := fun n => (w.1.mpr (Or.inr n)) c
      rw [if_neg n1, if_neg n2, if_neg (by decide)]
      exact ⟨fun _ => c, fun _ => rfl⟩
    · rcases w.1.mp c with n | n
      · rw [if_pos n]; exact ⟨fun h => absurd h (by decide), fun h => absurd h c⟩
      · by_cases n1 : kl p.1 = 42
        · rw [if_pos n1]; exact ⟨fun h => absurd h (by decide), fun h => absurd h c⟩
        · rw [if_neg n1, if_pos n]; exact ⟨fun h => absurd h (by decide), fun h => absurd h c⟩
  · by_cases c : f_X3_strengthOf p.1 < 1
    · have n1 : ¬ kl p.1 = 42 := fun n => (w.2.mpr (Or.inl n)) c
      have n2 : ¬ kl p.1 = 47 := fun n => (w.2.mpr (Or.inr (Or.inl n))) c
      have n3 : ¬ kl p.1 = 43 := fun n => (w.2.mpr (Or.inr (Or.inr (Or.inl n)))) c
      have n4 : ¬ kl p.1 = 45 := fun n => (w.2.mpr (Or.inr (Or.inr (Or.inr n)))) c
      rw [if_neg n1, if_neg n2, if_pos rfl, if_neg n3, if_neg n4]
      exact ⟨fun _ => c, fun _ => rfl⟩
    · have g : ¬ (if kl p.1 = 42 then 1 else (if kl p.1 = 47 then 1 else (if (0 : Int32) = 0 then (if kl p.1 = 43 then 1 else (if kl p.1 = 45 then 1 else 0 : Int32) : Int32) else 0 : Int32) : Int32) : Int32) = 0 := by
        by_cases n1 : kl p.1 = 42
        · rw [if_pos n1]; decide
        rw [if_neg n1]
        by_cases n2 : kl p.1 = 47
        · rw [if_pos n2]; decide
        rw [if_neg n2, if_pos rfl]
        by_cases n3 : kl p.1 = 43
        · rw [if_pos n3]; decide
        rw [if_neg n3]
        rcases w.2.mp c with n | n | n | n
        · exact absurd n n1
        · exact absurd n n2
        · exact absurd n n3
        · rw [if_pos n]; decide
      exact ⟨fun h => absurd h g, fun h => absurd h c⟩
/-- what waits is worked out as far as the letter asks; then what the letter does -/
theorem sp_goes18 {ch x2 s : Int32} (hs : (x2 = 1 ∧ s = 2) ∨ (x2 = 0 ∧ s = 1)) : ∀ (h f : FM) (I : Nat → Nat → Int32) (F : Nat → Nat → UInt32), Full nm f h → NT h → MR I F nm f h →
    (∀ J H, MR J H nm (rSettle s h f).1 (rSettle s h f).2 → MIF I J → MFF F H → ((f_X10_isSign ch) = 0 → (ch = 44 → Q (.inl (some (.int 0))) (G X J L H)) ∧ (¬ ch = 44 → vp_in ((J 498 50) - 1) 48 ∧ (((¬ (J 539 (Int32.toNatClampNeg ((J 498 50) - 1))) = 40 → (p_X10_applies J H) ∧ (True))) ∧ (∀ I68 : Nat → Nat → Int32, I68 = (if (J 539 (Int32.toNatClampNeg ((J 498 50) - 1))) = 40 then (am_u J 498 50 ((J 498 50) - 1)) else (fI_X10_applies J H) : Nat → Nat → Int32) → ∀ F68 : Nat → Nat → UInt32, F68 = (if (J 539 (Int32.toNatClampNeg ((J 498 50) - 1))) = 40 then H else (fF_X10_applies J H) : Nat → Nat → UInt32) → (WP mX10_closes 0 (am_ent 1 [.ref 498]) [] (G X I68 L F68) 0 0 (am_kq mX10_goesOn 89 [some (.ref 498), some (.int ch), some (.int x2)] [] (0 + am_bc mX10_closes) (0 + am_bs mX10_closes) Q)))))) ∧ (¬ (f_X10_isSign ch) = 0 → (p_X10_waitsOn ch J) ∧ (Q (.inl (some (.int 0))) (G X (fI_X10_waitsOn ch J) L H)))) →
    WP mX10_goesOn 18 [some (.ref 498), some (.int ch), some (.int x2)] [] (G X I L F) 0 0 Q
  | [], f, I, F, z, t, m, q => by
    have w := waits_nil (x2 := x2) m
    exact k_X10_goesOn_18 ⟨w.1, fun _ => q I F m MIF.refl MFF.refl, fun n => absurd w.2 n⟩
  | p :: h, f, I, F, z, t, m, q => by
    have w := waits_top hs z.1.1 t m
    have s1 : 1 ≤ s := by rcases hs with ⟨a, b⟩ | ⟨a, b⟩ <;> rw [b] <;> decide
    have s3 : s ≤ 3 := by rcases hs with ⟨a, b⟩ | ⟨a, b⟩ <;> rw [b] <;> decide
    unfold rSettle at q
    refine k_X10_goesOn_18 ⟨w.1, fun c => ?_, fun c => ?_⟩
    · have d := w.2.mp c
      rw [if_pos d] at q
      exact q I F m MIF.refl MFF.refl
    · have d : ¬ f_X3_strengthOf p.1 < s := fun n => c (w.2.mpr n)
      rw [if_neg d] at q
      have a := hk_str p z.1.1 (str_ge s1 d)
      have b := mr_apply z a.1 a.2 m
      have nt : NT h := z.2.1.1 (hk_bin p z.1.1 (str_ge s1 d) t)
      exact ⟨b.1, sp_goes18 hs h ((p.1, 0) :: f) _ _ (full_pop z a.1 a.2).1 nt b.2.1 (fun J H x y w => q J H x (b.2.2.1.trans y) (b.2.2.2.trans w))⟩
end MG
