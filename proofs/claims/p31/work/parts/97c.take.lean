/-! own: a text is taken and all bound anew, in the class -/
set_option maxRecDepth 100000
section TK
variable {X : Nat × (Nat × (Nat → Int32))} {I J K : Nat → Nat → Int32} {L M : Nat → Nat → Int64} {F : Nat → Nat → UInt32} {Q : AQ} {c m k : Nat} {s zf : AS} {t : List Int32} {o p : Nat}
theorem isM9 (hm : m < 6) : f_X9_isModel (nI m) = 1 := by
  unfold f_X9_isModel
  rw [if_neg (fun n => by have := (nI_ltI (a := m) (b := 0) (by omega) (by decide)).mp n; omega), if_neg (fun n => by have := (nI_leI (a := 6) (b := m) (by decide) (by omega)).mp n; omega)]
/-- a text is shelved, in the class -/
theorem sp_shelve (ho : isFor o) (o4 : o = 4 ∨ (20 ≤ o ∧ o + 2 < 19 + 6 * aC s)) (w : WA s) (hc : aC s < 60) (hm : m < 6) (tx : Txt 0 t) (z : CA I L s) (fc : FC I o (rForm 0 t)) (hn : ∀ j, j < 6 → ib (msk 0 t) j = true → aL s j ≠ -1) (q : ∀ K M, CA K M (entA m t s) → ShF (aC s) I K → LhF (aC s) L M → Q (.inl (some (.int (nI (aC s))))) (G X K M F)) : WP mX6_shelve 0 (am_ent 6 [.ref 9, .int (nI m), .ref o]) [] (G X I L F) 0 0 Q := by
  have eM : rM (rForm 0 t) = msk 0 t := mask_txt (Or.inl rfl) tx
  have eA : rA (rForm 0 t) = msk 1 t := mask_txt (Or.inr rfl) tx
  refine k_X6_shelve_0 ho ?_
  rw [z.1, nI_clamp (show aC s < 2 ^ 31 by omega), isM9 hm]
  refine ⟨fun n => absurd n (nI_pos (by omega)), fun _ => ⟨fun n => absurd ((nI_leI (a := 60) (by decide) (by omega)).mp n) (by omega), fun _ => ⟨fun n => absurd n (by decide), fun _ => ?_⟩⟩⟩
  have vf : isFor (19 + 6 * aC s + 1) := (gi_verN hc).2.2.2.2.1
  refine sp_copy vf ho (by omega) (fun J cp => k_X6_shelve_51 ho (gi_verN hc) ?_)
  have fr1 : ∀ a b, ¬ (19 + 6 * aC s ≤ a ∧ a ≤ 19 + 6 * aC s + 3) → J a b = I a b := fun a b n => by
    rw [cp.2.2 a b (by omega), am_u_ne (Or.inl (by omega))]
  have ver : ∀ b, J (19 + 6 * aC s) b = am_u I (19 + 6 * aC s) 3 (nI m) (19 + 6 * aC s) b := fun b => cp.2.2 _ b (by omega)
  have fcJ : FC J (19 + 6 * aC s + 1) (rForm 0 t) := cp.fc tx (fc.fr (fun a b h1 h2 => am_u_ne (Or.inl (by omega))))
  have sJ : ShF (aC s) I J := by
    refine ⟨fun a b n1 n2 n3 => fr1 a b (by omega), fun v => ?_⟩
    by_cases vc : v = aC s
    · rw [vc, ver, am_u_ne (Or.inr (by decide))]
    · exact fr1 _ _ (by omega)
  have e94 : am_u J (19 + 6 * aC s) 4 (J o 4) 9 4 = nI (aC s) := by rw [am_u_ne (Or.inl (by omega)), fr1 _ _ (by omega)]; exact z.1
  refine sp_sh72 ho o4 w hc hm z hn q 6 0 _ _ _ rfl ⟨sJ.wr (by omega), fun a b n => am_u_ne (Or.inl (by omega)), e94, fun k => ?_, ?_, fcJ.fr (fun a b h1 h2 => am_u_ne (Or.inl (by omega))), ?_, fun k hk => absurd hk (by omega), fun g => ?_, fun x => ?_⟩
  · rw [am_u_ne (Or.inl (by omega))]; exact fr1 _ _ (by omega)
  · rw [am_u_ne (Or.inl (by omega)), fr1 _ _ (by omega), fc.2.2.1, eM]
  · rw [am_u_ne (Or.inr (by decide)), ver, am_u_eq]
  · rw [am_u_eq, fr1 _ _ (by omega), fc.2.2.2, eA]
    exact ⟨Or.inl, fun h => h.elim id (fun ⟨k, u, h1, _⟩ => absurd h1 (by omega))⟩
  · rw [am_u_eq, e94, l_oneN hc, decide_eq_true_iff]
    exact ⟨Or.inl, fun h => h.elim id (fun ⟨k, u, h1, _⟩ => absurd h1 (by omega))⟩
theorem pin_v (z : CA I L s) (hc : aC s ≤ 60) {v j : Nat} (hv : v < aC s) (hj : j < 6) : f_X6_pinOf (nI v) (nI j) I = aP s v j := by
  unfold f_X6_pinOf
  rw [has_lt hc z.1 hv, if_neg (show ¬ (1 : Int32) = 0 by decide), isM9 hj, if_neg (show ¬ (1 : Int32) = 0 by decide), nI_clamp (by omega), nI_clamp (by omega)]
  exact (z.2.1 v hv).2.1 j hj
theorem pin_m1 {x : Int32} : f_X6_pinOf (-1) x I = -1 := by
  unfold f_X6_pinOf
  rw [has_m1, if_pos rfl]
theorem sp_po2 {v : Nat} (w : WA s) (z : CA I L s) (hv : v < aC s) (ev : aL s k = nI v) (q : ∀ b : Bool, (b = true ↔ stA s k) → Q (.inl (some (.int (if b = true then 1 else 0)))) (G X I L F)) : ∀ (n j : Nat) (d3 : Option Value), j + n = 6 → (∀ i, i < j → aP s v i ≠ -1 → aP s v i = aL s i) →
    WP mX6_pinsOld 2 [some (.ref 9), some (.int (nI v)), some (.int (nI j)), d3] [] (G X I L F) 0 0 Q
  | 0, j, d3, hj, h => by
    have e : j = 6 := by omega
    subst e
    refine k_X6_pinsOld_2 ⟨fun _ => q false ⟨fun n => (by cases n), fun st => ?_⟩, fun n => absurd (by decide) n⟩
    obtain ⟨i, hi, h1, h2⟩ := (stA_v w.1 hv ev).mp st
    exact absurd (h i hi h1) h2
  | n + 1, j, d3, hj, h => by
    refine k_X6_pinsOld_2 ⟨fun z => absurd ((nI_leI (a := 6) (by decide) (by omega)).mp z) (by omega), fun _ => ?_⟩
    rw [pin_v z w.1 hv (by omega), lat_v (by omega), z.2.2 j (by omega), nI_1]
    have go : (aP s v j ≠ -1 → aP s v j = aL s j) → ∀ d3, WP mX6_pinsOld 2 [some (.ref 9), some (.int (nI v)), some (.int (nI (j + 1))), d3] [] (G X I L F) 0 0 Q := fun hj2 d3 =>
      sp_po2 w z hv ev q n (j + 1) d3 (by omega) (fun i hi => by
        by_cases e : i = j
        · rw [e]; exact hj2
        · exact h i (by omega))
    exact ⟨fun e => go (fun n => absurd e n) _, fun e => ⟨fun e2 => go (fun _ => e2) _, fun e2 => q true ⟨fun _ => (stA_v w.1 hv ev).mpr ⟨j, by omega, e, e2⟩, fun _ => rfl⟩⟩⟩
theorem sp_pom {j0 : Nat} (q : Q (.inl (some (.int 0))) (G X I L F)) : ∀ (n j : Nat) (d3 : Option Value), j + n = 6 → WP mX6_pinsOld 2 [some (.ref 9), some (.int (-1)), some (.int (nI j)), d3] [] (G X I L F) 0 0 Q
  | 0, j, d3, hj => by
    have e : j = 6 := by omega
    subst e
    exact k_X6_pinsOld_2 ⟨fun _ => q, fun n => absurd (by decide) n⟩
  | n + 1, j, d3, hj => by
    refine k_X6_pinsOld_2 ⟨fun z => absurd ((nI_leI (a := 6) (by decide) (by omega)).mp z) (by omega), fun _ => ?_⟩
    rw [pin_m1, nI_1]
    exact ⟨fun _ => sp_pom (j0 := j0) q n (j + 1) _ (by omega), fun n => absurd rfl n⟩
/-- whether a model's latest version pins old ones, in the class -/
theorem sp_pinsOld (w : WA s) (z : CA I L s) (hk : k < 6) (q : ∀ b : Bool, (b = true ↔ stA s k) → Q (.inl (some (.int (if b = true then 1 else 0)))) (G X I L F)) : WP mX6_pinsOld 0 (am_ent 4 [.ref 9, .int (aL s k)]) [] (G X I L F) 0 0 Q := by
  refine k_X6_pinsOld_0 ?_
  by_cases e : aL s k = -1
  · rw [e]
    refine sp_pom (j0 := 0) (q false ⟨fun n => (by cases n), fun ⟨v, hv, ev, _⟩ => ?_⟩) 6 0 none rfl
    have hc := w.1
    exact absurd (ev.symm.trans e) (nI_m1 (by omega))
  · obtain ⟨v, hv, ev, _⟩ := lat_lt w hk e
    rw [ev]
    exact sp_po2 w z hv ev q 6 0 none rfl (fun i hi => absurd hi (by omega))
theorem nb_v (w : WA s) (z : CA I L s) (hk : k < 6) : NB I k = aN s k := by
  unfold NB f_X6_namedBy aN
  rw [lat_v hk, z.2.2 k hk]
  by_cases e : aL s k = -1
  · rw [e, has_m1, if_pos rfl, if_pos rfl]
  · obtain ⟨v, hv, ev, e2⟩ := lat_lt w hk e
    rw [if_neg e, e2, ev, has_lt w.1 z.1 hv, if_neg (show ¬ (1 : Int32) = 0 by decide)]
    rw [((z.2.1 v hv).1).2.2.1]
    exact mask_txt (Or.inl rfl) (w.2.1 v hv).1
/-- what the class finds to bind anew -/
def FndC (s : AS) (x : Int32) : Prop := (x = -1 ∧ ∀ i, i < 6 → ¬ Cand s i) ∨ ∃ k, k < 6 ∧ x = aL s k ∧ NxA s k
theorem sp_nb40 (w : WA s) (z : CA I L s) {f : Nat → Bool} (hf : ∀ k, k < 6 → (f k = true ↔ stA s k)) (q : ∀ x, FndC s x → Q (.inl (some (.int x))) (G X I L F)) : ∀ (n j : Nat), j + n = 6 → (∀ i, i < j → ¬ Cand s i) →
    WP mX6_nextToBind 40 [some (.ref 9), some (.int (mB f 6)), some (.int (nI j))] [] (G X I L F) 0 0 Q
  | 0, j, hj, h => by
    have e : j = 6 := by omega
    subst e
    exact k_X6_nextToBind_40 ⟨fun _ => q (-1) (Or.inl ⟨rfl, h⟩), fun n => absurd (by decide) n⟩
  | n + 1, j, hj, h => by
    refine k_X6_nextToBind_40 ⟨fun z => absurd ((nI_leI (a := 6) (by decide) (by omega)).mp z) (by omega), fun _ => ?_⟩
    rw [i_test (show j < 32 by omega), ib_mB 6 (by omega), decide_eq_true (show j < 6 by omega), Bool.true_and]
    have go : ¬ Cand s j → WP mX6_nextToBind 40 [some (.ref 9), some (.int (mB f 6)), some (.int (nI j + 1))] [] (G X I L F) 0 0 Q := fun nc => by
      rw [nI_1]
      exact sp_nb40 w z hf q n (j + 1) (by omega) (fun i hi => by
        by_cases e : i = j
        · rw [e]; exact nc
        · exact h i (by omega))
    refine ⟨fun e => go (fun cd => ?_), fun e => sp_under (fun U hU => k_X6_nextToBind_59 ⟨fun e2 => ?_, fun e2 => go (fun cd => e2 ?_)⟩)⟩
    · rw [if_pos ((hf j (by omega)).mpr cd.1)] at e
      exact absurd e (by decide)
    · have fj : f j = true := by
        by_cases c : f j = true
        · exact c
        · exact absurd (if_neg c) e
      rw [lat_v (by omega), z.2.2 j (by omega)]
      refine q _ (Or.inr ⟨j, by omega, rfl, ⟨(hf j (by omega)).mp fj, fun i hi st rt => ?_⟩, h⟩)
      have b : ib (U &&& mB f 6) i = true := by
        rw [ib_and, ib_mB 6 (by omega), decide_eq_true hi, (hf i hi).mpr st, (hU i hi).mpr ((RT_congr (fun x hx => nb_v w z hx) (by omega)).mpr rt)]
        rfl
      rw [e2, ib_0] at b
      cases b
    · refine ib_ext (fun i _ => ?_)
      rw [ib_and, ib_mB 6 (by omega), ib_0]
      by_cases i6 : i < 6
      · cases e3 : ib U i
        · rfl
        · cases e4 : f i
          · rw [Bool.and_false, Bool.and_false]
          · exact absurd ((RT_congr (fun x hx => nb_v w z hx) (by omega)).mp ((hU i i6).mp e3)) (cd.2 i i6 ((hf i i6).mp e4))
      · rw [decide_eq_false i6, Bool.false_and, Bool.and_false]
theorem sp_nb4 (w : WA s) (z : CA I L s) {f : Nat → Bool} (hf : ∀ k, k < 6 → (f k = true ↔ stA s k)) (q : ∀ x, FndC s x → Q (.inl (some (.int x))) (G X I L F)) : ∀ (n j : Nat), j + n = 6 →
    WP mX6_nextToBind 4 [some (.ref 9), some (.int (mB f j)), some (.int (nI j))] [] (G X I L F) 0 0 Q
  | 0, j, hj => by
    have e : j = 6 := by omega
    subst e
    exact k_X6_nextToBind_4 ⟨fun _ => sp_nb40 w z hf q 6 0 rfl (fun i hi => absurd hi (by omega)), fun n => absurd (by decide) n⟩
  | n + 1, j, hj => by
    refine k_X6_nextToBind_4 ⟨fun z => absurd ((nI_leI (a := 6) (by decide) (by omega)).mp z) (by omega), fun _ => ?_⟩
    rw [lat_v (by omega), z.2.2 j (by omega)]
    refine sp_pinsOld w z (by omega) (fun b hb => k_X6_nextToBind_20 (fun x ex => ?_))
    have e : x = if f j = true then (1 : Int32) <<< (nI j &&& 31) else 0 := by
      rw [ex]
      have bf : b = f j := Bool.eq_iff_iff.mpr (hb.trans (hf j (by omega)).symm)
      rw [bf]
      cases f j <;> rfl
    rw [e, nI_1]
    exact sp_nb4 w z hf q n (j + 1) (by omega)
/-- the next version to be bound anew, in the class -/
theorem sp_nextToBind (w : WA s) (z : CA I L s) (q : ∀ x, FndC s x → Q (.inl (some (.int x))) (G X I L F)) : WP mX6_nextToBind 0 (am_ent 3 [.ref 9]) [] (G X I L F) 0 0 Q :=
  k_X6_nextToBind_0 (sp_nb4 w z (f := fun k => @decide (stA s k) (Classical.propDecidable _)) (fun k _ => @decide_eq_true_iff _ (Classical.propDecidable _)) q 6 0 rfl)
end TK
