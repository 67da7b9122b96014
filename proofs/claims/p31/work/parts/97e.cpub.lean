/-! own: publish and retire of the class -/
set_option maxRecDepth 100000
section CP
variable {X : Nat × (Nat × (Nat → Int32))} {I J K : Nat → Nat → Int32} {L M : Nat → Nat → Int64} {F : Nat → Nat → UInt32} {Q : AQ} {c m k : Nat} {s zf : AS} {t : List Int32} {f lat : Nat → Bool}
theorem bind_det : ∀ {n n2 : Nat} {s a b : AS}, BindR n s a → BindR n2 s b → a = b
  | 0, 0, s, a, b, h, h2 => h.2.2.trans h2.2.2.symm
  | 0, n2 + 1, s, a, b, h, h2 => by
    obtain ⟨_, none, _⟩ := h
    obtain ⟨_, k, hk, nx, _⟩ := h2
    exact absurd nx.1 (none k hk)
  | n + 1, 0, s, a, b, h, h2 => by
    obtain ⟨_, none, _⟩ := h2
    obtain ⟨_, k, hk, nx, _⟩ := h
    exact absurd nx.1 (none k hk)
  | n + 1, n2 + 1, s, a, b, h, h2 => by
    obtain ⟨_, k, hk, nx, b1⟩ := h
    obtain ⟨_, k2, hk2, nx2, b2⟩ := h2
    have e := nxA_one nx nx2
    subst e
    exact bind_det b1 b2
theorem CA.cong (h : ∀ o k, 8 < o → J o k = I o k) (h2 : ∀ o k, 8 < o → M o k = L o k) (z : CA I L s) : CA J M s := by
  refine ⟨(h 9 4 (by decide)).trans z.1, fun v hv => ?_, fun k hk => (h 14 k (by decide)).trans (z.2.2 k hk)⟩
  obtain ⟨a, b, d, e, f⟩ := z.2.1 v hv
  refine ⟨a.fr (fun x y h1 _ => h x y (by omega)), fun k hk => (h _ k (by omega)).trans (b k hk), (h _ 3 (by omega)).trans d, fun g => ?_, fun x => ?_⟩
  · rw [h _ 4 (by omega), e g]
    exact or_congr Iff.rfl ⟨fun ⟨k, u, h1, h2, h3, h4⟩ => ⟨k, u, h1, h2, h3, by rw [h _ 4 (by omega)]; exact h4⟩, fun ⟨k, u, h1, h2, h3, h4⟩ => ⟨k, u, h1, h2, h3, by rw [h _ 4 (by omega)] at h4; exact h4⟩⟩
  · rw [h2 _ 5 (by omega), f x]
    exact or_congr Iff.rfl ⟨fun ⟨k, u, h1, h3, h5, h4⟩ => ⟨k, u, h1, h3, h5, by rw [h2 _ 5 (by omega)]; exact h4⟩, fun ⟨k, u, h1, h3, h5, h4⟩ => ⟨k, u, h1, h3, h5, by rw [h2 _ 5 (by omega)] at h4; exact h4⟩⟩
theorem Rd.fc {r : RS} {rule : Int32} (z : Rd I rule r) : FC I 4 r := ⟨z.2.2.1, z.2.2.2.1, z.2.2.2.2.2.2.2.2.1, z.2.2.2.2.2.2.2.2.2⟩
/-- the class publishes -/
theorem sp_cpublish {l : Nat} (w : WA s) (fr : Frsh s) (z : CA I L s) (hl : l ≤ 40) (e1 : I 1 1 = nI l) (hm : m < 6) (hla : ∀ k, k < 6 → (lat k = true ↔ aL s k ≠ -1)) (hf : ∀ k, k < 6 → (f k = true ↔ RT (aN s) k m))
    (q1 : ¬ Txt 0 (seg (I 2) 0 l) → ∀ J, RdFr I J → Q (.inr 1) (G X J L F))
    (q2 : Txt 0 (seg (I 2) 0 l) → ¬ (cnB (msk 0 (seg (I 2) 0 l)) lat f m 6 = true ∧ aC s + 1 + cntB f 6 ≤ 60) → ∀ J, RdFr I J → Q (.inr 2) (G X J L F))
    (q3 : Txt 0 (seg (I 2) 0 l) → cnB (msk 0 (seg (I 2) 0 l)) lat f m 6 = true → aC s + 1 + cntB f 6 ≤ 60 → ∀ n zf, n ≤ 5 → BindR n (entA m (seg (I 2) 0 l) s) zf → WA zf → Frsh zf → aC zf = aC s + 1 + n → ∀ J K M, RdFr I J → ShF (aC s) J K → LhF (aC s) L M → CA K M zf → Q (.inl (some (.int (nI (aC s))))) (G X K M F)) :
    WP mX9_publish 0 (am_ent 2 [.ref 0, .int (nI m)]) [] (G X I L F) 0 0 Q := by
  have hc := w.1
  have slen : (seg (I 2) 0 l).length ≤ 40 := by rw [seg_len]; exact hl
  refine k_X9_publish_0 ⟨fun n => absurd n (by rw [isM9 hm]; decide), fun _ => sp_read e1 hl (Or.inl rfl) (fun J rf hrd => k_X9_publish_29 ⟨fun e => ?_, fun e => ?_⟩)⟩
  · have tx := (txt_fault slen).mp e
    have rd := hrd e
    have fc := rd.fc
    have zJ : CA J L s := z.cong (fun o k h => rf o k (Or.inr h)) (fun _ _ _ => rfl)
    have eM : J 4 3 = msk 0 (seg (I 2) 0 l) := fc.2.2.1.trans (mask_txt (Or.inl rfl) tx)
    refine sp_mayTake (lat := lat) (f := f) isFor_4 hm hc zJ.1 (fun k hk => by rw [zJ.2.2 k hk]; exact hla k hk) (fun k hk => (hf k hk).trans (RT_congr (fun x hx => (nb_v w zJ hx).symm) hk)) (fun b hb => k_X9_publish_58 ?_)
    rw [eM] at hb
    cases b
    · exact ⟨fun _ => q2 tx (fun n => by have := hb.mpr n; cases this) J rf, fun n => absurd rfl n⟩
    · obtain ⟨cn, le⟩ := hb.mp rfl
      obtain ⟨w1, n, zf, h1, h2, h3, h4, h5⟩ := publish_ex w fr hm tx hla hf cn le
      have := h3.1
      exact ⟨fun n => absurd n (by decide), fun _ => sp_take isFor_4 (Or.inl rfl) w hm tx zJ fc h2 h1 (by omega) (fun K M zK sK lK => k_X9_publish_86 (q3 tx cn le n zf h1 h2 h3 h4 h5 J K M rf sK lK zK))⟩
  · exact q1 (fun tx => e ((txt_fault slen).mpr tx)) J rf
theorem mB_0 : mB f 6 = 0 ↔ ∀ k, k < 6 → f k = false := by
  constructor
  · intro h k hk
    have z := ib_mB (f := f) 6 (by omega) k
    rw [h, ib_0, decide_eq_true hk, Bool.true_and] at z
    exact z.symm
  · intro h
    refine ib_ext (fun k _ => ?_)
    rw [ib_mB 6 (by omega), ib_0]
    by_cases hk : k < 6
    · rw [h k hk, Bool.and_false]
    · rw [decide_eq_false hk, Bool.false_and]
/-- the class retires -/
theorem sp_cretire (w : WA s) (z : CA I L s) (hm : m < 6) (hf : ∀ k, k < 6 → (f k = true ↔ RT (aN s) k m))
    (q1 : (aL s m = -1 ∨ ∃ k, k < 6 ∧ f k = true) → Q (.inr 2) (G X I L F))
    (q2 : aL s m ≠ -1 → (∀ k, k < 6 → f k = false) → CA (am_u I 14 m (-1)) L (retA m s) → Q (.inl (some (.int (aL s m)))) (G X (am_u I 14 m (-1)) L F)) :
    WP mX9_retire 0 (am_ent 2 [.ref 0, .int (nI m)]) [] (G X I L F) 0 0 Q := by
  refine k_X9_retire_0 ⟨fun n => absurd n (by rw [isM9 hm]; decide), fun _ => ?_⟩
  rw [lat_v hm, z.2.2 m hm]
  refine ⟨fun e => q1 (Or.inl e), fun e => sp_modelsOn (f := f) hm (fun k hk => (hf k hk).trans (RT_congr (fun x hx => (nb_v w z hx).symm) hk)) (k_X9_retire_37 ⟨fun e0 => ?_, fun e0 => ?_⟩)⟩
  · unfold f_X6_giveUp fI_X6_giveUp
    rw [lat_v hm, z.2.2 m hm, isM9 hm, if_neg (show ¬ (1 : Int32) = 0 by decide), nI_clamp (show m < 2 ^ 31 by omega)]
    refine q2 e (mB_0.mp e0) ⟨(am_u_ne (Or.inl (by decide))).trans z.1, fun v hv => ?_, fun k hk => ?_⟩
    · obtain ⟨a, b, d, e, f⟩ := z.2.1 v hv
      have ne : ∀ o k, 19 ≤ o → am_u I 14 m (-1) o k = I o k := fun o k h => am_u_ne (Or.inl (by omega))
      refine ⟨a.fr (fun x y h1 _ => ne x y (by omega)), fun k hk => (ne _ k (by omega)).trans (b k hk), (ne _ 3 (by omega)).trans d, fun g => ?_, f⟩
      rw [ne _ 4 (by omega), e g]
      exact or_congr Iff.rfl ⟨fun ⟨k, u, h1, h2, h3, h4⟩ => ⟨k, u, h1, h2, h3, by rw [ne _ 4 (by omega)]; exact h4⟩, fun ⟨k, u, h1, h2, h3, h4⟩ => ⟨k, u, h1, h2, h3, by rw [ne _ 4 (by omega)] at h4; exact h4⟩⟩
    · show _ = if k = m then -1 else aL s k
      by_cases km : k = m
      · rw [if_pos km, km, am_u_eq]
      · rw [if_neg km, am_u_ne (Or.inr km)]; exact z.2.2 k hk
  · refine q1 (Or.inr ?_)
    by_cases h : ∃ k, k < 6 ∧ f k = true
    · exact h
    · exact absurd (mB_0.mpr (fun k hk => Bool.eq_false_iff.mpr (fun n => h ⟨k, hk, n⟩))) e0
end CP
