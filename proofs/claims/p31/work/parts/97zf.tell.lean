/-! own: texts typed, dams told, both sides -/
set_option maxRecDepth 100000
/-- a letter that a text may have -/
def isLb (c : Nat) : Bool := (Nat.ble 97 c && Nat.ble c 122) || (Nat.ble 48 c && Nat.ble c 57) || Nat.beq c 43 || Nat.beq c 45 || Nat.beq c 42 || Nat.beq c 47 || Nat.beq c 40 || Nat.beq c 41 || Nat.beq c 44 || Nat.beq c 46
def ixF (x4 : Int32) : Nat → Nat → Int32
  | 0, _ => -1
  | m + 1, j => if am_nt [43, 45, 42, 47, 40, 41, 44, 46] j 0 = x4 then nI j else ixF x4 m (j + 1)
def ixO (ch : Int32) : Int32 := if f_J1_canEncode_9a6ad ch = 0 then -1 else ixF (Int8.toInt32 (Int32.toInt8 ch)) 8 0
def ixR (ch : Int32) : Int32 := if ixO ch < 0 then 0 else 1
def cLt (ch : Int32) : Int32 := if ch < 97 then (if ch < 48 then ixR ch else (if ch ≤ 57 then 1 else ixR ch)) else (if ch ≤ 122 then 1 else (if ch < 48 then ixR ch else (if ch ≤ 57 then 1 else ixR ch)))
theorem cLt_lo : ∀ c, c < 256 → cLt (nI c) = if isLb c = true then 1 else 0 := by decide +kernel
theorem isLb_lo : ∀ c, c < 256 → isLb c = true → vp_nar .char (nI c) = nI c := by decide +kernel
section OC1
variable {X : Nat × (Nat × (Nat → Int32))} {I J : Nat → Nat → Int32} {L M : Nat → Nat → Int64} {F H : Nat → Nat → UInt32} {Q : AQ} {N T rc sc t n n2 d c : Nat} {s : AS} {p0 p1 p2 p3 : Int32}
theorem cLt_hi (h : 256 ≤ c) (hc : c < 65536) : cLt (nI c) = 0 := by
  have lt : ∀ k, k < 256 → ¬ nI c < nI k := fun k hk z => by have := (nI_ltI (by omega) (by omega)).mp z; omega
  have le : ∀ k, k < 256 → ¬ nI c ≤ nI k := fun k hk z => by have := (nI_leI (by omega) (by omega)).mp z; omega
  have gt : ∀ k, k < 256 → nI k < nI c := fun k hk => (nI_ltI (by omega) (by omega)).mpr (by omega)
  have e1 : ixR (nI c) = 0 := by
    unfold ixR ixO f_J1_canEncode_9a6ad
    rw [if_neg (nI_pos (by omega)), if_pos (show (255 : Int32) < nI c from gt 255 (by decide)), if_pos rfl]
    decide
  unfold cLt
  rw [if_neg (show ¬ nI c < (97 : Int32) from lt 97 (by decide)), if_neg (show ¬ nI c ≤ (122 : Int32) from le 122 (by decide)), if_neg (show ¬ nI c < (48 : Int32) from lt 48 (by decide)), if_neg (show ¬ nI c ≤ (57 : Int32) from le 57 (by decide)), e1]
theorem sp_ix {x1 x2 x4 : Int32} : ∀ (m j : Nat), j + m = 8 → Q (.inl (some (.int (ixF x4 m j)))) (G X I L F) → WP mJ1_indexOfChar_4cfef 7 [some (.ref 1000002), some (.int x1), some (.int x2), some (.int 8), some (.int x4), some (.int (nI j))] [] (G X I L F) 0 0 Q
  | 0, j, hj, q => by
    have e : j = 8 := by omega
    subst e
    exact k_J1_indexOfChar_4cfef_7 ⟨fun _ => q, fun n => absurd (by decide) n⟩
  | m + 1, j, hj, q => by
    refine k_J1_indexOfChar_4cfef_7 ⟨fun n => absurd ((nI_leI (a := 8) (by decide) (by omega)).mp n) (by omega), fun _ => ⟨nI_in (by omega) (by decide), ?_⟩⟩
    rw [nI_clamp (show j < 2 ^ 31 by omega), nI_1]
    have e : ixF x4 (m + 1) j = if am_nt [43, 45, 42, 47, 40, 41, 44, 46] j 0 = x4 then nI j else ixF x4 m (j + 1) := rfl
    rw [e] at q
    refine ⟨fun h => by rw [if_pos h] at q; exact q, fun h => ?_⟩
    rw [if_neg h] at q
    exact sp_ix m (j + 1) (by omega) q
theorem sp_idx {ch : Int32} (q : Q (.inl (some (.int (ixO ch)))) (G X I L F)) : WP mJ0_indexOf_0f7a4 0 (am_ent 2 [.ref 1000001, .int ch]) [] (G X I L F) 0 0 Q := by
  unfold ixO at q
  refine k_J0_indexOf_0f7a4_0 (k_J0_indexOf_7cf53_0 (k_J1_indexOf_4cfef_0 ?_))
  rw [show f_J9_max_7cf53 0 0 = 0 by decide, show f_J9_min_7cf53 f_J0_length_8abf5 8 = 8 by decide]
  refine ⟨fun a => k_J0_indexOf_7cf53_20 (k_J0_indexOf_0f7a4_6 (by rw [if_pos a] at q; exact q)), fun a => ⟨fun _ => ?_, fun b => absurd (by decide) b⟩⟩
  rw [if_neg a] at q
  exact k_J1_indexOfChar_4cfef_0 (sp_ix 8 0 rfl (k_J1_indexOf_4cfef_36 (k_J0_indexOf_7cf53_20 (k_J0_indexOf_0f7a4_6 q))))
theorem sp_mayHold {ch : Int32} (q : Q (.inl (some (.int (cLt ch)))) (G X I L F)) : WP mX1_mayHold 0 (am_ent 1 [.int ch]) [] (G X I L F) 0 0 Q := by
  have ix : Q (.inl (some (.int (ixR ch)))) (G X I L F) → WP mJ0_indexOf_0f7a4 0 (am_ent 2 [.ref 1000001, .int ch]) [] (G X I L F) 0 0 (am_kq mX1_mayHold 27 [some (.int ch)] [] (0 + am_bc mJ0_indexOf_0f7a4) (0 + am_bs mJ0_indexOf_0f7a4) Q) := fun q => sp_idx (k_X1_mayHold_30 (fun y ey => by
    have ey2 : y = ixR ch := ey
    rw [ey2]
    refine ⟨?_, q⟩
    unfold ixR
    split
    · exact Or.inl rfl
    · exact Or.inr rfl))
  unfold cLt at q
  refine k_X1_mayHold_0 ⟨fun a => ⟨fun b => ix ?_, fun b => ⟨fun c => ?_, fun c => ix ?_⟩⟩, fun a => ⟨fun b => ?_, fun b => ⟨fun c => ix ?_, fun c => ⟨fun d => ?_, fun d => ix ?_⟩⟩⟩⟩
  · rw [if_pos a, if_pos b] at q; exact q
  · rw [if_pos a, if_neg b, if_pos c] at q; exact q
  · rw [if_pos a, if_neg b, if_neg c] at q; exact q
  · rw [if_neg a, if_pos b] at q; exact q
  · rw [if_neg a, if_neg b, if_pos c] at q; exact q
  · rw [if_neg a, if_neg b, if_neg c, if_pos d] at q; exact q
  · rw [if_neg a, if_neg b, if_neg c, if_neg d] at q; exact q
theorem chr (x : Int32) : ∃ c, c < 65536 ∧ UInt32.toInt32 ((Int32.toUInt32 x) % 65536) = nI c := by
  refine ⟨((Int32.toUInt32 x) % 65536).toNat, ?_, ?_⟩
  · rw [UInt32.toNat_mod]
    exact Nat.mod_lt _ (by decide)
  · have h := UInt32.toInt32_ofNat' (n := ((Int32.toUInt32 x) % 65536).toNat)
    rw [UInt32.ofNat_toNat] at h
    exact h
/-- the text changes -/
theorem InvS.draft (z : InvS s T rc sc t n N I L F) (h : ∀ o k, ¬ (o = 1 ∧ k = 1) → o ≠ 2 → o ≠ 1000499 → ¬ (o = 1000498 ∧ (k = 0 ∨ k = 2)) → J o k = I o k) (dr : DrI J n2) : InvS s T rc sc t n2 N J L F := by
  obtain ⟨v, _, nw, rr, ⟨tl, hT⟩, da, si⟩ := z
  exact ⟨v.same (fun o k a b c => h o k (by omega) (by omega) (by omega) (by omega)) (h _ _ (by omega) (by omega) (by omega) (by omega)) (fun o a b _ _ _ => funext fun k => h o k (by omega) (by omega) (by omega) (by omega)) (fun _ _ _ _ _ => rfl) rfl, dr, nw.fr (h _ _ (by omega) (by omega) (by omega) (by omega)) (h _ _ (by omega) (by omega) (by omega) (by omega)), rr.fr (h _ _ (by omega) (by omega) (by omega) (by omega)) (h _ _ (by omega) (by omega) (by omega) (by omega)) (fun o k a b => h o k (by omega) (by omega) (by omega) (by omega)) (fun o x => funext fun k => h o k (by omega) (by omega) (by omega) (by omega)) (fun _ _ _ _ => rfl) rfl, ⟨tl.fr (h _ _ (by omega) (by omega) (by omega) (by omega)) (funext fun k => h _ k (by omega) (by omega) (by omega) (by omega)), hT⟩, da.fr (fun o k a b => h o k (by omega) (by omega) (by omega) (by omega)) (fun o k a b => h o k (by omega) (by omega) (by omega) (by omega)) (fun _ _ _ _ => rfl) (fun _ _ _ => rfl) (Nat.le_refl _), si.fr (h _ _ (by omega) (by omega) (by omega) (by omega)) (h _ _ (by omega) (by omega) (by omega) (by omega)) (fun o k a b => h o k (by omega) (by omega) (by omega) (by omega)) (fun o k a b => h o k (by omega) (by omega) (by omega) (by omega)) (Nat.le_refl _)⟩
/-- the class's reader read -/
theorem InvS.rd (z : InvS s T rc sc t n N I L F) (h : RdFr I J) : InvS s T rc sc t n N J L F :=
  z.quiet (z.1.same (fun o k a b c => h o k (by omega)) (h _ _ (by omega)) (fun o a b _ _ _ => funext fun k => h o k (by omega)) (fun _ _ _ _ _ => rfl) rfl) (fun o k x => h o k (by omega)) (fun _ _ _ => rfl)
/-- the model's reader read -/
theorem InvS.fr1 (z : InvS s T rc sc t n N I L F) (h : Fr1 1000500 I J) : InvS s T rc sc t n N J L F :=
  z.quiet (z.1.same (fun o k a b c => h o k (by omega)) (h _ _ (by omega)) (fun o a b _ _ _ => funext fun k => h o k (by omega)) (fun _ _ _ _ _ => rfl) rfl) (fun o k x => h o k (by omega)) (fun _ _ _ => rfl)
theorem DamS.frd (h1 : ∀ k, k ≠ 13 → J (423 + 5 * d) k = I (423 + 5 * d) k) (h0 : ∀ o k, 424 + 5 * d ≤ o → o ≤ 426 + 5 * d → J o k = I o k) (h2 : ∀ o, 1000517 ≤ o → o ≤ 1000529 → o ≠ 1000523 → J o d = I o d) (h3 : ∀ k, 40 * d ≤ k → k < 40 * d + 40 → J 1000523 k = I 1000523 k) (z : DamS I rc d) : DamS J rc d := by
  obtain ⟨a, b, c, e, f, g, h, i, j, k, l⟩ := z
  unfold DamS
  rw [h1 2 (by decide), h1 3 (by decide), h1 4 (by decide), h1 6 (by decide), h1 7 (by decide), h1 8 (by decide), h1 9 (by decide), h1 10 (by decide), h1 11 (by decide), h2 1000517 (by decide) (by decide) (by decide), h2 1000518 (by decide) (by decide) (by decide), h2 1000519 (by decide) (by decide) (by decide), h2 1000521 (by decide) (by decide) (by decide), h2 1000522 (by decide) (by decide) (by decide), h2 1000524 (by decide) (by decide) (by decide), h2 1000526 (by decide) (by decide) (by decide), h2 1000527 (by decide) (by decide) (by decide), h2 1000528 (by decide) (by decide) (by decide), h2 1000529 (by decide) (by decide) (by decide)]
  refine ⟨a, b, c, fun n => ?_, f, g, h, i, j, k, l⟩
  obtain ⟨l, z1, z2, z3, z4⟩ := e n
  have es : seg (J 1000523) (40 * d) l = seg (I 1000523) (40 * d) l := seg_cong l (40 * d) (40 * d) (fun k hk => h3 _ (by omega) (by omega))
  exact ⟨l, z1, z2, by rw [es]; exact z3, by rw [es]; exact FC_fr (fun x y h => h0 x y (by omega) (by omega)) z4⟩
/-- one dam changes, but for what the hours change -/
theorem InvS.damc (z : InvS s T rc sc t n N I L F) (hd : d < 3) (h : ∀ o k, ¬ (423 + 5 * d ≤ o ∧ o ≤ 426 + 5 * d) → ¬ (3 ≤ o ∧ o ≤ 8) → ¬ (1000517 ≤ o ∧ o ≤ 1000529 ∧ o ≠ 1000523 ∧ k = d) → ¬ (o = 1000523 ∧ 40 * d ≤ k ∧ k < 40 * d + 40) → ¬ (o = 1000498 ∧ k = 0) → o ≠ 1000500 → J o k = I o k) (h13 : J (423 + 5 * d) 13 = I (423 + 5 * d) 13) (ds : DamS J rc d) : InvS s T rc sc t n N J L F := by
  obtain ⟨v, dr, nw, rr, ⟨tl, hT⟩, da, si⟩ := z
  refine ⟨v.same (fun o k a b c => h o k (by omega) (by omega) (by omega) (by omega) (by omega) (by omega)) (h _ _ (by omega) (by omega) (by omega) (by omega) (by omega) (by omega)) (fun o a b _ _ _ => funext fun k => h o k (by omega) (by omega) (by omega) (by omega) (by omega) (by omega)) (fun _ _ _ _ _ => rfl) rfl, dr.fr (fun k => h _ _ (by omega) (by omega) (by omega) (by omega) (by omega) (by omega)) (fun k => h _ _ (by omega) (by omega) (by omega) (by omega) (by omega) (by omega)) (h _ _ (by omega) (by omega) (by omega) (by omega) (by omega) (by omega)) (fun k => h _ _ (by omega) (by omega) (by omega) (by omega) (by omega) (by omega)), nw.fr (h _ _ (by omega) (by omega) (by omega) (by omega) (by omega) (by omega)) (h _ _ (by omega) (by omega) (by omega) (by omega) (by omega) (by omega)), rr.fr (h _ _ (by omega) (by omega) (by omega) (by omega) (by omega) (by omega)) (h _ _ (by omega) (by omega) (by omega) (by omega) (by omega) (by omega)) (fun o k a b => h o k (by omega) (by omega) (by omega) (by omega) (by omega) (by omega)) (fun o x => funext fun k => h o k (by omega) (by omega) (by omega) (by omega) (by omega) (by omega)) (fun _ _ _ _ => rfl) rfl, ⟨tl.fr (h _ _ (by omega) (by omega) (by omega) (by omega) (by omega) (by omega)) (funext fun k => h _ k (by omega) (by omega) (by omega) (by omega) (by omega) (by omega)), hT⟩, fun e he => ?_, si.fr (h _ _ (by omega) (by omega) (by omega) (by omega) (by omega) (by omega)) (h _ _ (by omega) (by omega) (by omega) (by omega) (by omega) (by omega)) (fun o k a b => h o k (by omega) (by omega) (by omega) (by omega) (by omega) (by omega)) (fun o k a b => h o k (by omega) (by omega) (by omega) (by omega) (by omega) (by omega)) (Nat.le_refl _)⟩
  obtain ⟨a, ⟨b1, b2, b3, b4⟩, c⟩ := da e he
  have j531 : J 1000531 e = I 1000531 e := h _ _ (by omega) (by omega) (by omega) (by omega) (by omega) (by omega)
  by_cases ed : e = d
  · subst ed
    exact ⟨ds, ⟨b1, b2, by rw [h13, j531]; exact b3, b4⟩, c⟩
  · refine ⟨a.frd (fun k _ => h _ k (by omega) (by omega) (by omega) (by omega) (by omega) (by omega)) (fun o k x y => h o k (by omega) (by omega) (by omega) (by omega) (by omega) (by omega)) (fun o x y w => h o e (by omega) (by omega) (by omega) (by omega) (by omega) (by omega)) (fun k x y => h _ k (by omega) (by omega) (by omega) (by omega) (by omega) (by omega)), ⟨b1, b2, ?_, b4⟩, c⟩
    rw [h _ 13 (by omega) (by omega) (by omega) (by omega) (by omega) (by omega), j531]; exact b3
theorem nar_b : vp_nar .boolean 1 = 1 := by decide
end OC1
