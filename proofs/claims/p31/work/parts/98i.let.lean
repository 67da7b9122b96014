/-! own: letters whatever they are -/
set_option maxRecDepth 100000
def ltN (w : Nat) : Nat := if w < 8 then 103 + 2 * w else if w < 12 then 40 + w else if w < 15 then 40 else if w < 18 then 41 else if w = 18 then 44 else if w = 19 then 46 else if w = 20 then 43 else if w = 21 then 42 else if w = 22 then 47 else 45
def ltX (w : Int32) : Int32 := (if 8 ≤ w then (if 12 ≤ w then (if 15 ≤ w then (if 18 ≤ w then (if w = 18 then 44 else (if w = 19 then 46 else (if w = 20 then 43 else (if w = 21 then 42 else (if w = 22 then 47 else 45 : Int32) : Int32) : Int32) : Int32) : Int32) else 41 : Int32) else 40 : Int32) else ((48 + w) - 8) : Int32) else (103 + (w * 2)) : Int32)
theorem lt_ok : ∀ w, w < 24 → ltX (nI w) = nI (ltN w) ∧ ltN w < 256 ∧ isLb (ltN w) = true := by decide +kernel
theorem endv_or {n : Nat} {r : RS} : rEndv n r = -1 ∨ rEndv n r = nI n := by
  unfold rEndv
  split
  · split
    · exact Or.inl rfl
    · exact Or.inr rfl
  · exact Or.inr rfl
/-- a fault stays, or is the end -/
theorem follows_1 {rule ch : Int32} {l : List Int32} (h : l.length < 100) : f_L_follows (rFault rule l) (rFault rule (l ++ [ch])) (nI (l.length + 1)) = 1 := by
  have pr : nI (l.length + 1) - 1 = nI l.length := nI_pred _
  have fin : ∀ y : Int32, y = -1 ∨ y = nI (l.length + 1) ∨ y = nI l.length → (if y = (-1) then (1 : Int32) else (if y = nI (l.length + 1) then 1 else (if y = (nI (l.length + 1) - 1) then 1 else 0))) = 1 := fun y hy => by
    rw [pr]
    rcases hy with e | e | e
    · rw [if_pos e]
    · split
      · rfl
      · rfl
    · split
      · rfl
      · split
        · rfl
        · rfl
  have len : (l ++ [ch]).length = l.length + 1 := by rw [List.length_append]; rfl
  cases hr : rRun rule l 0 r0 with
  | inl k =>
    have lk := rRun_lt hr
    have e1 : rFault rule l = nI k := by unfold rFault; rw [hr]
    have e2 : rFault rule (l ++ [ch]) = nI k := by unfold rFault; rw [run_app, hr]
    rw [e1, e2]
    unfold f_L_follows
    rw [if_neg (nI_pos (by omega)), pr, if_neg (fun z => by have := (nI_leI (by omega) (by omega)).mp z; omega), if_pos rfl]
  | inr R =>
    have e1 : rFault rule l = rEndv l.length R := by unfold rFault; rw [hr]
    have e2 : rFault rule (l ++ [ch]) = -1 ∨ rFault rule (l ++ [ch]) = nI (l.length + 1) ∨ rFault rule (l ++ [ch]) = nI l.length := by
      cases hs : rStep rule ch R with
      | none =>
        right; right
        unfold rFault
        rw [run_app, hr]
        show (match (match rStep rule ch R with | none => Sum.inl (0 + l.length) | some r2 => .inr r2) with | .inl k => nI k | .inr r => rEndv (l ++ [ch]).length r) = _
        rw [hs, Nat.zero_add]
      | some r2 =>
        have e : rFault rule (l ++ [ch]) = rEndv (l ++ [ch]).length r2 := by
          unfold rFault
          rw [run_app, hr]
          show (match (match rStep rule ch R with | none => Sum.inl (0 + l.length) | some r2 => .inr r2) with | .inl k => nI k | .inr r => rEndv (l ++ [ch]).length r) = _
          rw [hs]
        rw [e, len]
        rcases endv_or (n := l.length + 1) (r := r2) with x | x
        · exact Or.inl x
        · exact Or.inr (Or.inl x)
    rw [e1]
    unfold f_L_follows
    rcases endv_or (n := l.length) (r := R) with x | x
    · rw [x, if_pos (show (-1 : Int32) < 0 by decide)]
      exact fin _ e2
    · rw [x, if_neg (nI_pos (by omega)), pr, if_pos (Int32.le_refl _), ← pr]
      exact fin _ e2
section LLE
variable {X : Nat × (Nat × (Nat → Int32))} {L : Nat → Nat → Int64} {F : Nat → Nat → UInt32} {Q : AQ} {N T rc sc t m n b : Nat} {s : AS}
theorem sp_le26 {x1 : Int32} (hX : X.1 ≤ 400000) (hb : b < 2 ^ 31) (q : ∀ n2 J, Al s T rc sc t n2 N J L F → Q (.inl (some (.int 1))) (G X J L F)) :
    ∀ (m k : Nat) (I : Nat → Nat → Int32) (a : Nat) (d7 d8 d9 d10 : Option Value) (c0 s0 : Nat), k + m = 1 + b % 12 → Al s T rc sc t k N I L F → a < 60013 → c0 ≤ k → s0 ≤ 6 * k →
      WP mL_letters 26 [some (.ref 0), some (.int x1), some (.int (nI b)), some (.int 1), some (.int (nI a)), some (.int (nI k)), some (.int (nI k)), d7, d8, d9, d10] [] (G X I L F) c0 s0 Q
  | m, k, I, a, d7, d8, d9, d10, c0, s0, hk, iv, ha, hc, hs => by
    have l12 := Nat.mod_lt b (show 0 < 12 by decide)
    have one : ¬ (1 : Int32) = 0 := by decide
    have er : (1 : Int32) + (nI b - nI b / 12 * 12) = nI (1 + b % 12) := by
      rw [show nI b - nI b / 12 * 12 = nI (b % 12) from rem_n (d := 12) hb (by decide) (by decide)]
      exact nI_add 1 _
    refine k_L_letters_26 ?_
    rw [er]
    cases m with
    | zero => exact ⟨fun _ => ⟨Or.inr rfl, q _ _ iv⟩, fun h => absurd ((nI_leI (by omega) (by omega)).mpr (by omega)) h⟩
    | succ m =>
      refine ⟨fun h => absurd ((nI_leI (by omega) (by omega)).mp h) (by omega), fun _ => ⟨fun h => absurd h one, fun _ => ?_⟩⟩
      have el : (nI a * 37 + 5) - (nI a * 37 + 5) / 60013 * 60013 = nI ((a * 37 + 5) % 60013) := by
        have e : nI a * 37 + 5 = nI (a * 37 + 5) := by
          rw [show (37 : Int32) = nI 37 from rfl, show (5 : Int32) = nI 5 from rfl, nI_mul, nI_add]
        rw [e]
        exact rem_n (d := 60013) (by omega) (by decide) (by decide)
      have lb := Nat.mod_lt (a * 37 + 5) (show 0 < 60013 by decide)
      generalize hb2 : (a * 37 + 5) % 60013 = b2 at el lb
      have dw : nI b2 / 3 = nI (b2 / 3) := pk_div (d := 3) (by omega) (by decide) (by decide)
      have r24 : nI (b2 / 3) - nI (b2 / 3) / 24 * 24 = nI (b2 / 3 % 24) := rem_n (d := 24) (by omega) (by decide) (by decide)
      have lw := Nat.mod_lt (b2 / 3) (show 0 < 24 by decide)
      rw [el, dw, r24]
      generalize b2 / 3 % 24 = w at lw
      obtain ⟨o1, o2, o3⟩ := lt_ok w lw
      intro y ey
      have ey2 : y = nI (ltN w) := ey.trans o1
      subst ey2
      clear ey
      refine ⟨by omega, z_fault iv (Or.inl rfl) (fun J1 a1 f1 e1 => k_L_letters_190 ⟨by omega, z_fault a1 (Or.inr rfl) (fun J2 a2 f2 e2 => k_L_letters_197 ⟨by omega, ?_⟩)⟩)⟩
      rw [chr_n _ o2]
      refine z_type hX a2 (by omega) o2 o3 (fun J3 a3 f3 g3 e3 => k_L_letters_209 ⟨fun _ => ⟨by omega, ?_⟩, fun h => absurd (by rw [nI_1]) h⟩)
      rw [nI_1]
      have sI : seg (J1 2) 0 k = seg (I 2) 0 k := seg_cong k 0 0 (fun j _ => e1 _)
      have s3 : seg (J3 2) 0 (k + 1) = seg (I 2) 0 k ++ [nI (ltN w)] := by
        rw [seg_snoc (g := I 2) k 0 (fun j hj => by rw [Nat.zero_add, g3 j hj, e2, e1]), Nat.zero_add, e3]
      have fl : ∀ rule, f_L_follows (rFault rule (seg (I 2) 0 k)) (rFault rule (seg (J3 2) 0 (k + 1))) (nI (k + 1)) = 1 := fun rule => by
        have h := follows_1 (rule := rule) (ch := nI (ltN w)) (l := seg (I 2) 0 k) (by rw [seg_len]; omega)
        rw [seg_len] at h
        rw [s3]; exact h
      refine z_fault a3 (Or.inl rfl) (fun J4 a4 f4 e4 => k_L_letters_221 ⟨by omega, fun h => absurd h (by rw [fl 0]; exact one), fun _ => ⟨by omega, ?_⟩⟩)
      have s4 : seg (J4 2) 0 (k + 1) = seg (J3 2) 0 (k + 1) := seg_cong (k + 1) 0 0 (fun j _ => e4 _)
      refine z_fault a4 (Or.inr rfl) (fun J5 a5 f5 e5 => k_L_letters_236 ⟨by omega, fun v ev => ?_⟩)
      have ev2 : v = 1 := by
        rw [ev, s4, sI, fl 1, if_neg one]
      rw [ev2, nI_1]
      exact sp_le26 hX hb q m (k + 1) J5 b2 _ _ _ _ _ _ (by omega) a5 lb (by omega) (by omega)
theorem sp_letters {I : Nat → Nat → Int32} {a : Nat} (hX : X.1 ≤ 400000) (ha : a < 2 ^ 31) (hb : b < 2 ^ 31) (iv : Al s T rc sc t n N I L F) (q : ∀ n2 J, Al s T rc sc t n2 N J L F → Q (.inl (some (.int 1))) (G X J L F)) : WP mL_letters 0 (am_ent 11 [.ref 0, .int (nI a), .int (nI b)]) [] (G X I L F) 0 0 Q := by
  obtain ⟨J, ge, fe, a1, f1⟩ := wipe_al hX iv
  have n40 := iv.1.2.1.1
  refine k_L_letters_0 (fun y ey => ?_)
  rw [fe, if_neg (nI_pos (by omega))] at ey
  rw [ey, ge, show nI a - nI a / 60000 * 60000 = nI (a % 60000) from rem_n (d := 60000) ha (by decide) (by decide)]
  exact sp_le26 hX hb q (1 + b % 12) 0 J (a % 60000) _ _ _ _ 0 0 (by omega) a1 (by have := Nat.mod_lt a (show 0 < 60000 by decide); omega) (by decide) (by decide)
end LLE
