/-! own: each call of the law, written by a program -/
set_option maxRecDepth 100000
/-- the loop goes on with the next call -/
def NxT (X : Nat × (Nat → Int32)) (Q : AQ) (x4 : Int32) (N c s : Nat) : Prop := ∀ I L F d5 d6 c2 s2, Inv (N + 1) I L F → c2 ≤ c + 1 → s2 ≤ s + 6 → WP mL_law 23 [some (.ref 1000000), some (.ref 0), some (.ref 498), some (.ref 540), some (.int (x4 + 5)), d5, d6] [] (G X I L F) c2 s2 Q
section LW
variable {X : Nat × (Nat → Int32)} {I J : Nat → Nat → Int32} {L M : Nat → Nat → Int64} {F H : Nat → Nat → UInt32} {Q : AQ} {N c s : Nat} {x4 : Int32} {d5 d6 : Option Value}
theorem lg_self {y : Int64} : lg_cmp (am_u M 540 0 y 540 0) y = 0 := by
  rw [am_u_eq]
  unfold lg_cmp
  rw [if_neg (show ¬ y > y from Int64.lt_irrefl), if_pos rfl]
theorem in01 : vp_in 0 1 := nI_in (c := 0) (N := 1) (by decide) (by decide)
theorem bud {c s : Nat} (hc : c ≤ 600000) (hs : s ≤ 7000000) {a b : Nat} (ha : a ≤ 100) (hb : b ≤ 100) : c + a ≤ am_bc mL_law ∧ s + b ≤ am_bs mL_law := ⟨by show c + a ≤ 601024; omega, by show s + b ≤ 7293034; omega⟩
theorem lw_type (hc : c < 600000) (hs : s + 6 ≤ 7000000) (v1 : vp_in (x4 + 1) X.1) (iv : Inv N I L F) (nx : NxT X Q x4 N c s) : vp_in (x4 + 1) X.1 ∧ ((c + am_bc mL_type ≤ am_bc mL_law ∧ s + am_bs mL_type ≤ am_bs mL_law) ∧ (WP mL_type 0 (am_ent 4 [.ref 0, .int (UInt32.toInt32 ((Int32.toUInt32 (X.2 (Int32.toNatClampNeg (x4 + 1)))) % 65536)), .ref 540]) [] (G X I L F) 0 0 (am_kq mL_law 173 [some (.ref 1000000), some (.ref 0), some (.ref 498), some (.ref 540), some (.int x4), d5, d6] [] (c + am_bc mL_type) (s + am_bs mL_type) Q))) := by
  refine ⟨v1, bud (by omega) (by omega) (by decide) (by decide), k_L_type_0 (op_type iv (chr _) _ (fun v J M H an => k_L_type_7 ⟨in01, ?_⟩) (fun e J M H he an => ?_))⟩
  · exact k_L_law_176 ⟨v1, bud (c := c + 1) (s := s + 6) (by omega) (by omega) (by decide) (by decide), an _ _ (fun K H2 iv2 k0 => k_L_law_189 ⟨bud (c := c + 1) (s := s + 6) (by omega) (by omega) (by decide) (by decide), s_X10_thrown (k_L_law_195 ⟨fun _ => ⟨fun _ => ⟨fun _ => nx _ _ _ _ _ _ _ iv2 (by show c + 1 + 0 + 0 ≤ c + 1; omega) (by show s + 6 + 0 + 0 ≤ s + 6; omega), fun n => absurd lg_self n⟩, fun n => absurd rfl n⟩, fun n => absurd k0 n⟩)⟩)⟩
  · have ee : e = 1 ∨ e = 2 := by
      unfold plB at he
      by_cases h : e = 1
      · exact Or.inl h
      · rw [if_neg h] at he
        by_cases h2 : e = 2
        · exact Or.inr h2
        · rw [if_neg h2] at he; exact absurd rfl he
    rcases ee with ee | ee
    · subst ee
      exact ⟨_, rfl, trivial, k_L_type_13 (k_L_law_176 ⟨v1, bud (c := c + 1) (s := s + 6) (by omega) (by omega) (by decide) (by decide), an _ (fun b K H2 iv2 k0 => k_L_law_189 ⟨bud (c := c + 1) (s := s + 6) (by omega) (by omega) (by decide) (by decide), s_X10_thrown (k_L_law_195 ⟨fun _ => ⟨fun z => absurd z (by decide), fun _ => nx _ _ _ _ _ _ _ iv2 (by show c + 1 + 0 + 0 ≤ c + 1; omega) (by show s + 6 + 0 + 0 ≤ s + 6; omega)⟩, fun n => absurd k0 n⟩)⟩)⟩)⟩
    · subst ee
      exact ⟨_, rfl, trivial, k_L_type_16 (k_L_law_176 ⟨v1, bud (c := c + 1) (s := s + 6) (by omega) (by omega) (by decide) (by decide), an _ (fun b K H2 iv2 k0 => k_L_law_189 ⟨bud (c := c + 1) (s := s + 6) (by omega) (by omega) (by decide) (by decide), s_X10_thrown (k_L_law_195 ⟨fun _ => ⟨fun z => absurd z (by decide), fun _ => nx _ _ _ _ _ _ _ iv2 (by show c + 1 + 0 + 0 ≤ c + 1; omega) (by show s + 6 + 0 + 0 ≤ s + 6; omega)⟩, fun n => absurd k0 n⟩)⟩)⟩)⟩
theorem lw_wipe (hc : c ≤ 600000) (hs : s ≤ 7000000) (iv : Inv N I L F) (nx : NxT X Q x4 N c s) : (c + am_bc mX9_wipe ≤ am_bc mL_law ∧ s + am_bs mX9_wipe ≤ am_bs mL_law) ∧ (WP mX9_wipe 0 (am_ent 1 [.ref 0]) [] (G X I L F) 0 0 (am_kq mL_law 223 [some (.ref 1000000), some (.ref 0), some (.ref 498), some (.ref 540), some (.int x4), d5, d6] [] (c + am_bc mX9_wipe) (s + am_bs mX9_wipe) Q)) := by
  refine ⟨bud hc hs (by decide) (by decide), op_wipe iv _ (fun v J M H an => k_L_law_226 ⟨bud (c := c) (s := s) hc hs (by decide) (by decide), an _ (fun K H2 iv2 => k_L_law_230 ⟨fun _ => nx _ _ _ _ _ _ _ iv2 (by show c + 0 + 0 ≤ c + 1; omega) (by show s + 0 + 0 ≤ s + 6; omega), fun n => absurd rfl n⟩)⟩)⟩
theorem lw_fault (hc : c ≤ 600000) (hs : s ≤ 7000000) (v1 : vp_in (x4 + 1) X.1) (iv : Inv N I L F) (nx : NxT X Q x4 N c s) : vp_in (x4 + 1) X.1 ∧ (∀ w : Int32, w = (if (X.2 (Int32.toNatClampNeg (x4 + 1))) = 0 then 0 else 1 : Int32) → ((c + am_bc mX9_fault ≤ am_bc mL_law ∧ s + am_bs mX9_fault ≤ am_bs mL_law) ∧ (WP mX9_fault 0 (am_ent 2 [.ref 0, .int w]) [] (G X I L F) 0 0 (am_kq mL_law 250 [some (.ref 1000000), some (.ref 0), some (.ref 498), some (.ref 540), some (.int x4), d5, d6] [] (c + am_bc mX9_fault) (s + am_bs mX9_fault) Q)))) := by
  refine ⟨v1, fun w ew => ⟨bud hc hs (by decide) (by decide), op_fault iv (by rw [ew]; split; exact Or.inl rfl; exact Or.inr rfl) _ (fun v J M H an => k_L_law_253 ⟨v1, fun w2 ew2 => ?_⟩)⟩⟩
  rw [ew2, ← ew]
  exact ⟨bud (c := c) (s := s) hc hs (by decide) (by decide), an _ (fun K H2 iv2 => k_L_law_271 ⟨fun _ => nx _ _ _ _ _ _ _ iv2 (by show c + 0 + 0 ≤ c + 1; omega) (by show s + 0 + 0 ≤ s + 6; omega), fun n => absurd rfl n⟩)⟩
theorem lw_publish (hc : c < 600000) (hs : s + 6 ≤ 7000000) (v1 : vp_in (x4 + 1) X.1) (iv : Inv N I L F) (nx : NxT X Q x4 N c s) : vp_in (x4 + 1) X.1 ∧ ((c + am_bc mL_publish ≤ am_bc mL_law ∧ s + am_bs mL_publish ≤ am_bs mL_law) ∧ (WP mL_publish 0 (am_ent 4 [.ref 0, .int (X.2 (Int32.toNatClampNeg (x4 + 1))), .ref 540]) [] (G X I L F) 0 0 (am_kq mL_law 284 [some (.ref 1000000), some (.ref 0), some (.ref 498), some (.ref 540), some (.int x4), d5, d6] [] (c + am_bc mL_publish) (s + am_bs mL_publish) Q))) := by
  refine ⟨v1, bud (by omega) (by omega) (by decide) (by decide), k_L_publish_0 (op_publish iv _ (fun v J M H an => k_L_publish_7 ⟨in01, ?_⟩) (fun e J M H he an => ?_))⟩
  · exact k_L_law_287 ⟨v1, bud (c := c + 1) (s := s + 6) (by omega) (by omega) (by decide) (by decide), an _ _ (fun K H2 iv2 k0 => k_L_law_299 ⟨bud (c := c + 1) (s := s + 6) (by omega) (by omega) (by decide) (by decide), s_X10_thrown (k_L_law_305 ⟨fun _ => ⟨fun _ => ⟨fun _ => nx _ _ _ _ _ _ _ iv2 (by show c + 1 + 0 + 0 ≤ c + 1; omega) (by show s + 6 + 0 + 0 ≤ s + 6; omega), fun n => absurd lg_self n⟩, fun n => absurd rfl n⟩, fun n => absurd k0 n⟩)⟩)⟩
  · have ee : e = 0 ∨ e = 1 ∨ e = 2 := by
      unfold plC at he
      by_cases h : e < 3
      · omega
      · rw [if_neg h] at he; exact absurd rfl he
    rcases ee with ee | ee | ee
    · subst ee
      exact ⟨_, rfl, trivial, k_L_publish_13 (k_L_law_287 ⟨v1, bud (c := c + 1) (s := s + 6) (by omega) (by omega) (by decide) (by decide), an _ (fun b K H2 iv2 k0 => k_L_law_299 ⟨bud (c := c + 1) (s := s + 6) (by omega) (by omega) (by decide) (by decide), s_X10_thrown (k_L_law_305 ⟨fun _ => ⟨fun z => absurd z (by decide), fun _ => nx _ _ _ _ _ _ _ iv2 (by show c + 1 + 0 + 0 ≤ c + 1; omega) (by show s + 6 + 0 + 0 ≤ s + 6; omega)⟩, fun n => absurd k0 n⟩)⟩)⟩)⟩
    · subst ee
      exact ⟨_, rfl, trivial, k_L_publish_16 (k_L_law_287 ⟨v1, bud (c := c + 1) (s := s + 6) (by omega) (by omega) (by decide) (by decide), an _ (fun b K H2 iv2 k0 => k_L_law_299 ⟨bud (c := c + 1) (s := s + 6) (by omega) (by omega) (by decide) (by decide), s_X10_thrown (k_L_law_305 ⟨fun _ => ⟨fun z => absurd z (by decide), fun _ => nx _ _ _ _ _ _ _ iv2 (by show c + 1 + 0 + 0 ≤ c + 1; omega) (by show s + 6 + 0 + 0 ≤ s + 6; omega)⟩, fun n => absurd k0 n⟩)⟩)⟩)⟩
    · subst ee
      exact ⟨_, rfl, trivial, k_L_publish_19 (k_L_law_287 ⟨v1, bud (c := c + 1) (s := s + 6) (by omega) (by omega) (by decide) (by decide), an _ (fun b K H2 iv2 k0 => k_L_law_299 ⟨bud (c := c + 1) (s := s + 6) (by omega) (by omega) (by decide) (by decide), s_X10_thrown (k_L_law_305 ⟨fun _ => ⟨fun z => absurd z (by decide), fun _ => nx _ _ _ _ _ _ _ iv2 (by show c + 1 + 0 + 0 ≤ c + 1; omega) (by show s + 6 + 0 + 0 ≤ s + 6; omega)⟩, fun n => absurd k0 n⟩)⟩)⟩)⟩
theorem lw_retire (hc : c < 600000) (hs : s + 6 ≤ 7000000) (v1 : vp_in (x4 + 1) X.1) (iv : Inv N I L F) (nx : NxT X Q x4 N c s) : vp_in (x4 + 1) X.1 ∧ ((c + am_bc mL_retire ≤ am_bc mL_law ∧ s + am_bs mL_retire ≤ am_bs mL_law) ∧ (WP mL_retire 0 (am_ent 4 [.ref 0, .int (X.2 (Int32.toNatClampNeg (x4 + 1))), .ref 540]) [] (G X I L F) 0 0 (am_kq mL_law 340 [some (.ref 1000000), some (.ref 0), some (.ref 498), some (.ref 540), some (.int x4), d5, d6] [] (c + am_bc mL_retire) (s + am_bs mL_retire) Q))) := by
  refine ⟨v1, bud (by omega) (by omega) (by decide) (by decide), k_L_retire_0 (op_retire iv _ (fun v J M H an => k_L_retire_7 ⟨in01, ?_⟩) (fun e J M H he an => ?_))⟩
  · exact k_L_law_343 ⟨v1, bud (c := c + 1) (s := s + 6) (by omega) (by omega) (by decide) (by decide), an _ _ (fun K H2 iv2 k0 => k_L_law_355 ⟨bud (c := c + 1) (s := s + 6) (by omega) (by omega) (by decide) (by decide), s_X10_thrown (k_L_law_361 ⟨fun _ => ⟨fun _ => ⟨fun _ => nx _ _ _ _ _ _ _ iv2 (by show c + 1 + 0 + 0 ≤ c + 1; omega) (by show s + 6 + 0 + 0 ≤ s + 6; omega), fun n => absurd lg_self n⟩, fun n => absurd rfl n⟩, fun n => absurd k0 n⟩)⟩)⟩
  · have ee : e = 0 ∨ e = 2 := by
      unfold plD at he
      by_cases h : e = 0
      · exact Or.inl h
      · rw [if_neg h] at he
        by_cases h2 : e = 2
        · exact Or.inr h2
        · rw [if_neg h2] at he; exact absurd rfl he
    rcases ee with ee | ee
    · subst ee
      exact ⟨_, rfl, trivial, k_L_retire_13 (k_L_law_343 ⟨v1, bud (c := c + 1) (s := s + 6) (by omega) (by omega) (by decide) (by decide), an _ (fun b K H2 iv2 k0 => k_L_law_355 ⟨bud (c := c + 1) (s := s + 6) (by omega) (by omega) (by decide) (by decide), s_X10_thrown (k_L_law_361 ⟨fun _ => ⟨fun z => absurd z (by decide), fun _ => nx _ _ _ _ _ _ _ iv2 (by show c + 1 + 0 + 0 ≤ c + 1; omega) (by show s + 6 + 0 + 0 ≤ s + 6; omega)⟩, fun n => absurd k0 n⟩)⟩)⟩)⟩
    · subst ee
      exact ⟨_, rfl, trivial, k_L_retire_16 (k_L_law_343 ⟨v1, bud (c := c + 1) (s := s + 6) (by omega) (by omega) (by decide) (by decide), an _ (fun b K H2 iv2 k0 => k_L_law_355 ⟨bud (c := c + 1) (s := s + 6) (by omega) (by omega) (by decide) (by decide), s_X10_thrown (k_L_law_361 ⟨fun _ => ⟨fun z => absurd z (by decide), fun _ => nx _ _ _ _ _ _ _ iv2 (by show c + 1 + 0 + 0 ≤ c + 1; omega) (by show s + 6 + 0 + 0 ≤ s + 6; omega)⟩, fun n => absurd k0 n⟩)⟩)⟩)⟩
theorem lw_latest (hc : c < 600000) (hs : s + 6 ≤ 7000000) (v1 : vp_in (x4 + 1) X.1) (iv : Inv N I L F) (nx : NxT X Q x4 N c s) : vp_in (x4 + 1) X.1 ∧ ((c + am_bc mL_latest ≤ am_bc mL_law ∧ s + am_bs mL_latest ≤ am_bs mL_law) ∧ (WP mL_latest 0 (am_ent 4 [.ref 0, .int (X.2 (Int32.toNatClampNeg (x4 + 1))), .ref 540]) [] (G X I L F) 0 0 (am_kq mL_law 396 [some (.ref 1000000), some (.ref 0), some (.ref 498), some (.ref 540), some (.int x4), d5, d6] [] (c + am_bc mL_latest) (s + am_bs mL_latest) Q))) := by
  refine ⟨v1, bud (by omega) (by omega) (by decide) (by decide), k_L_latest_0 (op_latest iv _ (fun v J M H an => k_L_latest_7 ⟨in01, ?_⟩) (fun e J M H he an => ?_))⟩
  · exact k_L_law_399 ⟨v1, bud (c := c + 1) (s := s + 6) (by omega) (by omega) (by decide) (by decide), an _ _ (fun K H2 iv2 k0 => k_L_law_411 ⟨bud (c := c + 1) (s := s + 6) (by omega) (by omega) (by decide) (by decide), s_X10_thrown (k_L_law_417 ⟨fun _ => ⟨fun _ => ⟨fun _ => nx _ _ _ _ _ _ _ iv2 (by show c + 1 + 0 + 0 ≤ c + 1; omega) (by show s + 6 + 0 + 0 ≤ s + 6; omega), fun n => absurd lg_self n⟩, fun n => absurd rfl n⟩, fun n => absurd k0 n⟩)⟩)⟩
  · have ee : e = 0 := by
      unfold plA at he
      by_cases h : e = 0
      · exact h
      · rw [if_neg h] at he; exact absurd rfl he
    subst ee
    exact ⟨_, rfl, trivial, k_L_latest_13 (k_L_law_399 ⟨v1, bud (c := c + 1) (s := s + 6) (by omega) (by omega) (by decide) (by decide), an _ (fun b K H2 iv2 k0 => k_L_law_411 ⟨bud (c := c + 1) (s := s + 6) (by omega) (by omega) (by decide) (by decide), s_X10_thrown (k_L_law_417 ⟨fun _ => ⟨fun z => absurd z (by decide), fun _ => nx _ _ _ _ _ _ _ iv2 (by show c + 1 + 0 + 0 ≤ c + 1; omega) (by show s + 6 + 0 + 0 ≤ s + 6; omega)⟩, fun n => absurd k0 n⟩)⟩)⟩)⟩
theorem lw_pin (hc : c < 600000) (hs : s + 6 ≤ 7000000) (v1 : vp_in (x4 + 1) X.1) (v2 : vp_in (x4 + 2) X.1) (iv : Inv N I L F) (nx : NxT X Q x4 N c s) : vp_in (x4 + 1) X.1 ∧ (vp_in (x4 + 2) X.1 ∧ ((c + am_bc mL_pin ≤ am_bc mL_law ∧ s + am_bs mL_pin ≤ am_bs mL_law) ∧ (WP mL_pin 0 (am_ent 5 [.ref 0, .int (X.2 (Int32.toNatClampNeg (x4 + 1))), .int (X.2 (Int32.toNatClampNeg (x4 + 2))), .ref 540]) [] (G X I L F) 0 0 (am_kq mL_law 458 [some (.ref 1000000), some (.ref 0), some (.ref 498), some (.ref 540), some (.int x4), d5, d6] [] (c + am_bc mL_pin) (s + am_bs mL_pin) Q)))) := by
  refine ⟨v1, v2, bud (by omega) (by omega) (by decide) (by decide), k_L_pin_0 (op_pin iv _ (fun v J M H an => k_L_pin_8 ⟨in01, ?_⟩) (fun e J M H he an => ?_))⟩
  · exact k_L_law_461 ⟨v1, v2, bud (c := c + 1) (s := s + 6) (by omega) (by omega) (by decide) (by decide), an _ _ (fun K H2 iv2 k0 => k_L_law_479 ⟨bud (c := c + 1) (s := s + 6) (by omega) (by omega) (by decide) (by decide), s_X10_thrown (k_L_law_485 ⟨fun _ => ⟨fun _ => ⟨fun _ => nx _ _ _ _ _ _ _ iv2 (by show c + 1 + 0 + 0 ≤ c + 1; omega) (by show s + 6 + 0 + 0 ≤ s + 6; omega), fun n => absurd lg_self n⟩, fun n => absurd rfl n⟩, fun n => absurd k0 n⟩)⟩)⟩
  · have ee : e = 0 := by
      unfold plA at he
      by_cases h : e = 0
      · exact h
      · rw [if_neg h] at he; exact absurd rfl he
    subst ee
    exact ⟨_, rfl, trivial, k_L_pin_15 (k_L_law_461 ⟨v1, v2, bud (c := c + 1) (s := s + 6) (by omega) (by omega) (by decide) (by decide), an _ (fun b K H2 iv2 k0 => k_L_law_479 ⟨bud (c := c + 1) (s := s + 6) (by omega) (by omega) (by decide) (by decide), s_X10_thrown (k_L_law_485 ⟨fun _ => ⟨fun z => absurd z (by decide), fun _ => nx _ _ _ _ _ _ _ iv2 (by show c + 1 + 0 + 0 ≤ c + 1; omega) (by show s + 6 + 0 + 0 ≤ s + 6; omega)⟩, fun n => absurd k0 n⟩)⟩)⟩)⟩
theorem lw_rain (hc : c < 600000) (hs : s + 6 ≤ 7000000) (hN : N < 1000000) (v1 : vp_in (x4 + 1) X.1) (v2 : vp_in (x4 + 2) X.1) (v3 : vp_in (x4 + 3) X.1) (iv : Inv N I L F) (nx : NxT X Q x4 N c s) : vp_in (x4 + 1) X.1 ∧ (vp_in (x4 + 2) X.1 ∧ (vp_in (x4 + 3) X.1 ∧ ((c + am_bc mL_rain ≤ am_bc mL_law ∧ s + am_bs mL_rain ≤ am_bs mL_law) ∧ (WP mL_rain 0 (am_ent 6 [.ref 0, .int (X.2 (Int32.toNatClampNeg (x4 + 1))), .int (X.2 (Int32.toNatClampNeg (x4 + 2))), .int (X.2 (Int32.toNatClampNeg (x4 + 3))), .ref 540]) [] (G X I L F) 0 0 (am_kq mL_law 532 [some (.ref 1000000), some (.ref 0), some (.ref 498), some (.ref 540), some (.int x4), d5, d6] [] (c + am_bc mL_rain) (s + am_bs mL_rain) Q))))) := by
  refine ⟨v1, v2, v3, bud (by omega) (by omega) (by decide) (by decide), k_L_rain_0 (op_rain hN iv _ (fun v J M H an => k_L_rain_10 ⟨in01, ?_⟩) (fun e J M H he an => ?_))⟩
  · exact k_L_law_535 ⟨v1, v2, v3, bud (c := c + 1) (s := s + 6) (by omega) (by omega) (by decide) (by decide), an _ _ (fun K H2 iv2 k0 => k_L_law_559 ⟨bud (c := c + 1) (s := s + 6) (by omega) (by omega) (by decide) (by decide), s_X10_thrown (k_L_law_565 ⟨fun _ => ⟨fun _ => ⟨fun _ => nx _ _ _ _ _ _ _ iv2 (by show c + 1 + 0 + 0 ≤ c + 1; omega) (by show s + 6 + 0 + 0 ≤ s + 6; omega), fun n => absurd lg_self n⟩, fun n => absurd rfl n⟩, fun n => absurd k0 n⟩)⟩)⟩
  · have ee : e = 0 ∨ e = 1 := by
      unfold plE at he
      by_cases h : e = 0
      · exact Or.inl h
      · rw [if_neg h] at he
        by_cases h2 : e = 1
        · exact Or.inr h2
        · rw [if_neg h2] at he; exact absurd rfl he
    rcases ee with ee | ee
    · subst ee
      exact ⟨_, rfl, trivial, k_L_rain_17 (k_L_law_535 ⟨v1, v2, v3, bud (c := c + 1) (s := s + 6) (by omega) (by omega) (by decide) (by decide), an _ (fun b K H2 iv2 k0 => k_L_law_559 ⟨bud (c := c + 1) (s := s + 6) (by omega) (by omega) (by decide) (by decide), s_X10_thrown (k_L_law_565 ⟨fun _ => ⟨fun z => absurd z (by decide), fun _ => nx _ _ _ _ _ _ _ iv2 (by show c + 1 + 0 + 0 ≤ c + 1; omega) (by show s + 6 + 0 + 0 ≤ s + 6; omega)⟩, fun n => absurd k0 n⟩)⟩)⟩)⟩
    · subst ee
      exact ⟨_, rfl, trivial, k_L_rain_21 (k_L_law_535 ⟨v1, v2, v3, bud (c := c + 1) (s := s + 6) (by omega) (by omega) (by decide) (by decide), an _ (fun b K H2 iv2 k0 => k_L_law_559 ⟨bud (c := c + 1) (s := s + 6) (by omega) (by omega) (by decide) (by decide), s_X10_thrown (k_L_law_565 ⟨fun _ => ⟨fun z => absurd z (by decide), fun _ => nx _ _ _ _ _ _ _ iv2 (by show c + 1 + 0 + 0 ≤ c + 1; omega) (by show s + 6 + 0 + 0 ≤ s + 6; omega)⟩, fun n => absurd k0 n⟩)⟩)⟩)⟩
theorem lw_out (hc : c < 600000) (hs : s + 6 ≤ 7000000) (v1 : vp_in (x4 + 1) X.1) (v2 : vp_in (x4 + 2) X.1) (iv : Inv N I L F) (nx : NxT X Q x4 N c s) : vp_in (x4 + 1) X.1 ∧ (vp_in (x4 + 2) X.1 ∧ ((c + am_bc mL_out ≤ am_bc mL_law ∧ s + am_bs mL_out ≤ am_bs mL_law) ∧ (WP mL_out 0 (am_ent 5 [.ref 0, .int (X.2 (Int32.toNatClampNeg (x4 + 1))), .int (X.2 (Int32.toNatClampNeg (x4 + 2))), .ref 540]) [] (G X I L F) 0 0 (am_kq mL_law 606 [some (.ref 1000000), some (.ref 0), some (.ref 498), some (.ref 540), some (.int x4), d5, d6] [] (c + am_bc mL_out) (s + am_bs mL_out) Q)))) := by
  refine ⟨v1, v2, bud (by omega) (by omega) (by decide) (by decide), k_L_out_0 (op_out iv _ (fun v J M H an => k_L_out_8 ⟨in01, ?_⟩) (fun e J M H he an => ?_))⟩
  · exact k_L_law_609 ⟨v1, v2, bud (c := c + 1) (s := s + 6) (by omega) (by omega) (by decide) (by decide), an _ _ (fun K H2 iv2 k0 => k_L_law_627 ⟨bud (c := c + 1) (s := s + 6) (by omega) (by omega) (by decide) (by decide), s_X10_thrown (k_L_law_633 ⟨fun _ => ⟨fun _ => ⟨fun _ => nx _ _ _ _ _ _ _ iv2 (by show c + 1 + 0 + 0 ≤ c + 1; omega) (by show s + 6 + 0 + 0 ≤ s + 6; omega), fun n => absurd lg_self n⟩, fun n => absurd rfl n⟩, fun n => absurd k0 n⟩)⟩)⟩
  · have ee : e = 0 ∨ e = 1 := by
      unfold plE at he
      by_cases h : e = 0
      · exact Or.inl h
      · rw [if_neg h] at he
        by_cases h2 : e = 1
        · exact Or.inr h2
        · rw [if_neg h2] at he; exact absurd rfl he
    rcases ee with ee | ee
    · subst ee
      exact ⟨_, rfl, trivial, k_L_out_15 (k_L_law_609 ⟨v1, v2, bud (c := c + 1) (s := s + 6) (by omega) (by omega) (by decide) (by decide), an _ (fun b K H2 iv2 k0 => k_L_law_627 ⟨bud (c := c + 1) (s := s + 6) (by omega) (by omega) (by decide) (by decide), s_X10_thrown (k_L_law_633 ⟨fun _ => ⟨fun z => absurd z (by decide), fun _ => nx _ _ _ _ _ _ _ iv2 (by show c + 1 + 0 + 0 ≤ c + 1; omega) (by show s + 6 + 0 + 0 ≤ s + 6; omega)⟩, fun n => absurd k0 n⟩)⟩)⟩)⟩
    · subst ee
      exact ⟨_, rfl, trivial, k_L_out_19 (k_L_law_609 ⟨v1, v2, bud (c := c + 1) (s := s + 6) (by omega) (by omega) (by decide) (by decide), an _ (fun b K H2 iv2 k0 => k_L_law_627 ⟨bud (c := c + 1) (s := s + 6) (by omega) (by omega) (by decide) (by decide), s_X10_thrown (k_L_law_633 ⟨fun _ => ⟨fun z => absurd z (by decide), fun _ => nx _ _ _ _ _ _ _ iv2 (by show c + 1 + 0 + 0 ≤ c + 1; omega) (by show s + 6 + 0 + 0 ≤ s + 6; omega)⟩, fun n => absurd k0 n⟩)⟩)⟩)⟩
theorem lw_outAnew (hc : c < 600000) (hs : s + 6 ≤ 7000000) (v1 : vp_in (x4 + 1) X.1) (v2 : vp_in (x4 + 2) X.1) (iv : Inv N I L F) (nx : NxT X Q x4 N c s) : vp_in (x4 + 1) X.1 ∧ (vp_in (x4 + 2) X.1 ∧ ((c + am_bc mL_outAnew ≤ am_bc mL_law ∧ s + am_bs mL_outAnew ≤ am_bs mL_law) ∧ (WP mL_outAnew 0 (am_ent 5 [.ref 0, .int (X.2 (Int32.toNatClampNeg (x4 + 1))), .int (X.2 (Int32.toNatClampNeg (x4 + 2))), .ref 540]) [] (G X I L F) 0 0 (am_kq mL_law 674 [some (.ref 1000000), some (.ref 0), some (.ref 498), some (.ref 540), some (.int x4), d5, d6] [] (c + am_bc mL_outAnew) (s + am_bs mL_outAnew) Q)))) := by
  refine ⟨v1, v2, bud (by omega) (by omega) (by decide) (by decide), k_L_outAnew_0 (op_outAnew iv _ (fun v J M H an => k_L_outAnew_8 ⟨in01, ?_⟩) (fun e J M H he an => ?_))⟩
  · exact k_L_law_677 ⟨v1, v2, bud (c := c + 1) (s := s + 6) (by omega) (by omega) (by decide) (by decide), an _ _ (fun K H2 iv2 k0 => k_L_law_695 ⟨bud (c := c + 1) (s := s + 6) (by omega) (by omega) (by decide) (by decide), s_X10_thrown (k_L_law_701 ⟨fun _ => ⟨fun _ => ⟨fun _ => nx _ _ _ _ _ _ _ iv2 (by show c + 1 + 0 + 0 ≤ c + 1; omega) (by show s + 6 + 0 + 0 ≤ s + 6; omega), fun n => absurd lg_self n⟩, fun n => absurd rfl n⟩, fun n => absurd k0 n⟩)⟩)⟩
  · have ee : e = 0 ∨ e = 1 := by
      unfold plE at he
      by_cases h : e = 0
      · exact Or.inl h
      · rw [if_neg h] at he
        by_cases h2 : e = 1
        · exact Or.inr h2
        · rw [if_neg h2] at he; exact absurd rfl he
    rcases ee with ee | ee
    · subst ee
      exact ⟨_, rfl, trivial, k_L_outAnew_15 (k_L_law_677 ⟨v1, v2, bud (c := c + 1) (s := s + 6) (by omega) (by omega) (by decide) (by decide), an _ (fun b K H2 iv2 k0 => k_L_law_695 ⟨bud (c := c + 1) (s := s + 6) (by omega) (by omega) (by decide) (by decide), s_X10_thrown (k_L_law_701 ⟨fun _ => ⟨fun z => absurd z (by decide), fun _ => nx _ _ _ _ _ _ _ iv2 (by show c + 1 + 0 + 0 ≤ c + 1; omega) (by show s + 6 + 0 + 0 ≤ s + 6; omega)⟩, fun n => absurd k0 n⟩)⟩)⟩)⟩
    · subst ee
      exact ⟨_, rfl, trivial, k_L_outAnew_19 (k_L_law_677 ⟨v1, v2, bud (c := c + 1) (s := s + 6) (by omega) (by omega) (by decide) (by decide), an _ (fun b K H2 iv2 k0 => k_L_law_695 ⟨bud (c := c + 1) (s := s + 6) (by omega) (by omega) (by decide) (by decide), s_X10_thrown (k_L_law_701 ⟨fun _ => ⟨fun z => absurd z (by decide), fun _ => nx _ _ _ _ _ _ _ iv2 (by show c + 1 + 0 + 0 ≤ c + 1; omega) (by show s + 6 + 0 + 0 ≤ s + 6; omega)⟩, fun n => absurd k0 n⟩)⟩)⟩)⟩
theorem lw_run (hc : c < 600000) (hs : s + 6 ≤ 7000000) (hN : N < 1000000) (v1 : vp_in (x4 + 1) X.1) (v2 : vp_in (x4 + 2) X.1) (iv : Inv N I L F) (nx : NxT X Q x4 N c s) : vp_in (x4 + 1) X.1 ∧ (vp_in (x4 + 2) X.1 ∧ ((c + am_bc mL_run ≤ am_bc mL_law ∧ s + am_bs mL_run ≤ am_bs mL_law) ∧ (WP mL_run 0 (am_ent 5 [.ref 0, .int (X.2 (Int32.toNatClampNeg (x4 + 1))), .int (X.2 (Int32.toNatClampNeg (x4 + 2))), .ref 540]) [] (G X I L F) 0 0 (am_kq mL_law 742 [some (.ref 1000000), some (.ref 0), some (.ref 498), some (.ref 540), some (.int x4), d5, d6] [] (c + am_bc mL_run) (s + am_bs mL_run) Q)))) := by
  refine ⟨v1, v2, bud (by omega) (by omega) (by decide) (by decide), k_L_run_0 (op_run hN iv _ (fun v J M H an => k_L_run_8 ⟨in01, ?_⟩) (fun e J M H he an => ?_))⟩
  · exact k_L_law_745 ⟨v1, v2, bud (c := c + 1) (s := s + 6) (by omega) (by omega) (by decide) (by decide), an _ _ (fun K H2 iv2 k0 => k_L_law_763 ⟨bud (c := c + 1) (s := s + 6) (by omega) (by omega) (by decide) (by decide), s_X10_thrown (k_L_law_769 ⟨fun _ => ⟨fun _ => ⟨fun _ => nx _ _ _ _ _ _ _ iv2 (by show c + 1 + 0 + 0 ≤ c + 1; omega) (by show s + 6 + 0 + 0 ≤ s + 6; omega), fun n => absurd lg_self n⟩, fun n => absurd rfl n⟩, fun n => absurd k0 n⟩)⟩)⟩
  · have ee : e = 0 ∨ e = 1 ∨ e = 2 := by
      unfold plC at he
      by_cases h : e < 3
      · omega
      · rw [if_neg h] at he; exact absurd rfl he
    rcases ee with ee | ee | ee
    · subst ee
      exact ⟨_, rfl, trivial, k_L_run_15 (k_L_law_745 ⟨v1, v2, bud (c := c + 1) (s := s + 6) (by omega) (by omega) (by decide) (by decide), an _ (fun b K H2 iv2 k0 => k_L_law_763 ⟨bud (c := c + 1) (s := s + 6) (by omega) (by omega) (by decide) (by decide), s_X10_thrown (k_L_law_769 ⟨fun _ => ⟨fun z => absurd z (by decide), fun _ => nx _ _ _ _ _ _ _ iv2 (by show c + 1 + 0 + 0 ≤ c + 1; omega) (by show s + 6 + 0 + 0 ≤ s + 6; omega)⟩, fun n => absurd k0 n⟩)⟩)⟩)⟩
    · subst ee
      exact ⟨_, rfl, trivial, k_L_run_19 (k_L_law_745 ⟨v1, v2, bud (c := c + 1) (s := s + 6) (by omega) (by omega) (by decide) (by decide), an _ (fun b K H2 iv2 k0 => k_L_law_763 ⟨bud (c := c + 1) (s := s + 6) (by omega) (by omega) (by decide) (by decide), s_X10_thrown (k_L_law_769 ⟨fun _ => ⟨fun z => absurd z (by decide), fun _ => nx _ _ _ _ _ _ _ iv2 (by show c + 1 + 0 + 0 ≤ c + 1; omega) (by show s + 6 + 0 + 0 ≤ s + 6; omega)⟩, fun n => absurd k0 n⟩)⟩)⟩)⟩
    · subst ee
      exact ⟨_, rfl, trivial, k_L_run_23 (k_L_law_745 ⟨v1, v2, bud (c := c + 1) (s := s + 6) (by omega) (by omega) (by decide) (by decide), an _ (fun b K H2 iv2 k0 => k_L_law_763 ⟨bud (c := c + 1) (s := s + 6) (by omega) (by omega) (by decide) (by decide), s_X10_thrown (k_L_law_769 ⟨fun _ => ⟨fun z => absurd z (by decide), fun _ => nx _ _ _ _ _ _ _ iv2 (by show c + 1 + 0 + 0 ≤ c + 1; omega) (by show s + 6 + 0 + 0 ≤ s + 6; omega)⟩, fun n => absurd k0 n⟩)⟩)⟩)⟩
theorem lw_why (hc : c < 600000) (hs : s + 6 ≤ 7000000) (v1 : vp_in (x4 + 1) X.1) (iv : Inv N I L F) (nx : NxT X Q x4 N c s) : vp_in (x4 + 1) X.1 ∧ ((c + am_bc mL_why ≤ am_bc mL_law ∧ s + am_bs mL_why ≤ am_bs mL_law) ∧ (WP mL_why 0 (am_ent 4 [.ref 0, .int (X.2 (Int32.toNatClampNeg (x4 + 1))), .ref 540]) [] (G X I L F) 0 0 (am_kq mL_law 804 [some (.ref 1000000), some (.ref 0), some (.ref 498), some (.ref 540), some (.int x4), d5, d6] [] (c + am_bc mL_why) (s + am_bs mL_why) Q))) := by
  refine ⟨v1, bud (by omega) (by omega) (by decide) (by decide), k_L_why_0 (op_why iv _ (fun v J M H an => k_L_why_7 ⟨in01, ?_⟩) (fun e J M H he an => ?_))⟩
  · exact k_L_law_807 ⟨v1, bud (c := c + 1) (s := s + 6) (by omega) (by omega) (by decide) (by decide), an _ _ (fun K H2 iv2 k0 => k_L_law_819 ⟨bud (c := c + 1) (s := s + 6) (by omega) (by omega) (by decide) (by decide), s_X10_thrown (k_L_law_825 ⟨fun _ => ⟨fun _ => ⟨fun _ => nx _ _ _ _ _ _ _ iv2 (by show c + 1 + 0 + 0 ≤ c + 1; omega) (by show s + 6 + 0 + 0 ≤ s + 6; omega), fun n => absurd lg_self n⟩, fun n => absurd rfl n⟩, fun n => absurd k0 n⟩)⟩)⟩
  · have ee : e = 0 := by
      unfold plA at he
      by_cases h : e = 0
      · exact h
      · rw [if_neg h] at he; exact absurd rfl he
    subst ee
    exact ⟨_, rfl, trivial, k_L_why_13 (k_L_law_807 ⟨v1, bud (c := c + 1) (s := s + 6) (by omega) (by omega) (by decide) (by decide), an _ (fun b K H2 iv2 k0 => k_L_law_819 ⟨bud (c := c + 1) (s := s + 6) (by omega) (by omega) (by decide) (by decide), s_X10_thrown (k_L_law_825 ⟨fun _ => ⟨fun z => absurd z (by decide), fun _ => nx _ _ _ _ _ _ _ iv2 (by show c + 1 + 0 + 0 ≤ c + 1; omega) (by show s + 6 + 0 + 0 ≤ s + 6; omega)⟩, fun n => absurd k0 n⟩)⟩)⟩)⟩
theorem lw_peak (hc : c < 600000) (hs : s + 6 ≤ 7000000) (v1 : vp_in (x4 + 1) X.1) (iv : Inv N I L F) (nx : NxT X Q x4 N c s) : vp_in (x4 + 1) X.1 ∧ ((c + am_bc mL_peak ≤ am_bc mL_law ∧ s + am_bs mL_peak ≤ am_bs mL_law) ∧ (WP mL_peak 0 (am_ent 4 [.ref 0, .int (X.2 (Int32.toNatClampNeg (x4 + 1))), .ref 540]) [] (G X I L F) 0 0 (am_kq mL_law 860 [some (.ref 1000000), some (.ref 0), some (.ref 498), some (.ref 540), some (.int x4), d5, d6] [] (c + am_bc mL_peak) (s + am_bs mL_peak) Q))) := by
  refine ⟨v1, bud (by omega) (by omega) (by decide) (by decide), k_L_peak_0 (op_peak iv _ (fun v J M H an => k_L_peak_7 ⟨in01, ?_⟩) (fun e J M H he an => ?_))⟩
  · exact k_L_law_863 ⟨v1, bud (c := c + 1) (s := s + 6) (by omega) (by omega) (by decide) (by decide), an _ _ (fun K H2 iv2 k0 => k_L_law_875 ⟨bud (c := c + 1) (s := s + 6) (by omega) (by omega) (by decide) (by decide), s_X10_thrown (k_L_law_881 ⟨fun _ => ⟨fun _ => ⟨fun _ => nx _ _ _ _ _ _ _ iv2 (by show c + 1 + 0 + 0 ≤ c + 1; omega) (by show s + 6 + 0 + 0 ≤ s + 6; omega), fun n => absurd lg_self n⟩, fun n => absurd rfl n⟩, fun n => absurd k0 n⟩)⟩)⟩
  · have ee : e = 0 := by
      unfold plA at he
      by_cases h : e = 0
      · exact h
      · rw [if_neg h] at he; exact absurd rfl he
    subst ee
    exact ⟨_, rfl, trivial, k_L_peak_13 (k_L_law_863 ⟨v1, bud (c := c + 1) (s := s + 6) (by omega) (by omega) (by decide) (by decide), an _ (fun b K H2 iv2 k0 => k_L_law_875 ⟨bud (c := c + 1) (s := s + 6) (by omega) (by omega) (by decide) (by decide), s_X10_thrown (k_L_law_881 ⟨fun _ => ⟨fun z => absurd z (by decide), fun _ => nx _ _ _ _ _ _ _ iv2 (by show c + 1 + 0 + 0 ≤ c + 1; omega) (by show s + 6 + 0 + 0 ≤ s + 6; omega)⟩, fun n => absurd k0 n⟩)⟩)⟩)⟩
theorem lw_peakHour (hc : c < 600000) (hs : s + 6 ≤ 7000000) (v1 : vp_in (x4 + 1) X.1) (iv : Inv N I L F) (nx : NxT X Q x4 N c s) : vp_in (x4 + 1) X.1 ∧ ((c + am_bc mL_peakHour ≤ am_bc mL_law ∧ s + am_bs mL_peakHour ≤ am_bs mL_law) ∧ (WP mL_peakHour 0 (am_ent 4 [.ref 0, .int (X.2 (Int32.toNatClampNeg (x4 + 1))), .ref 540]) [] (G X I L F) 0 0 (am_kq mL_law 916 [some (.ref 1000000), some (.ref 0), some (.ref 498), some (.ref 540), some (.int x4), d5, d6] [] (c + am_bc mL_peakHour) (s + am_bs mL_peakHour) Q))) := by
  refine ⟨v1, bud (by omega) (by omega) (by decide) (by decide), k_L_peakHour_0 (op_peakHour iv _ (fun v J M H an => k_L_peakHour_7 ⟨in01, ?_⟩) (fun e J M H he an => ?_))⟩
  · exact k_L_law_919 ⟨v1, bud (c := c + 1) (s := s + 6) (by omega) (by omega) (by decide) (by decide), an _ _ (fun K H2 iv2 k0 => k_L_law_931 ⟨bud (c := c + 1) (s := s + 6) (by omega) (by omega) (by decide) (by decide), s_X10_thrown (k_L_law_937 ⟨fun _ => ⟨fun _ => ⟨fun _ => nx _ _ _ _ _ _ _ iv2 (by show c + 1 + 0 + 0 ≤ c + 1; omega) (by show s + 6 + 0 + 0 ≤ s + 6; omega), fun n => absurd lg_self n⟩, fun n => absurd rfl n⟩, fun n => absurd k0 n⟩)⟩)⟩
  · have ee : e = 0 := by
      unfold plA at he
      by_cases h : e = 0
      · exact h
      · rw [if_neg h] at he; exact absurd rfl he
    subst ee
    exact ⟨_, rfl, trivial, k_L_peakHour_13 (k_L_law_919 ⟨v1, bud (c := c + 1) (s := s + 6) (by omega) (by omega) (by decide) (by decide), an _ (fun b K H2 iv2 k0 => k_L_law_931 ⟨bud (c := c + 1) (s := s + 6) (by omega) (by omega) (by decide) (by decide), s_X10_thrown (k_L_law_937 ⟨fun _ => ⟨fun z => absurd z (by decide), fun _ => nx _ _ _ _ _ _ _ iv2 (by show c + 1 + 0 + 0 ≤ c + 1; omega) (by show s + 6 + 0 + 0 ≤ s + 6; omega)⟩, fun n => absurd k0 n⟩)⟩)⟩)⟩
theorem lw_peakAnew (hc : c < 600000) (hs : s + 6 ≤ 7000000) (v1 : vp_in (x4 + 1) X.1) (iv : Inv N I L F) (nx : NxT X Q x4 N c s) : vp_in (x4 + 1) X.1 ∧ ((c + am_bc mL_peakAnew ≤ am_bc mL_law ∧ s + am_bs mL_peakAnew ≤ am_bs mL_law) ∧ (WP mL_peakAnew 0 (am_ent 4 [.ref 0, .int (X.2 (Int32.toNatClampNeg (x4 + 1))), .ref 540]) [] (G X I L F) 0 0 (am_kq mL_law 972 [some (.ref 1000000), some (.ref 0), some (.ref 498), some (.ref 540), some (.int x4), d5, d6] [] (c + am_bc mL_peakAnew) (s + am_bs mL_peakAnew) Q))) := by
  refine ⟨v1, bud (by omega) (by omega) (by decide) (by decide), k_L_peakAnew_0 (op_peakAnew iv _ (fun v J M H an => k_L_peakAnew_7 ⟨in01, ?_⟩) (fun e J M H he an => ?_))⟩
  · exact k_L_law_975 ⟨v1, bud (c := c + 1) (s := s + 6) (by omega) (by omega) (by decide) (by decide), an _ _ (fun K H2 iv2 k0 => k_L_law_987 ⟨bud (c := c + 1) (s := s + 6) (by omega) (by omega) (by decide) (by decide), s_X10_thrown (k_L_law_993 ⟨fun _ => ⟨fun _ => ⟨fun _ => nx _ _ _ _ _ _ _ iv2 (by show c + 1 + 0 + 0 ≤ c + 1; omega) (by show s + 6 + 0 + 0 ≤ s + 6; omega), fun n => absurd lg_self n⟩, fun n => absurd rfl n⟩, fun n => absurd k0 n⟩)⟩)⟩
  · have ee : e = 0 := by
      unfold plA at he
      by_cases h : e = 0
      · exact h
      · rw [if_neg h] at he; exact absurd rfl he
    subst ee
    exact ⟨_, rfl, trivial, k_L_peakAnew_13 (k_L_law_975 ⟨v1, bud (c := c + 1) (s := s + 6) (by omega) (by omega) (by decide) (by decide), an _ (fun b K H2 iv2 k0 => k_L_law_987 ⟨bud (c := c + 1) (s := s + 6) (by omega) (by omega) (by decide) (by decide), s_X10_thrown (k_L_law_993 ⟨fun _ => ⟨fun z => absurd z (by decide), fun _ => nx _ _ _ _ _ _ _ iv2 (by show c + 1 + 0 + 0 ≤ c + 1; omega) (by show s + 6 + 0 + 0 ≤ s + 6; omega)⟩, fun n => absurd k0 n⟩)⟩)⟩)⟩
theorem lw_build (hc : c < 600000) (hs : s + 6 ≤ 7000000) (v1 : vp_in (x4 + 1) X.1) (v2 : vp_in (x4 + 2) X.1) (v3 : vp_in (x4 + 3) X.1) (iv : Inv N I L F) (nx : NxT X Q x4 N c s) : vp_in (x4 + 1) X.1 ∧ (vp_in (x4 + 2) X.1 ∧ (vp_in (x4 + 3) X.1 ∧ ((c + am_bc mL_build ≤ am_bc mL_law ∧ s + am_bs mL_build ≤ am_bs mL_law) ∧ (WP mL_build 0 (am_ent 5 [.ref 0, .int (X.2 (Int32.toNatClampNeg (x4 + 1))), .int (X.2 (Int32.toNatClampNeg (x4 + 2))), .int (X.2 (Int32.toNatClampNeg (x4 + 3)))]) [] (G X I L F) 0 0 (am_kq mL_law 1039 [some (.ref 1000000), some (.ref 0), some (.ref 498), some (.ref 540), some (.int x4), d5, d6] [] (c + am_bc mL_build) (s + am_bs mL_build) Q))))) := by
  refine ⟨v1, v2, v3, bud (by omega) (by omega) (by decide) (by decide), k_L_build_0 (op_build iv _ (fun J M H an => k_L_build_7 ?_) (fun e J M H he an => ?_))⟩
  · exact k_L_law_1042 ⟨v1, v2, v3, bud (c := c + 1) (s := s + 6) (by omega) (by omega) (by decide) (by decide), an _ (fun K H2 iv2 k0 => k_L_law_1066 ⟨bud (c := c + 1) (s := s + 6) (by omega) (by omega) (by decide) (by decide), s_X10_thrown (k_L_law_1070 ⟨fun _ => nx _ _ _ _ _ _ _ iv2 (by show c + 1 + 0 + 0 ≤ c + 1; omega) (by show s + 6 + 0 + 0 ≤ s + 6; omega), fun n => absurd k0 n⟩)⟩)⟩
  · have ee : e = 0 ∨ e = 1 ∨ e = 2 := by
      unfold plC at he
      by_cases h : e < 3
      · omega
      · rw [if_neg h] at he; exact absurd rfl he
    rcases ee with ee | ee | ee
    · subst ee
      exact ⟨_, rfl, trivial, k_L_build_12 (k_L_law_1042 ⟨v1, v2, v3, bud (c := c + 1) (s := s + 6) (by omega) (by omega) (by decide) (by decide), an _ (fun K H2 iv2 k0 => k_L_law_1066 ⟨bud (c := c + 1) (s := s + 6) (by omega) (by omega) (by decide) (by decide), s_X10_thrown (k_L_law_1070 ⟨fun _ => nx _ _ _ _ _ _ _ iv2 (by show c + 1 + 0 + 0 ≤ c + 1; omega) (by show s + 6 + 0 + 0 ≤ s + 6; omega), fun n => absurd k0 n⟩)⟩)⟩)⟩
    · subst ee
      exact ⟨_, rfl, trivial, k_L_build_16 (k_L_law_1042 ⟨v1, v2, v3, bud (c := c + 1) (s := s + 6) (by omega) (by omega) (by decide) (by decide), an _ (fun K H2 iv2 k0 => k_L_law_1066 ⟨bud (c := c + 1) (s := s + 6) (by omega) (by omega) (by decide) (by decide), s_X10_thrown (k_L_law_1070 ⟨fun _ => nx _ _ _ _ _ _ _ iv2 (by show c + 1 + 0 + 0 ≤ c + 1; omega) (by show s + 6 + 0 + 0 ≤ s + 6; omega), fun n => absurd k0 n⟩)⟩)⟩)⟩
    · subst ee
      exact ⟨_, rfl, trivial, k_L_build_20 (k_L_law_1042 ⟨v1, v2, v3, bud (c := c + 1) (s := s + 6) (by omega) (by omega) (by decide) (by decide), an _ (fun K H2 iv2 k0 => k_L_law_1066 ⟨bud (c := c + 1) (s := s + 6) (by omega) (by omega) (by decide) (by decide), s_X10_thrown (k_L_law_1070 ⟨fun _ => nx _ _ _ _ _ _ _ iv2 (by show c + 1 + 0 + 0 ≤ c + 1; omega) (by show s + 6 + 0 + 0 ≤ s + 6; omega), fun n => absurd k0 n⟩)⟩)⟩)⟩
theorem lw_rule (hc : c < 600000) (hs : s + 6 ≤ 7000000) (v1 : vp_in (x4 + 1) X.1) (iv : Inv N I L F) (nx : NxT X Q x4 N c s) : vp_in (x4 + 1) X.1 ∧ ((c + am_bc mL_rule ≤ am_bc mL_law ∧ s + am_bs mL_rule ≤ am_bs mL_law) ∧ (WP mL_rule 0 (am_ent 3 [.ref 0, .int (X.2 (Int32.toNatClampNeg (x4 + 1)))]) [] (G X I L F) 0 0 (am_kq mL_law 1087 [some (.ref 1000000), some (.ref 0), some (.ref 498), some (.ref 540), some (.int x4), d5, d6] [] (c + am_bc mL_rule) (s + am_bs mL_rule) Q))) := by
  refine ⟨v1, bud (by omega) (by omega) (by decide) (by decide), k_L_rule_0 (op_rule iv _ (fun J M H an => k_L_rule_5 ?_) (fun e J M H he an => ?_))⟩
  · exact k_L_law_1090 ⟨v1, bud (c := c + 1) (s := s + 6) (by omega) (by omega) (by decide) (by decide), an _ (fun K H2 iv2 k0 => k_L_law_1102 ⟨bud (c := c + 1) (s := s + 6) (by omega) (by omega) (by decide) (by decide), s_X10_thrown (k_L_law_1106 ⟨fun _ => nx _ _ _ _ _ _ _ iv2 (by show c + 1 + 0 + 0 ≤ c + 1; omega) (by show s + 6 + 0 + 0 ≤ s + 6; omega), fun n => absurd k0 n⟩)⟩)⟩
  · have ee : e = 0 ∨ e = 1 ∨ e = 2 := by
      unfold plC at he
      by_cases h : e < 3
      · omega
      · rw [if_neg h] at he; exact absurd rfl he
    rcases ee with ee | ee | ee
    · subst ee
      exact ⟨_, rfl, trivial, k_L_rule_9 (k_L_law_1090 ⟨v1, bud (c := c + 1) (s := s + 6) (by omega) (by omega) (by decide) (by decide), an _ (fun K H2 iv2 k0 => k_L_law_1102 ⟨bud (c := c + 1) (s := s + 6) (by omega) (by omega) (by decide) (by decide), s_X10_thrown (k_L_law_1106 ⟨fun _ => nx _ _ _ _ _ _ _ iv2 (by show c + 1 + 0 + 0 ≤ c + 1; omega) (by show s + 6 + 0 + 0 ≤ s + 6; omega), fun n => absurd k0 n⟩)⟩)⟩)⟩
    · subst ee
      exact ⟨_, rfl, trivial, k_L_rule_12 (k_L_law_1090 ⟨v1, bud (c := c + 1) (s := s + 6) (by omega) (by omega) (by decide) (by decide), an _ (fun K H2 iv2 k0 => k_L_law_1102 ⟨bud (c := c + 1) (s := s + 6) (by omega) (by omega) (by decide) (by decide), s_X10_thrown (k_L_law_1106 ⟨fun _ => nx _ _ _ _ _ _ _ iv2 (by show c + 1 + 0 + 0 ≤ c + 1; omega) (by show s + 6 + 0 + 0 ≤ s + 6; omega), fun n => absurd k0 n⟩)⟩)⟩)⟩
    · subst ee
      exact ⟨_, rfl, trivial, k_L_rule_15 (k_L_law_1090 ⟨v1, bud (c := c + 1) (s := s + 6) (by omega) (by omega) (by decide) (by decide), an _ (fun K H2 iv2 k0 => k_L_law_1102 ⟨bud (c := c + 1) (s := s + 6) (by omega) (by omega) (by decide) (by decide), s_X10_thrown (k_L_law_1106 ⟨fun _ => nx _ _ _ _ _ _ _ iv2 (by show c + 1 + 0 + 0 ≤ c + 1; omega) (by show s + 6 + 0 + 0 ≤ s + 6; omega), fun n => absurd k0 n⟩)⟩)⟩)⟩
theorem lw_goBy (hc : c < 600000) (hs : s + 6 ≤ 7000000) (v1 : vp_in (x4 + 1) X.1) (v2 : vp_in (x4 + 2) X.1) (iv : Inv N I L F) (nx : NxT X Q x4 N c s) : vp_in (x4 + 1) X.1 ∧ (vp_in (x4 + 2) X.1 ∧ ((c + am_bc mL_goBy ≤ am_bc mL_law ∧ s + am_bs mL_goBy ≤ am_bs mL_law) ∧ (WP mL_goBy 0 (am_ent 4 [.ref 0, .int (X.2 (Int32.toNatClampNeg (x4 + 1))), .int (X.2 (Int32.toNatClampNeg (x4 + 2)))]) [] (G X I L F) 0 0 (am_kq mL_law 1129 [some (.ref 1000000), some (.ref 0), some (.ref 498), some (.ref 540), some (.int x4), d5, d6] [] (c + am_bc mL_goBy) (s + am_bs mL_goBy) Q)))) := by
  refine ⟨v1, v2, bud (by omega) (by omega) (by decide) (by decide), k_L_goBy_0 (op_goBy iv _ (fun J M H an => k_L_goBy_6 ?_) (fun e J M H he an => ?_))⟩
  · exact k_L_law_1132 ⟨v1, v2, bud (c := c + 1) (s := s + 6) (by omega) (by omega) (by decide) (by decide), an _ (fun K H2 iv2 k0 => k_L_law_1150 ⟨bud (c := c + 1) (s := s + 6) (by omega) (by omega) (by decide) (by decide), s_X10_thrown (k_L_law_1154 ⟨fun _ => nx _ _ _ _ _ _ _ iv2 (by show c + 1 + 0 + 0 ≤ c + 1; omega) (by show s + 6 + 0 + 0 ≤ s + 6; omega), fun n => absurd k0 n⟩)⟩)⟩
  · have ee : e = 0 ∨ e = 2 := by
      unfold plD at he
      by_cases h : e = 0
      · exact Or.inl h
      · rw [if_neg h] at he
        by_cases h2 : e = 2
        · exact Or.inr h2
        · rw [if_neg h2] at he; exact absurd rfl he
    rcases ee with ee | ee
    · subst ee
      exact ⟨_, rfl, trivial, k_L_goBy_10 (k_L_law_1132 ⟨v1, v2, bud (c := c + 1) (s := s + 6) (by omega) (by omega) (by decide) (by decide), an _ (fun K H2 iv2 k0 => k_L_law_1150 ⟨bud (c := c + 1) (s := s + 6) (by omega) (by omega) (by decide) (by decide), s_X10_thrown (k_L_law_1154 ⟨fun _ => nx _ _ _ _ _ _ _ iv2 (by show c + 1 + 0 + 0 ≤ c + 1; omega) (by show s + 6 + 0 + 0 ≤ s + 6; omega), fun n => absurd k0 n⟩)⟩)⟩)⟩
    · subst ee
      exact ⟨_, rfl, trivial, k_L_goBy_13 (k_L_law_1132 ⟨v1, v2, bud (c := c + 1) (s := s + 6) (by omega) (by omega) (by decide) (by decide), an _ (fun K H2 iv2 k0 => k_L_law_1150 ⟨bud (c := c + 1) (s := s + 6) (by omega) (by omega) (by decide) (by decide), s_X10_thrown (k_L_law_1154 ⟨fun _ => nx _ _ _ _ _ _ _ iv2 (by show c + 1 + 0 + 0 ≤ c + 1; omega) (by show s + 6 + 0 + 0 ≤ s + 6; omega), fun n => absurd k0 n⟩)⟩)⟩)⟩
theorem lw_level (hc : c < 600000) (hs : s + 6 ≤ 7000000) (v1 : vp_in (x4 + 1) X.1) (iv : Inv N I L F) (nx : NxT X Q x4 N c s) : vp_in (x4 + 1) X.1 ∧ ((c + am_bc mL_level ≤ am_bc mL_law ∧ s + am_bs mL_level ≤ am_bs mL_law) ∧ (WP mL_level 0 (am_ent 4 [.ref 0, .int (X.2 (Int32.toNatClampNeg (x4 + 1))), .ref 540]) [] (G X I L F) 0 0 (am_kq mL_law 1172 [some (.ref 1000000), some (.ref 0), some (.ref 498), some (.ref 540), some (.int x4), d5, d6] [] (c + am_bc mL_level) (s + am_bs mL_level) Q))) := by
  refine ⟨v1, bud (by omega) (by omega) (by decide) (by decide), k_L_level_0 (op_level iv _ (fun v J M H an => k_L_level_7 ⟨in01, ?_⟩) (fun e J M H he an => ?_))⟩
  · exact k_L_law_1175 ⟨v1, bud (c := c + 1) (s := s + 6) (by omega) (by omega) (by decide) (by decide), an _ _ (fun K H2 iv2 k0 => k_L_law_1187 ⟨bud (c := c + 1) (s := s + 6) (by omega) (by omega) (by decide) (by decide), s_X10_thrown (k_L_law_1193 ⟨fun _ => ⟨fun _ => ⟨fun _ => nx _ _ _ _ _ _ _ iv2 (by show c + 1 + 0 + 0 ≤ c + 1; omega) (by show s + 6 + 0 + 0 ≤ s + 6; omega), fun n => absurd lg_self n⟩, fun n => absurd rfl n⟩, fun n => absurd k0 n⟩)⟩)⟩
  · have ee : e = 0 := by
      unfold plA at he
      by_cases h : e = 0
      · exact h
      · rw [if_neg h] at he; exact absurd rfl he
    subst ee
    exact ⟨_, rfl, trivial, k_L_level_13 (k_L_law_1175 ⟨v1, bud (c := c + 1) (s := s + 6) (by omega) (by omega) (by decide) (by decide), an _ (fun b K H2 iv2 k0 => k_L_law_1187 ⟨bud (c := c + 1) (s := s + 6) (by omega) (by omega) (by decide) (by decide), s_X10_thrown (k_L_law_1193 ⟨fun _ => ⟨fun z => absurd z (by decide), fun _ => nx _ _ _ _ _ _ _ iv2 (by show c + 1 + 0 + 0 ≤ c + 1; omega) (by show s + 6 + 0 + 0 ≤ s + 6; omega)⟩, fun n => absurd k0 n⟩)⟩)⟩)⟩
theorem lw_below (hc : c < 600000) (hs : s + 6 ≤ 7000000) (v1 : vp_in (x4 + 1) X.1) (v2 : vp_in (x4 + 2) X.1) (iv : Inv N I L F) (nx : NxT X Q x4 N c s) : vp_in (x4 + 1) X.1 ∧ (vp_in (x4 + 2) X.1 ∧ ((c + am_bc mL_below ≤ am_bc mL_law ∧ s + am_bs mL_below ≤ am_bs mL_law) ∧ (WP mL_below 0 (am_ent 5 [.ref 0, .int (X.2 (Int32.toNatClampNeg (x4 + 1))), .int (X.2 (Int32.toNatClampNeg (x4 + 2))), .ref 540]) [] (G X I L F) 0 0 (am_kq mL_law 1234 [some (.ref 1000000), some (.ref 0), some (.ref 498), some (.ref 540), some (.int x4), d5, d6] [] (c + am_bc mL_below) (s + am_bs mL_below) Q)))) := by
  refine ⟨v1, v2, bud (by omega) (by omega) (by decide) (by decide), k_L_below_0 (op_below iv _ (fun v J M H an => k_L_below_8 ⟨in01, ?_⟩) (fun e J M H he an => ?_))⟩
  · exact k_L_law_1237 ⟨v1, v2, bud (c := c + 1) (s := s + 6) (by omega) (by omega) (by decide) (by decide), an _ _ (fun K H2 iv2 k0 => k_L_law_1255 ⟨bud (c := c + 1) (s := s + 6) (by omega) (by omega) (by decide) (by decide), s_X10_thrown (k_L_law_1261 ⟨fun _ => ⟨fun _ => ⟨fun _ => nx _ _ _ _ _ _ _ iv2 (by show c + 1 + 0 + 0 ≤ c + 1; omega) (by show s + 6 + 0 + 0 ≤ s + 6; omega), fun n => absurd lg_self n⟩, fun n => absurd rfl n⟩, fun n => absurd k0 n⟩)⟩)⟩
  · have ee : e = 0 ∨ e = 1 := by
      unfold plE at he
      by_cases h : e = 0
      · exact Or.inl h
      · rw [if_neg h] at he
        by_cases h2 : e = 1
        · exact Or.inr h2
        · rw [if_neg h2] at he; exact absurd rfl he
    rcases ee with ee | ee
    · subst ee
      exact ⟨_, rfl, trivial, k_L_below_15 (k_L_law_1237 ⟨v1, v2, bud (c := c + 1) (s := s + 6) (by omega) (by omega) (by decide) (by decide), an _ (fun b K H2 iv2 k0 => k_L_law_1255 ⟨bud (c := c + 1) (s := s + 6) (by omega) (by omega) (by decide) (by decide), s_X10_thrown (k_L_law_1261 ⟨fun _ => ⟨fun z => absurd z (by decide), fun _ => nx _ _ _ _ _ _ _ iv2 (by show c + 1 + 0 + 0 ≤ c + 1; omega) (by show s + 6 + 0 + 0 ≤ s + 6; omega)⟩, fun n => absurd k0 n⟩)⟩)⟩)⟩
    · subst ee
      exact ⟨_, rfl, trivial, k_L_below_19 (k_L_law_1237 ⟨v1, v2, bud (c := c + 1) (s := s + 6) (by omega) (by omega) (by decide) (by decide), an _ (fun b K H2 iv2 k0 => k_L_law_1255 ⟨bud (c := c + 1) (s := s + 6) (by omega) (by omega) (by decide) (by decide), s_X10_thrown (k_L_law_1261 ⟨fun _ => ⟨fun z => absurd z (by decide), fun _ => nx _ _ _ _ _ _ _ iv2 (by show c + 1 + 0 + 0 ≤ c + 1; omega) (by show s + 6 + 0 + 0 ≤ s + 6; omega)⟩, fun n => absurd k0 n⟩)⟩)⟩)⟩
theorem lw_valley (hc : c < 600000) (hs : s + 6 ≤ 7000000) (v1 : vp_in (x4 + 1) X.1) (v2 : vp_in (x4 + 2) X.1) (v3 : vp_in (x4 + 3) X.1) (v4 : vp_in (x4 + 4) X.1) (iv : Inv N I L F) (nx : NxT X Q x4 N c s) : vp_in (x4 + 1) X.1 ∧ (vp_in (x4 + 2) X.1 ∧ (vp_in (x4 + 3) X.1 ∧ (vp_in (x4 + 4) X.1 ∧ ((c + am_bc mL_valley ≤ am_bc mL_law ∧ s + am_bs mL_valley ≤ am_bs mL_law) ∧ (WP mL_valley 0 (am_ent 6 [.ref 0, .int (X.2 (Int32.toNatClampNeg (x4 + 1))), .int (X.2 (Int32.toNatClampNeg (x4 + 2))), .int (X.2 (Int32.toNatClampNeg (x4 + 3))), .int (X.2 (Int32.toNatClampNeg (x4 + 4)))]) [] (G X I L F) 0 0 (am_kq mL_law 1313 [some (.ref 1000000), some (.ref 0), some (.ref 498), some (.ref 540), some (.int x4), d5, d6] [] (c + am_bc mL_valley) (s + am_bs mL_valley) Q)))))) := by
  refine ⟨v1, v2, v3, v4, bud (by omega) (by omega) (by decide) (by decide), k_L_valley_0 (op_valley iv _ (fun J M H an => k_L_valley_9 ?_) (fun e J M H he an => ?_))⟩
  · exact k_L_law_1316 ⟨v1, v2, v3, v4, bud (c := c + 1) (s := s + 6) (by omega) (by omega) (by decide) (by decide), an _ (fun K H2 iv2 k0 => k_L_law_1346 ⟨bud (c := c + 1) (s := s + 6) (by omega) (by omega) (by decide) (by decide), s_X10_thrown (k_L_law_1350 ⟨fun _ => nx _ _ _ _ _ _ _ iv2 (by show c + 1 + 0 + 0 ≤ c + 1; omega) (by show s + 6 + 0 + 0 ≤ s + 6; omega), fun n => absurd k0 n⟩)⟩)⟩
  · have ee : e = 0 ∨ e = 1 ∨ e = 2 := by
      unfold plC at he
      by_cases h : e < 3
      · omega
      · rw [if_neg h] at he; exact absurd rfl he
    rcases ee with ee | ee | ee
    · subst ee
      exact ⟨_, rfl, trivial, k_L_valley_14 (k_L_law_1316 ⟨v1, v2, v3, v4, bud (c := c + 1) (s := s + 6) (by omega) (by omega) (by decide) (by decide), an _ (fun K H2 iv2 k0 => k_L_law_1346 ⟨bud (c := c + 1) (s := s + 6) (by omega) (by omega) (by decide) (by decide), s_X10_thrown (k_L_law_1350 ⟨fun _ => nx _ _ _ _ _ _ _ iv2 (by show c + 1 + 0 + 0 ≤ c + 1; omega) (by show s + 6 + 0 + 0 ≤ s + 6; omega), fun n => absurd k0 n⟩)⟩)⟩)⟩
    · subst ee
      exact ⟨_, rfl, trivial, k_L_valley_18 (k_L_law_1316 ⟨v1, v2, v3, v4, bud (c := c + 1) (s := s + 6) (by omega) (by omega) (by decide) (by decide), an _ (fun K H2 iv2 k0 => k_L_law_1346 ⟨bud (c := c + 1) (s := s + 6) (by omega) (by omega) (by decide) (by decide), s_X10_thrown (k_L_law_1350 ⟨fun _ => nx _ _ _ _ _ _ _ iv2 (by show c + 1 + 0 + 0 ≤ c + 1; omega) (by show s + 6 + 0 + 0 ≤ s + 6; omega), fun n => absurd k0 n⟩)⟩)⟩)⟩
    · subst ee
      exact ⟨_, rfl, trivial, k_L_valley_22 (k_L_law_1316 ⟨v1, v2, v3, v4, bud (c := c + 1) (s := s + 6) (by omega) (by omega) (by decide) (by decide), an _ (fun K H2 iv2 k0 => k_L_law_1346 ⟨bud (c := c + 1) (s := s + 6) (by omega) (by omega) (by decide) (by decide), s_X10_thrown (k_L_law_1350 ⟨fun _ => nx _ _ _ _ _ _ _ iv2 (by show c + 1 + 0 + 0 ≤ c + 1; omega) (by show s + 6 + 0 + 0 ≤ s + 6; omega), fun n => absurd k0 n⟩)⟩)⟩)⟩
theorem lw_sound (hc : c < 600000) (hs : s + 6 ≤ 7000000) (v1 : vp_in (x4 + 1) X.1) (v2 : vp_in (x4 + 2) X.1) (iv : Inv N I L F) (nx : NxT X Q x4 N c s) : vp_in (x4 + 1) X.1 ∧ (vp_in (x4 + 2) X.1 ∧ ((c + am_bc mL_sound ≤ am_bc mL_law ∧ s + am_bs mL_sound ≤ am_bs mL_law) ∧ (WP mL_sound 0 (am_ent 5 [.ref 0, .int (X.2 (Int32.toNatClampNeg (x4 + 1))), .int (X.2 (Int32.toNatClampNeg (x4 + 2))), .ref 540]) [] (G X I L F) 0 0 (am_kq mL_law 1374 [some (.ref 1000000), some (.ref 0), some (.ref 498), some (.ref 540), some (.int x4), d5, d6] [] (c + am_bc mL_sound) (s + am_bs mL_sound) Q)))) := by
  refine ⟨v1, v2, bud (by omega) (by omega) (by decide) (by decide), k_L_sound_0 (op_sound iv _ (fun v J M H an => k_L_sound_8 ⟨in01, ?_⟩) (fun e J M H he an => ?_))⟩
  · exact k_L_law_1377 ⟨v1, v2, bud (c := c + 1) (s := s + 6) (by omega) (by omega) (by decide) (by decide), an _ _ (fun K H2 iv2 k0 => k_L_law_1395 ⟨bud (c := c + 1) (s := s + 6) (by omega) (by omega) (by decide) (by decide), s_X10_thrown (k_L_law_1401 ⟨fun _ => ⟨fun _ => ⟨fun _ => nx _ _ _ _ _ _ _ iv2 (by show c + 1 + 0 + 0 ≤ c + 1; omega) (by show s + 6 + 0 + 0 ≤ s + 6; omega), fun n => absurd lg_self n⟩, fun n => absurd rfl n⟩, fun n => absurd k0 n⟩)⟩)⟩
  · have ee : e = 0 ∨ e = 2 := by
      unfold plD at he
      by_cases h : e = 0
      · exact Or.inl h
      · rw [if_neg h] at he
        by_cases h2 : e = 2
        · exact Or.inr h2
        · rw [if_neg h2] at he; exact absurd rfl he
    rcases ee with ee | ee
    · subst ee
      exact ⟨_, rfl, trivial, k_L_sound_15 (k_L_law_1377 ⟨v1, v2, bud (c := c + 1) (s := s + 6) (by omega) (by omega) (by decide) (by decide), an _ (fun b K H2 iv2 k0 => k_L_law_1395 ⟨bud (c := c + 1) (s := s + 6) (by omega) (by omega) (by decide) (by decide), s_X10_thrown (k_L_law_1401 ⟨fun _ => ⟨fun z => absurd z (by decide), fun _ => nx _ _ _ _ _ _ _ iv2 (by show c + 1 + 0 + 0 ≤ c + 1; omega) (by show s + 6 + 0 + 0 ≤ s + 6; omega)⟩, fun n => absurd k0 n⟩)⟩)⟩)⟩
    · subst ee
      exact ⟨_, rfl, trivial, k_L_sound_19 (k_L_law_1377 ⟨v1, v2, bud (c := c + 1) (s := s + 6) (by omega) (by omega) (by decide) (by decide), an _ (fun b K H2 iv2 k0 => k_L_law_1395 ⟨bud (c := c + 1) (s := s + 6) (by omega) (by omega) (by decide) (by decide), s_X10_thrown (k_L_law_1401 ⟨fun _ => ⟨fun z => absurd z (by decide), fun _ => nx _ _ _ _ _ _ _ iv2 (by show c + 1 + 0 + 0 ≤ c + 1; omega) (by show s + 6 + 0 + 0 ≤ s + 6; omega)⟩, fun n => absurd k0 n⟩)⟩)⟩)⟩
theorem lw_siren (hc : c < 600000) (hs : s + 6 ≤ 7000000) (v1 : vp_in (x4 + 1) X.1) (iv : Inv N I L F) (nx : NxT X Q x4 N c s) : vp_in (x4 + 1) X.1 ∧ ((c + am_bc mL_siren ≤ am_bc mL_law ∧ s + am_bs mL_siren ≤ am_bs mL_law) ∧ (WP mL_siren 0 (am_ent 4 [.ref 0, .int (X.2 (Int32.toNatClampNeg (x4 + 1))), .ref 540]) [] (G X I L F) 0 0 (am_kq mL_law 1436 [some (.ref 1000000), some (.ref 0), some (.ref 498), some (.ref 540), some (.int x4), d5, d6] [] (c + am_bc mL_siren) (s + am_bs mL_siren) Q))) := by
  refine ⟨v1, bud (by omega) (by omega) (by decide) (by decide), k_L_siren_0 (op_siren iv _ (fun v J M H an => k_L_siren_7 ⟨in01, ?_⟩) (fun e J M H he an => ?_))⟩
  · exact k_L_law_1439 ⟨v1, bud (c := c + 1) (s := s + 6) (by omega) (by omega) (by decide) (by decide), an _ _ (fun K H2 iv2 k0 => k_L_law_1451 ⟨bud (c := c + 1) (s := s + 6) (by omega) (by omega) (by decide) (by decide), s_X10_thrown (k_L_law_1457 ⟨fun _ => ⟨fun _ => ⟨fun _ => nx _ _ _ _ _ _ _ iv2 (by show c + 1 + 0 + 0 ≤ c + 1; omega) (by show s + 6 + 0 + 0 ≤ s + 6; omega), fun n => absurd lg_self n⟩, fun n => absurd rfl n⟩, fun n => absurd k0 n⟩)⟩)⟩
  · have ee : e = 0 := by
      unfold plA at he
      by_cases h : e = 0
      · exact h
      · rw [if_neg h] at he; exact absurd rfl he
    subst ee
    exact ⟨_, rfl, trivial, k_L_siren_13 (k_L_law_1439 ⟨v1, bud (c := c + 1) (s := s + 6) (by omega) (by omega) (by decide) (by decide), an _ (fun b K H2 iv2 k0 => k_L_law_1451 ⟨bud (c := c + 1) (s := s + 6) (by omega) (by omega) (by decide) (by decide), s_X10_thrown (k_L_law_1457 ⟨fun _ => ⟨fun z => absurd z (by decide), fun _ => nx _ _ _ _ _ _ _ iv2 (by show c + 1 + 0 + 0 ≤ c + 1; omega) (by show s + 6 + 0 + 0 ≤ s + 6; omega)⟩, fun n => absurd k0 n⟩)⟩)⟩)⟩
theorem lw_walkers (hc : c < 600000) (hs : s + 6 ≤ 7000000) (v1 : vp_in (x4 + 1) X.1) (iv : Inv N I L F) (nx : NxT X Q x4 N c s) : vp_in (x4 + 1) X.1 ∧ ((c + am_bc mL_walkers ≤ am_bc mL_law ∧ s + am_bs mL_walkers ≤ am_bs mL_law) ∧ (WP mL_walkers 0 (am_ent 4 [.ref 0, .int (X.2 (Int32.toNatClampNeg (x4 + 1))), .ref 540]) [] (G X I L F) 0 0 (am_kq mL_law 1492 [some (.ref 1000000), some (.ref 0), some (.ref 498), some (.ref 540), some (.int x4), d5, d6] [] (c + am_bc mL_walkers) (s + am_bs mL_walkers) Q))) := by
  refine ⟨v1, bud (by omega) (by omega) (by decide) (by decide), k_L_walkers_0 (op_walkers iv _ (fun v J M H an => k_L_walkers_7 ⟨in01, ?_⟩) (fun e J M H he an => ?_))⟩
  · exact k_L_law_1495 ⟨v1, bud (c := c + 1) (s := s + 6) (by omega) (by omega) (by decide) (by decide), an _ _ (fun K H2 iv2 k0 => k_L_law_1507 ⟨bud (c := c + 1) (s := s + 6) (by omega) (by omega) (by decide) (by decide), s_X10_thrown (k_L_law_1513 ⟨fun _ => ⟨fun _ => ⟨fun _ => nx _ _ _ _ _ _ _ iv2 (by show c + 1 + 0 + 0 ≤ c + 1; omega) (by show s + 6 + 0 + 0 ≤ s + 6; omega), fun n => absurd lg_self n⟩, fun n => absurd rfl n⟩, fun n => absurd k0 n⟩)⟩)⟩
  · have ee : e = 0 := by
      unfold plA at he
      by_cases h : e = 0
      · exact h
      · rw [if_neg h] at he; exact absurd rfl he
    subst ee
    exact ⟨_, rfl, trivial, k_L_walkers_13 (k_L_law_1495 ⟨v1, bud (c := c + 1) (s := s + 6) (by omega) (by omega) (by decide) (by decide), an _ (fun b K H2 iv2 k0 => k_L_law_1507 ⟨bud (c := c + 1) (s := s + 6) (by omega) (by omega) (by decide) (by decide), s_X10_thrown (k_L_law_1513 ⟨fun _ => ⟨fun z => absurd z (by decide), fun _ => nx _ _ _ _ _ _ _ iv2 (by show c + 1 + 0 + 0 ≤ c + 1; omega) (by show s + 6 + 0 + 0 ≤ s + 6; omega)⟩, fun n => absurd k0 n⟩)⟩)⟩)⟩
theorem lw_trust (hc : c < 600000) (hs : s + 6 ≤ 7000000) (v1 : vp_in (x4 + 1) X.1) (iv : Inv N I L F) (nx : NxT X Q x4 N c s) : vp_in (x4 + 1) X.1 ∧ ((c + am_bc mL_trust ≤ am_bc mL_law ∧ s + am_bs mL_trust ≤ am_bs mL_law) ∧ (WP mL_trust 0 (am_ent 4 [.ref 0, .int (X.2 (Int32.toNatClampNeg (x4 + 1))), .ref 540]) [] (G X I L F) 0 0 (am_kq mL_law 1548 [some (.ref 1000000), some (.ref 0), some (.ref 498), some (.ref 540), some (.int x4), d5, d6] [] (c + am_bc mL_trust) (s + am_bs mL_trust) Q))) := by
  refine ⟨v1, bud (by omega) (by omega) (by decide) (by decide), k_L_trust_0 (op_trust iv _ (fun v J M H an => k_L_trust_7 ⟨in01, ?_⟩) (fun e J M H he an => ?_))⟩
  · exact k_L_law_1551 ⟨v1, bud (c := c + 1) (s := s + 6) (by omega) (by omega) (by decide) (by decide), an _ _ (fun K H2 iv2 k0 => k_L_law_1563 ⟨bud (c := c + 1) (s := s + 6) (by omega) (by omega) (by decide) (by decide), s_X10_thrown (k_L_law_1569 ⟨fun _ => ⟨fun _ => ⟨fun _ => nx _ _ _ _ _ _ _ iv2 (by show c + 1 + 0 + 0 ≤ c + 1; omega) (by show s + 6 + 0 + 0 ≤ s + 6; omega), fun n => absurd lg_self n⟩, fun n => absurd rfl n⟩, fun n => absurd k0 n⟩)⟩)⟩
  · have ee : e = 0 := by
      unfold plA at he
      by_cases h : e = 0
      · exact h
      · rw [if_neg h] at he; exact absurd rfl he
    subst ee
    exact ⟨_, rfl, trivial, k_L_trust_13 (k_L_law_1551 ⟨v1, bud (c := c + 1) (s := s + 6) (by omega) (by omega) (by decide) (by decide), an _ (fun b K H2 iv2 k0 => k_L_law_1563 ⟨bud (c := c + 1) (s := s + 6) (by omega) (by omega) (by decide) (by decide), s_X10_thrown (k_L_law_1569 ⟨fun _ => ⟨fun z => absurd z (by decide), fun _ => nx _ _ _ _ _ _ _ iv2 (by show c + 1 + 0 + 0 ≤ c + 1; omega) (by show s + 6 + 0 + 0 ≤ s + 6; omega)⟩, fun n => absurd k0 n⟩)⟩)⟩)⟩
theorem lw_saved (hc : c < 600000) (hs : s + 6 ≤ 7000000) (v1 : vp_in (x4 + 1) X.1) (iv : Inv N I L F) (nx : NxT X Q x4 N c s) : vp_in (x4 + 1) X.1 ∧ ((c + am_bc mL_saved ≤ am_bc mL_law ∧ s + am_bs mL_saved ≤ am_bs mL_law) ∧ (WP mL_saved 0 (am_ent 4 [.ref 0, .int (X.2 (Int32.toNatClampNeg (x4 + 1))), .ref 540]) [] (G X I L F) 0 0 (am_kq mL_law 1604 [some (.ref 1000000), some (.ref 0), some (.ref 498), some (.ref 540), some (.int x4), d5, d6] [] (c + am_bc mL_saved) (s + am_bs mL_saved) Q))) := by
  refine ⟨v1, bud (by omega) (by omega) (by decide) (by decide), k_L_saved_0 (op_saved iv _ (fun v J M H an => k_L_saved_7 ⟨in01, ?_⟩) (fun e J M H he an => ?_))⟩
  · exact k_L_law_1607 ⟨v1, bud (c := c + 1) (s := s + 6) (by omega) (by omega) (by decide) (by decide), an _ _ (fun K H2 iv2 k0 => k_L_law_1619 ⟨bud (c := c + 1) (s := s + 6) (by omega) (by omega) (by decide) (by decide), s_X10_thrown (k_L_law_1625 ⟨fun _ => ⟨fun _ => ⟨fun _ => nx _ _ _ _ _ _ _ iv2 (by show c + 1 + 0 + 0 ≤ c + 1; omega) (by show s + 6 + 0 + 0 ≤ s + 6; omega), fun n => absurd lg_self n⟩, fun n => absurd rfl n⟩, fun n => absurd k0 n⟩)⟩)⟩
  · have ee : e = 0 := by
      unfold plA at he
      by_cases h : e = 0
      · exact h
      · rw [if_neg h] at he; exact absurd rfl he
    subst ee
    exact ⟨_, rfl, trivial, k_L_saved_13 (k_L_law_1607 ⟨v1, bud (c := c + 1) (s := s + 6) (by omega) (by omega) (by decide) (by decide), an _ (fun b K H2 iv2 k0 => k_L_law_1619 ⟨bud (c := c + 1) (s := s + 6) (by omega) (by omega) (by decide) (by decide), s_X10_thrown (k_L_law_1625 ⟨fun _ => ⟨fun z => absurd z (by decide), fun _ => nx _ _ _ _ _ _ _ iv2 (by show c + 1 + 0 + 0 ≤ c + 1; omega) (by show s + 6 + 0 + 0 ≤ s + 6; omega)⟩, fun n => absurd k0 n⟩)⟩)⟩)⟩
theorem lw_alarm (hc : c ≤ 600000) (hs : s ≤ 7000000) (iv : Inv N I L F) (nx : NxT X Q x4 N c s) : (c + am_bc mX9_alarm ≤ am_bc mL_law ∧ s + am_bs mX9_alarm ≤ am_bs mL_law) ∧ (WP mX9_alarm 0 (am_ent 6 [.ref 0]) [] (G X I L F) 0 0 (am_kq mL_law 1653 [some (.ref 1000000), some (.ref 0), some (.ref 498), some (.ref 540), some (.int x4), d5, d6] [] (c + am_bc mX9_alarm) (s + am_bs mX9_alarm) Q)) := by
  refine ⟨bud hc hs (by decide) (by decide), op_alarm iv _ (fun v J M H an => k_L_law_1656 ⟨bud (c := c) (s := s) hc hs (by decide) (by decide), an _ (fun K H2 iv2 => k_L_law_1660 ⟨fun _ => nx _ _ _ _ _ _ _ iv2 (by show c + 0 + 0 ≤ c + 1; omega) (by show s + 0 + 0 ≤ s + 6; omega), fun n => absurd rfl n⟩)⟩)⟩
theorem lw_pass (hc : c < 600000) (hs : s + 6 ≤ 7000000) (v1 : vp_in (x4 + 1) X.1) (iv : Inv N I L F) (nx : NxT X Q x4 N c s) : vp_in (x4 + 1) X.1 ∧ ((c + am_bc mL_pass ≤ am_bc mL_law ∧ s + am_bs mL_pass ≤ am_bs mL_law) ∧ (WP mL_pass 0 (am_ent 4 [.ref 0, .int (X.2 (Int32.toNatClampNeg (x4 + 1))), .ref 540]) [] (G X I L F) 0 0 (am_kq mL_law 1673 [some (.ref 1000000), some (.ref 0), some (.ref 498), some (.ref 540), some (.int x4), d5, d6] [] (c + am_bc mL_pass) (s + am_bs mL_pass) Q))) := by
  refine ⟨v1, bud (by omega) (by omega) (by decide) (by decide), k_L_pass_0 (op_pass iv _ (fun v J M H an => k_L_pass_7 ⟨in01, ?_⟩) (fun e J M H he an => ?_))⟩
  · exact k_L_law_1676 ⟨v1, bud (c := c + 1) (s := s + 6) (by omega) (by omega) (by decide) (by decide), an _ _ (fun K H2 iv2 k0 => k_L_law_1688 ⟨bud (c := c + 1) (s := s + 6) (by omega) (by omega) (by decide) (by decide), s_X10_thrown (k_L_law_1694 ⟨fun _ => ⟨fun _ => ⟨fun _ => nx _ _ _ _ _ _ _ iv2 (by show c + 1 + 0 + 0 ≤ c + 1; omega) (by show s + 6 + 0 + 0 ≤ s + 6; omega), fun n => absurd lg_self n⟩, fun n => absurd rfl n⟩, fun n => absurd k0 n⟩)⟩)⟩
  · have ee : e = 1 ∨ e = 2 := by
      unfold plB at he
      by_cases h : e = 1
      · exact Or.inl h
      · rw [if_neg h] at he
        by_cases h2 : e = 2
        · exact Or.inr h2
        · rw [if_neg h2] at he; exact absurd rfl he
    rcases ee with ee | ee
    · subst ee
      exact ⟨_, rfl, trivial, k_L_pass_13 (k_L_law_1676 ⟨v1, bud (c := c + 1) (s := s + 6) (by omega) (by omega) (by decide) (by decide), an _ (fun b K H2 iv2 k0 => k_L_law_1688 ⟨bud (c := c + 1) (s := s + 6) (by omega) (by omega) (by decide) (by decide), s_X10_thrown (k_L_law_1694 ⟨fun _ => ⟨fun z => absurd z (by decide), fun _ => nx _ _ _ _ _ _ _ iv2 (by show c + 1 + 0 + 0 ≤ c + 1; omega) (by show s + 6 + 0 + 0 ≤ s + 6; omega)⟩, fun n => absurd k0 n⟩)⟩)⟩)⟩
    · subst ee
      exact ⟨_, rfl, trivial, k_L_pass_16 (k_L_law_1676 ⟨v1, bud (c := c + 1) (s := s + 6) (by omega) (by omega) (by decide) (by decide), an _ (fun b K H2 iv2 k0 => k_L_law_1688 ⟨bud (c := c + 1) (s := s + 6) (by omega) (by omega) (by decide) (by decide), s_X10_thrown (k_L_law_1694 ⟨fun _ => ⟨fun z => absurd z (by decide), fun _ => nx _ _ _ _ _ _ _ iv2 (by show c + 1 + 0 + 0 ≤ c + 1; omega) (by show s + 6 + 0 + 0 ≤ s + 6; omega)⟩, fun n => absurd k0 n⟩)⟩)⟩)⟩
end LW
