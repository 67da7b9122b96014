/-! own: a rule is told -/
set_option maxRecDepth 100000
def gRul (d n : Nat) (J : Nat → Nat → Int32) : Nat → Nat → Int32 := fun o k => if o = 1000523 ∧ 40 * d ≤ k ∧ k < 40 * d + n then J 2 (k - 40 * d) else J o k
section ZRU
variable {X : Nat × (Nat × (Nat → Int32))} {I J K : Nat → Nat → Int32} {L M : Nat → Nat → Int64} {F H : Nat → Nat → UInt32} {Q : AQ} {N T rc sc t n d r v k h x m j c0 : Nat} {s z : AS}
theorem gRul_ne {o k : Nat} (h : ¬ (o = 1000523 ∧ 40 * d ≤ k ∧ k < 40 * d + n)) : gRul d n J o k = J o k := if_neg h
theorem z_rule (hX : X.1 ≤ 400000) (iv : Al s T rc sc t n N I L F) (hd : d < 3) (tx : Txt 1 (seg (I 2) 0 n)) (hb : I 1000517 d ≠ 0) (q : ∀ J, Al s T rc sc t n N J L F → Q (.inl none) (G X J L F)) : WP mX9_rule 0 (am_ent 3 [.ref 0, .int (nI d)]) [] (G X I L F) 0 0 Q := by
  obtain ⟨iv, lc⟩ := iv
  have da := iv.2.2.2.2.2.1
  obtain ⟨n40, d1, d2, dk⟩ := iv.2.1
  have i : InN (nI d) 3 := ⟨d, hd, rfl⟩
  have hin : vp_in (nI d) 3 := nI_in hd (by decide)
  have cd : (nI d).toNatClampNeg = d := nI_clamp (by omega)
  refine k_X9_rule_0 ⟨fun a => absurd a (by rw [d9_1 i]; exact n10), fun _ => sp_read d1 n40 (Or.inr rfl) (fun J fr ok => k_X9_rule_30 ?_)⟩
  have iv1 := iv.rd fr
  have lc1 : LC s rc sc t J F := lc.fr (LQ.rdf fr) LQF.refl
  have da1 := iv1.2.2.2.2.2.1
  obtain ⟨z1, z2, z3, z4, z5, z6, z7, z8, z9, z10, z11⟩ := (da1 d hd).1
  have f0 : rFault 1 (seg (I 2) 0 n) = -1 := (txt_fault (by rw [seg_len]; exact n40)).mpr tx
  refine ⟨fun _ => ⟨hin, ?_⟩, fun h => absurd f0 h⟩
  rw [cd, z1]
  refine ⟨fun b => absurd b (by rw [fr _ _ (by omega)]; exact hb), fun b => ?_⟩
  have fc := (ok f0).fc
  have if4 : isFor (423 + 5 * d + 1) := (gi_damN hd).2.2.2.1
  refine sp_copy if4 isFor_4 (by omega) (fun J2 cp => k_X9_rule_87 (gi_damN hd) ?_)
  obtain ⟨cp1, ⟨cp2, cp3, cp4⟩, cp5⟩ := cp
  have hi : ∀ o k, ¬ (424 + 5 * d ≤ o ∧ o ≤ 426 + 5 * d) → ¬ (o = 423 + 5 * d ∧ k = 6) → J2 o k = J o k := fun o k a b => by rw [cp5 o k (by omega), am_u_ne (by omega)]
  have hj : ∀ k, am_u J (423 + 5 * d) 6 1 4 k = J 4 k ∧ am_u J (423 + 5 * d) 6 1 5 k = J 5 k ∧ am_u J (423 + 5 * d) 6 1 6 k = J 6 k := fun k => ⟨am_u_ne (by omega), am_u_ne (by omega), am_u_ne (by omega)⟩
  have fc2 : FC J2 (424 + 5 * d) (rForm 1 (seg (I 2) 0 n)) := by
    obtain ⟨y1, y2, y3, y4⟩ := fc
    have ln := tx.len
    refine ⟨?_, ?_, ?_, ?_⟩
    · rw [show 424 + 5 * d = 423 + 5 * d + 1 by omega, cp2, (hj 2).1]; exact y1
    · rw [show 424 + 5 * d + 1 = 423 + 5 * d + 1 + 1 by omega, show 424 + 5 * d + 2 = 423 + 5 * d + 1 + 2 by omega]
      have : ∀ (l : FM), l.length ≤ 40 → StkP J 5 6 l → StkP J2 (423 + 5 * d + 1 + 1) (423 + 5 * d + 1 + 2) l := by
        intro l
        induction l with
        | nil => exact fun _ _ => trivial
        | cons p l ih =>
          intro hl ⟨s1, s2, s3⟩
          have hl2 : l.length + 1 ≤ 40 := hl
          obtain ⟨c1, c2⟩ := cp1 l.length (by omega)
          exact ⟨c1.trans ((hj _).2.1.trans s1), c2.trans ((hj _).2.2.trans s2), ih (by omega) s3⟩
      exact this _ ln y2
    · rw [show 424 + 5 * d = 423 + 5 * d + 1 by omega, cp3, (hj 3).1]; exact y3
    · rw [show 424 + 5 * d = 423 + 5 * d + 1 by omega, cp4, (hj 4).1]; exact y4
  rw [G_eq (J := am_u (am_u (gRul d n J2) 1000521 d 1) 1000522 d (nI n)) (H := F) (fun o k h => by rw [am_u_ne (by omega), am_u_ne (by omega), gRul_ne (by omega)]) (fun _ _ _ => rfl)]
  have kg : ∀ o k, ¬ ((o = 1000521 ∨ o = 1000522) ∧ k = d) → ¬ (o = 1000523 ∧ 40 * d ≤ k ∧ k < 40 * d + n) → am_u (am_u (gRul d n J2) 1000521 d 1) 1000522 d (nI n) o k = J2 o k := fun o k a b => by
    rw [am_u_ne (by omega), am_u_ne (by omega), gRul_ne b]
  have all : ∀ o k, ¬ (423 + 5 * d ≤ o ∧ o ≤ 426 + 5 * d) → ¬ ((o = 1000521 ∨ o = 1000522) ∧ k = d) → ¬ (o = 1000523 ∧ 40 * d ≤ k ∧ k < 40 * d + 40) → am_u (am_u (gRul d n J2) 1000521 d 1) 1000522 d (nI n) o k = J o k := fun o k a c e => by
    rw [kg o k c (by omega), hi o k (by omega) (by omega)]
  have dmc : ∀ k, k ≠ 6 → am_u (am_u (gRul d n J2) 1000521 d 1) 1000522 d (nI n) (423 + 5 * d) k = J (423 + 5 * d) k := fun k hk => by
    rw [kg _ k (by omega) (by omega), hi _ k (by omega) (by omega)]
  have kk : ∀ o, 1000517 ≤ o → o ≤ 1000529 → o ≠ 1000521 → o ≠ 1000522 → o ≠ 1000523 → am_u (am_u (gRul d n J2) 1000521 d 1) 1000522 d (nI n) o d = J o d := fun o a b c e g => by
    rw [kg o d (by omega) (by omega), hi o d (by omega) (by omega)]
  generalize hK : am_u (am_u (gRul d n J2) 1000521 d 1) 1000522 d (nI n) = K at kg all dmc kk ⊢
  have k521 : K 1000521 d = 1 := by rw [← hK, am_u_ne (by omega), am_u_eq]
  have k522 : K 1000522 d = nI n := by rw [← hK, am_u_eq]
  have k6 : K (423 + 5 * d) 6 = 1 := by rw [kg _ _ (by omega) (by omega), cp5 _ _ (by omega), am_u_eq]
  have s523 : seg (K 1000523) (40 * d) n = seg (I 2) 0 n := seg_cong n (40 * d) 0 (fun k hk => by
    rw [← hK, am_u_ne (by omega), am_u_ne (by omega)]
    show (if 1000523 = 1000523 ∧ 40 * d ≤ 40 * d + k ∧ 40 * d + k < 40 * d + n then J2 2 (40 * d + k - 40 * d) else _) = _
    rw [if_pos ⟨rfl, by omega, by omega⟩, Nat.add_sub_cancel_left, Nat.zero_add, hi 2 k (by omega) (by omega)]
    exact fr 2 k (by omega))
  refine q K ⟨InvS.damc iv1 hd (fun o k a _ c e g h => all o k a (by omega) e) (dmc 13 (by decide)) ?_, lc1.fr ⟨fun r hr => all _ _ (by omega) (by omega) (by omega), fun o k h => all o k (by omega) (by omega) (by omega)⟩ LQF.refl⟩
  refine ⟨?_, ?_, k6.trans k521.symm, fun _ => ⟨n, n40, k522, ?_, ?_⟩, ?_, ?_, ?_, ?_, ?_, ?_, ?_⟩
  · rw [dmc 2 (by decide), kk 1000517 (by decide) (by decide) (by decide) (by decide) (by decide)]; exact z1
  · rw [dmc 3 (by decide), dmc 4 (by decide), kk 1000517 (by decide) (by decide) (by decide) (by decide) (by decide), kk 1000518 (by decide) (by decide) (by decide) (by decide) (by decide), kk 1000519 (by decide) (by decide) (by decide) (by decide) (by decide)]; exact z2
  · rw [s523]; exact tx
  · rw [s523]
    exact FC_fr (fun x y h => kg x y (by omega) (by omega)) fc2
  · rw [dmc 7 (by decide), kk 1000524 (by decide) (by decide) (by decide) (by decide) (by decide)]; exact z5
  · rw [kk 1000524 (by decide) (by decide) (by decide) (by decide) (by decide)]; exact z6
  · rw [dmc 8 (by decide), kk 1000526 (by decide) (by decide) (by decide) (by decide) (by decide)]; exact z7
  · rw [kk 1000526 (by decide) (by decide) (by decide) (by decide) (by decide), kk 1000517 (by decide) (by decide) (by decide) (by decide) (by decide)]; exact z8
  · rw [dmc 9 (by decide), kk 1000527 (by decide) (by decide) (by decide) (by decide) (by decide)]; exact z9
  · rw [dmc 10 (by decide), kk 1000528 (by decide) (by decide) (by decide) (by decide) (by decide)]; exact z10
  · rw [dmc 11 (by decide), kk 1000529 (by decide) (by decide) (by decide) (by decide) (by decide)]; exact z11
end ZRU
