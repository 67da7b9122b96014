/-! own: the law's rules of three letters -/
set_option maxRecDepth 100000
def ruA (i : Nat) : Nat := if i = 0 then 108 else if i = 1 then 102 else if i = 2 then 114 else 104
def ruB (i : Nat) : Nat := if i = 0 then 43 else if i = 1 then 45 else if i = 2 then 42 else 47
theorem ruA_ok : ∀ i, i < 4 → (if nI i = 0 then (108 : Int32) else (if nI i = 1 then 102 else (if nI i = 2 then 114 else 104))) = nI (ruA i) ∧ ruA i < 256 ∧ isLb (ruA i) = true := by decide +kernel
theorem ruB_ok : ∀ i, i < 4 → (if nI i = 0 then (43 : Int32) else (if nI i = 1 then 45 else (if nI i = 2 then 42 else 47))) = nI (ruB i) ∧ ruB i < 256 ∧ isLb (ruB i) = true := by decide +kernel
theorem ru_flt : ∀ i, i < 4 → ∀ j, j < 4 → ∀ g, g < 10 → rFault 1 [nI (ruA i), nI (ruB j), nI (48 + g)] = -1 ∧ rFault 0 [nI (ruA i), nI (ruB j), nI (48 + g)] = if nI i = 3 then -1 else 0 := by decide +kernel
section LRU
variable {X : Nat × (Nat × (Nat → Int32))} {I : Nat → Nat → Int32} {L : Nat → Nat → Int64} {F : Nat → Nat → UInt32} {Q : AQ} {N T rc sc t n d a b : Nat} {s : AS}
theorem sp_rules (hX : X.1 ≤ 400000) (iv : Al s T rc sc t n N I L F) (hd : d < 3) (hb : I 1000517 d ≠ 0) (la : a < 2 ^ 31) (lb : b < 2 ^ 31) (q : ∀ n2 J, Al s T rc sc t n2 N J L F → Q (.inl (some (.int 1))) (G X J L F)) : WP mL_rules 0 (am_ent 7 [.ref 0, .int (nI d), .int (nI a), .int (nI b)]) [] (G X I L F) 0 0 Q := by
  have one : ¬ (1 : Int32) = 0 := by decide
  obtain ⟨J, ge, fe, a1, f1⟩ := wipe_al hX iv
  have n40 := iv.1.2.1.1
  have ra : nI a - nI a / 4 * 4 = nI (a % 4) := rem_n (d := 4) la (by decide) (by decide)
  have rb : nI b - nI b / 4 * 4 = nI (b % 4) := rem_n (d := 4) lb (by decide) (by decide)
  have da : nI a / 4 = nI (a / 4) := pk_div (d := 4) la (by decide) (by decide)
  have rg : nI (a / 4) - nI (a / 4) / 10 * 10 = nI (a / 4 % 10) := rem10 (by omega)
  obtain ⟨x1, x2, x3⟩ := ruA_ok (a % 4) (Nat.mod_lt _ (by decide))
  obtain ⟨y1, y2, y3⟩ := ruB_ok (b % 4) (Nat.mod_lt _ (by decide))
  have lg := Nat.mod_lt (a / 4) (show 0 < 10 by decide)
  obtain ⟨fl1, fl0⟩ := ru_flt (a % 4) (Nat.mod_lt _ (by decide)) (b % 4) (Nat.mod_lt _ (by decide)) (a / 4 % 10) lg
  refine k_L_rules_0 ?_
  rw [fe, ge, ra, rb, x1, y1]
  intro w ew v ev u eu
  rw [if_neg (nI_pos (by omega))] at ew
  subst ew ev eu
  refine ⟨fun h => absurd h one, fun _ => ?_⟩
  rw [chr_n _ x2]
  refine z_type hX a1 (by decide) x2 x3 (fun J1 b1 h1 g1 e1 => k_L_rules_104 ⟨fun _ => ⟨by decide, ?_⟩, fun h => absurd (show nI 1 = 1 from rfl) h⟩)
  rw [chr_n _ y2]
  refine z_type hX b1 (by decide) y2 y3 (fun J2 b2 h2 g2 e2 => k_L_rules_115 ⟨fun _ => ⟨by decide, ?_⟩, fun h => absurd (show nI 2 = 2 from rfl) h⟩)
  rw [da, rg, nI_ofd, chr_n _ (show 48 + a / 4 % 10 < 256 by omega)]
  refine z_type hX b2 (by decide) (show 48 + a / 4 % 10 < 256 by omega) (dig_ok _ lg) (fun J3 b3 h3 g3 e3 => k_L_rules_133 ⟨fun _ => ⟨by decide, ?_⟩, fun h => absurd (show nI 3 = 3 from rfl) h⟩)
  have sg : seg (J3 2) 0 3 = [nI (ruA (a % 4)), nI (ruB (b % 4)), nI (48 + a / 4 % 10)] := by
    show [J3 2 0, J3 2 1, J3 2 2] = _
    have c0 : J3 2 0 = nI (ruA (a % 4)) := by rw [g3 0 (by decide), g2 0 (by decide)]; exact e1
    have c1 : J3 2 1 = nI (ruB (b % 4)) := by rw [g3 1 (by decide)]; exact e2
    have c2 : J3 2 2 = nI (48 + a / 4 % 10) := e3
    rw [c0, c1, c2]
  refine z_fault b3 (Or.inr rfl) (fun J4 b4 h4 e4 => k_L_rules_142 ⟨fun _ => ⟨by decide, ?_⟩, fun h => absurd (show rFault 1 (seg (J3 2) 0 3) = -1 by rw [sg]; exact fl1) h⟩)
  have s4 : seg (J4 2) 0 3 = seg (J3 2) 0 3 := seg_cong 3 0 0 (fun j _ => e4 _)
  refine z_fault b4 (Or.inl rfl) (fun J5 b5 h5 e5 => k_L_rules_151 ?_)
  rw [ra]
  intro y ey z ez
  have s5 : seg (J5 2) 0 3 = [nI (ruA (a % 4)), nI (ruB (b % 4)), nI (48 + a / 4 % 10)] := (seg_cong 3 0 0 (fun j _ => e5 _)).trans (s4.trans sg)
  have ez1 : z = 1 := by
    rw [ez, s4, sg, fl0, ey, if_pos rfl]
  rw [ez1]
  have tx : Txt 1 (seg (J5 2) 0 3) := (txt_fault (by rw [seg_len]; decide)).mp (by rw [s5]; exact fl1)
  have hb5 : J5 1000517 d ≠ 0 := by
    rw [← (b5.2.2.1 d hd).1.1, h5 _ _ (by omega) (by omega), h4 _ _ (by omega) (by omega), h3 _ _ (by omega) (by omega), h2 _ _ (by omega) (by omega), h1 _ _ (by omega) (by omega), f1 _ _ (by omega) (by omega), (iv.2.2.1 d hd).1.1]
    exact hb
  exact ⟨by decide, z_rule hX b5 hd tx hb5 (fun J6 b6 => k_L_rules_178 ⟨Or.inr rfl, q 3 J6 b6⟩)⟩
end LRU
