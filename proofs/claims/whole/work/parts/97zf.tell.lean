/-! own: texts typed, dams told, both sides -/
set_option maxRecDepth 100000
def AnsU (X : Nat × (Nat → Int32)) (N y : Nat) (ent : List (Option Value)) (v : Int32) (I : Nat → Nat → Int32) (L : Nat → Nat → Int64) (F : Nat → Nat → UInt32) : Prop := ∀ Q : AQ, (∀ J H, Inv N J L H → Q (.inl (some (.int v))) (G X J L H)) → WP y 0 ent [] (G X I L F) 0 0 Q
def OpU (X : Nat × (Nat → Int32)) (N : Nat) (cls : AQ → Prop) (y : Nat) (ent : List (Option Value)) : Prop := ∀ Q : AQ, (∀ v J M H, AnsU X N y ent v J M H → Q (.inl (some (.int v))) (G X J M H)) → cls Q
/-- a letter that a text may have -/
def isLb (c : Nat) : Bool := (Nat.ble 97 c && Nat.ble c 122) || (Nat.ble 48 c && Nat.ble c 57) || Nat.beq c 43 || Nat.beq c 45 || Nat.beq c 42 || Nat.beq c 47 || Nat.beq c 40 || Nat.beq c 41 || Nat.beq c 44 || Nat.beq c 46
def mLt (ch : Int32) : Int32 := (if (f_X10_isIn ch 97 122) = 0 then (if (f_X10_isFigure ch) = 0 then (if (f_X10_isSign ch) = 0 then (if ch = 40 then 1 else (if ch = 41 then 1 else (if ch = 44 then 1 else (if ch = 46 then 1 else 0 : Int32) : Int32) : Int32) : Int32) else 1 : Int32) else 1 : Int32) else 1 : Int32)
def ixF (x4 : Int32) : Nat → Nat → Int32
  | 0, _ => -1
  | m + 1, j => if am_nt [43, 45, 42, 47, 40, 41, 44, 46] j 0 = x4 then nI j else ixF x4 m (j + 1)
def ixO (ch : Int32) : Int32 := if f_J1_canEncode_9a6ad ch = 0 then -1 else ixF (Int8.toInt32 (Int32.toInt8 ch)) 8 0
def ixR (ch : Int32) : Int32 := if ixO ch < 0 then 0 else 1
def cLt (ch : Int32) : Int32 := if ch < 97 then (if ch < 48 then ixR ch else (if ch ≤ 57 then 1 else ixR ch)) else (if ch ≤ 122 then 1 else (if ch < 48 then ixR ch else (if ch ≤ 57 then 1 else ixR ch)))
theorem mLt_lo : ∀ c, c < 256 → mLt (nI c) = if isLb c = true then 1 else 0 := by decide +kernel
theorem cLt_lo : ∀ c, c < 256 → cLt (nI c) = if isLb c = true then 1 else 0 := by decide +kernel
theorem isLb_lo : ∀ c, c < 256 → isLb c = true → vp_nar .char (nI c) = nI c := by decide +kernel
section OC1
variable {X : Nat × (Nat → Int32)} {I J : Nat → Nat → Int32} {L M : Nat → Nat → Int64} {F H : Nat → Nat → UInt32} {Q : AQ} {N T rc sc t n n2 d c : Nat} {s : AS} {p0 p1 p2 p3 : Int32}
theorem mLt_hi (h : 256 ≤ c) (hc : c < 65536) : mLt (nI c) = 0 := by
  have lt : ∀ k, k < 256 → ¬ nI c < nI k := fun k hk z => by have := (nI_ltI (by omega) (by omega)).mp z; omega
  have gt : ∀ k, k < 256 → nI k < nI c := fun k hk => (nI_ltI (by omega) (by omega)).mpr (by omega)
  have ne : ∀ k, k < 256 → ¬ nI c = nI k := fun k hk z => by have := (nI_eq (by omega) (by omega)).mp z; omega
  have e1 : f_X10_isIn (nI c) 97 122 = 0 := by unfold f_X10_isIn; rw [if_neg (show ¬ nI c < (97 : Int32) from lt 97 (by decide)), if_pos (show (122 : Int32) < nI c from gt 122 (by decide))]
  have e2 : f_X10_isFigure (nI c) = 0 := by unfold f_X10_isFigure f_X10_isIn; rw [if_neg (show ¬ nI c < (48 : Int32) from lt 48 (by decide)), if_pos (show (57 : Int32) < nI c from gt 57 (by decide))]
  have e3 : f_X10_isSign (nI c) = 0 := by unfold f_X10_isSign; rw [if_neg (show ¬ nI c = (43 : Int32) from ne 43 (by decide)), if_neg (show ¬ nI c = (45 : Int32) from ne 45 (by decide)), if_neg (show ¬ nI c = (42 : Int32) from ne 42 (by decide)), if_neg (show ¬ nI c = (47 : Int32) from ne 47 (by decide))]
  unfold mLt
  rw [e1, if_pos rfl, e2, if_pos rfl, e3, if_pos rfl, if_neg (show ¬ nI c = (40 : Int32) from ne 40 (by decide)), if_neg (show ¬ nI c = (41 : Int32) from ne 41 (by decide)), if_neg (show ¬ nI c = (44 : Int32) from ne 44 (by decide)), if_neg (show ¬ nI c = (46 : Int32) from ne 46 (by decide))]
theorem cLt_hi (h : 256 ≤ c) (hc : c < 65536) : cLt (nI c) = 0 := by
  have lt : ∀ k, k < 256 → ¬ nI c < nI k := fun k hk z => by have := (nI_ltI (by omega) (by omega)).mp z; omega
  have le : ∀ k, k < 256 → ¬ nI c ≤ nI k := fun k hk z => by have := (nI_leI (by omega) (by omega)).mp z; omega
  have gt : ∀ k, k < 256 → nI k < nI c := fun k hk => (nI_ltI (by omega) (by omega)).mpr (by omega)
  have e1 : ixR (nI c) = 0 := by
    unfold ixR ixO f_J1_canEncode_9a6ad
    rw [if_neg (nI_pos (by omega)), if_pos (show (255 : Int32) < nI c from gt 255 (by decide)), if_pos rfl]
    decide
  unfold cLt
  rw [if_neg (show ¬ nI c < (97 : Int32) from lt 97 (by decide)), if_neg (show ¬ nI c ≤ (122 : Int32) from le 122 (by decide)), if_neg (show ¬ nI c < (48 : Int32) from lt 48 (by decide)), if_neg (show ¬ nI c ≤ (57 : Int32) from le 57 (by decide)), e1]
theorem Lt_eq (hc : c < 65536) : cLt (nI c) = mLt (nI c) ∧ (mLt (nI c) = 0 ∨ (mLt (nI c) = 1 ∧ vp_nar .char (nI c) = nI c)) := by
  by_cases h : c < 256
  · rw [cLt_lo c h, mLt_lo c h]
    refine ⟨rfl, ?_⟩
    by_cases b : isLb c = true
    · rw [if_pos b]; exact Or.inr ⟨rfl, isLb_lo c h b⟩
    · rw [if_neg b]; exact Or.inl rfl
  · rw [cLt_hi (by omega) hc, mLt_hi (by omega) hc]
    exact ⟨rfl, Or.inl rfl⟩
theorem sp_ix {x1 x2 x4 : Int32} : ∀ (m j : Nat), j + m = 8 → Q (.inl (some (.int (ixF x4 m j)))) (G X I L F) → WP mJ1_indexOfChar_4cfef 7 [some (.ref 1000002), some (.int x1), some (.int x2), some (.int 8), some (.int x4), some (.int (nI j))] [] (G X I L F) 0 0 Q
  | 0, j, hj, q => by
    have e : j = 8 := by omega
    subst e
    exact k_J1_indexOfChar_4cfef_7 ⟨fun _ => q, fun n => absurd (by decide) n⟩
  | m + 1, j, hj, q => by
    refine k_J1_indexOfChar_4cfef_7 ⟨fun n => absurd ((nI_leI (a := 8) (by decide) (by omega)).mp n) (by omega), fun _ => ⟨nI_in (by omega) (by decide), ?_⟩⟩
    rw [nI_clamp (show j < 2 ^ 31 by omega), nI_1]
    have e : ixF x4 (m + 1) j = if am_nt [43, 45, 42, 47, 40, 41, 44, 46] j 0 = x4 then nI j else ixF x4 m (j + 1) := rfl
    rw [e] at q
    refine ⟨fun h => by rw [if_pos h] at q; exact q, fun h => ?_⟩
    rw [if_neg h] at q
    exact sp_ix m (j + 1) (by omega) q
theorem sp_idx {ch : Int32} (q : Q (.inl (some (.int (ixO ch)))) (G X I L F)) : WP mJ0_indexOf_0f7a4 0 (am_ent 2 [.ref 1000001, .int ch]) [] (G X I L F) 0 0 Q := by
  unfold ixO at q
  refine k_J0_indexOf_0f7a4_0 (k_J0_indexOf_7cf53_0 (k_J1_indexOf_4cfef_0 ?_))
  rw [show f_J9_max_7cf53 0 0 = 0 by decide, show f_J9_min_7cf53 f_J0_length_8abf5 8 = 8 by decide]
  refine ⟨fun a => k_J0_indexOf_7cf53_20 (k_J0_indexOf_0f7a4_6 (by rw [if_pos a] at q; exact q)), fun a => ⟨fun _ => ?_, fun b => absurd (by decide) b⟩⟩
  rw [if_neg a] at q
  exact k_J1_indexOfChar_4cfef_0 (sp_ix 8 0 rfl (k_J1_indexOf_4cfef_36 (k_J0_indexOf_7cf53_20 (k_J0_indexOf_0f7a4_6 q))))
theorem sp_mayHold {ch : Int32} (q : Q (.inl (some (.int (cLt ch)))) (G X I L F)) : WP mX1_mayHold 0 (am_ent 1 [.int ch]) [] (G X I L F) 0 0 Q := by
  have ix : Q (.inl (some (.int (ixR ch)))) (G X I L F) → WP mJ0_indexOf_0f7a4 0 (am_ent 2 [.ref 1000001, .int ch]) [] (G X I L F) 0 0 (am_kq mX1_mayHold 27 [some (.int ch)] [] (0 + am_bc mJ0_indexOf_0f7a4) (0 + am_bs mJ0_indexOf_0f7a4) Q) := fun q => sp_idx (k_X1_mayHold_30 (fun y ey => by
    have ey2 : y = ixR ch := ey
    rw [ey2]
    refine ⟨?_, q⟩
    unfold ixR
    split
    · exact Or.inl rfl
    · exact Or.inr rfl))
  unfold cLt at q
  refine k_X1_mayHold_0 ⟨fun a => ⟨fun b => ix ?_, fun b => ⟨fun c => ?_, fun c => ix ?_⟩⟩, fun a => ⟨fun b => ?_, fun b => ⟨fun c => ix ?_, fun c => ⟨fun d => ?_, fun d => ix ?_⟩⟩⟩⟩
  · rw [if_pos a, if_pos b] at q; exact q
  · rw [if_pos a, if_neg b, if_pos c] at q; exact q
  · rw [if_pos a, if_neg b, if_neg c] at q; exact q
  · rw [if_neg a, if_pos b] at q; exact q
  · rw [if_neg a, if_neg b, if_pos c] at q; exact q
  · rw [if_neg a, if_neg b, if_neg c, if_pos d] at q; exact q
  · rw [if_neg a, if_neg b, if_neg c, if_neg d] at q; exact q
theorem chr (x : Int32) : ∃ c, c < 65536 ∧ UInt32.toInt32 ((Int32.toUInt32 x) % 65536) = nI c := by
  refine ⟨((Int32.toUInt32 x) % 65536).toNat, ?_, ?_⟩
  · rw [UInt32.toNat_mod]
    exact Nat.mod_lt _ (by decide)
  · have h := UInt32.toInt32_ofNat' (n := ((Int32.toUInt32 x) % 65536).toNat)
    rw [UInt32.ofNat_toNat] at h
    exact h
/-- the text changes -/
theorem InvS.draft (z : InvS s T rc sc t n N I L F) (h : ∀ o k, ¬ (o = 1 ∧ k = 1) → o ≠ 2 → o ≠ 499 → ¬ (o = 498 ∧ (k = 0 ∨ k = 2)) → J o k = I o k) (dr : DrI J n2) : InvS s T rc sc t n2 N J L F := by
  obtain ⟨v, _, nw, rr, ⟨tl, hT⟩, da, si⟩ := z
  exact ⟨v.same (fun o k a b c => h o k (by omega) (by omega) (by omega) (by omega)) (h _ _ (by omega) (by omega) (by omega) (by omega)) (fun o a b _ _ _ => funext fun k => h o k (by omega) (by omega) (by omega) (by omega)) (fun _ _ _ _ _ => rfl) rfl, dr, nw.fr (h _ _ (by omega) (by omega) (by omega) (by omega)) (h _ _ (by omega) (by omega) (by omega) (by omega)), rr.fr (h _ _ (by omega) (by omega) (by omega) (by omega)) (h _ _ (by omega) (by omega) (by omega) (by omega)) (fun o k a b => h o k (by omega) (by omega) (by omega) (by omega)) (fun o x => funext fun k => h o k (by omega) (by omega) (by omega) (by omega)) (fun _ _ _ _ => rfl) rfl, ⟨tl.fr (h _ _ (by omega) (by omega) (by omega) (by omega)) (funext fun k => h _ k (by omega) (by omega) (by omega) (by omega)), hT⟩, da.fr (fun o k a b => h o k (by omega) (by omega) (by omega) (by omega)) (fun o k a b => h o k (by omega) (by omega) (by omega) (by omega)) (fun _ _ _ _ => rfl) (fun _ _ _ => rfl) (Nat.le_refl _), si.fr (h _ _ (by omega) (by omega) (by omega) (by omega)) (h _ _ (by omega) (by omega) (by omega) (by omega)) (fun o k a b => h o k (by omega) (by omega) (by omega) (by omega)) (fun o k a b => h o k (by omega) (by omega) (by omega) (by omega)) (Nat.le_refl _)⟩
/-- the class's reader read -/
theorem InvS.rd (z : InvS s T rc sc t n N I L F) (h : RdFr I J) : InvS s T rc sc t n N J L F :=
  z.quiet (z.1.same (fun o k a b c => h o k (by omega)) (h _ _ (by omega)) (fun o a b _ _ _ => funext fun k => h o k (by omega)) (fun _ _ _ _ _ => rfl) rfl) (fun o k x => h o k (by omega)) (fun _ _ _ => rfl)
/-- the model's reader read -/
theorem InvS.fr1 (z : InvS s T rc sc t n N I L F) (h : Fr1 500 I J) : InvS s T rc sc t n N J L F :=
  z.quiet (z.1.same (fun o k a b c => h o k (by omega)) (h _ _ (by omega)) (fun o a b _ _ _ => funext fun k => h o k (by omega)) (fun _ _ _ _ _ => rfl) rfl) (fun o k x => h o k (by omega)) (fun _ _ _ => rfl)
theorem op_type (iv : Inv N I L F) (hx : ∃ c, c < 65536 ∧ p0 = nI c) : OpV X (N + 1) plB (fun Q => WP mX9_type 0 (am_ent 2 [.ref 0, .int p0]) [] (G X I L F) 0 0 Q) mX10_type (am_ent 3 [.ref 498, .int p0]) := by
  intro Q qv qe
  obtain ⟨c, hc, e⟩ := hx
  subst e
  obtain ⟨s, T, rc, sc, t, n, iv⟩ := iv
  obtain ⟨n40, d1, d2, dk⟩ := iv.2.1
  obtain ⟨le, lv⟩ := Lt_eq hc
  have mE : ∀ e, ((e = 1 ∧ mLt (nI c) = 0) ∨ (e = 2 ∧ mLt (nI c) = 1 ∧ n = 40)) → AnsE X (N + 1) mX10_type (am_ent 3 [.ref 498, .int (nI c)]) e I L F := fun e he Q2 q => by
    have pe : (if mLt (nI c) = 0 then (1 : Int32) else (if I 498 2 = 40 then 2 else 0)) = nI e := by
      rcases he with ⟨e, h⟩ | ⟨e, h, h2⟩
      · rw [if_pos h, e]; rfl
      · rw [if_neg (by rw [h]; decide), d2, h2, if_pos (show nI 40 = 40 from rfl), e]; rfl
    have ne : nI e ≠ 0 := by
      rcases he with ⟨e, h⟩ | ⟨e, h, h2⟩ <;> rw [e] <;> decide
    unfold mLt at pe
    refine s_X10_type ?_ ?_
    · unfold p_X10_type
      rw [pe, hol_0 ne]
      exact ⟨fun a => absurd rfl a, trivial⟩
    · unfold f_X10_type fI_X10_type fI_X10_holds
      rw [pe, hol_0 ne, if_pos rfl, if_pos rfl]
      exact q _ _ _ iv.thr.inv am_u_eq
  refine k_X9_type_0 (sp_mayHold (k_X9_type_4 ⟨fun a => qe 1 _ _ _ (by decide) (mE 1 (Or.inl ⟨rfl, by rw [← le]; exact a⟩)), fun a => ?_⟩))
  rw [le] at a
  have lv1 := lv.resolve_left a
  by_cases full : n = 40
  · refine ⟨fun b => absurd b ?_, fun _ => qe 2 _ _ _ (by decide) (mE 2 (Or.inr ⟨rfl, lv1.1, full⟩))⟩
    unfold f_X1_isFull
    rw [d1, full, if_neg (by decide)]
    decide
  · have lt40 : nI n < 40 := (nI_ltI (b := 40) (by omega) (by decide)).mpr (by omega)
    refine ⟨fun _ => ?_, fun b => absurd (by unfold f_X1_isFull; rw [d1, if_pos lt40]) b⟩
    have ea : fI_X1_add (nI c) I = am_u (am_u I 2 n (nI c)) 1 1 (nI (n + 1)) := by
      unfold fI_X1_add
      rw [d1, if_neg (nI_pos (by omega)), if_neg (show ¬ (40 : Int32) ≤ nI n from fun z => by have := (nI_leI (a := 40) (by decide) (by omega)).mp z; omega), nI_clamp (show n < 2 ^ 31 by omega), lv1.2, nI_1]
    have ev : f_X1_add (nI c) I = nI (n + 1) := by
      show fI_X1_add (nI c) I 1 1 = _
      rw [ea, am_u_eq]
    rw [ev, ea]
    refine qv _ _ _ _ (fun z Q2 q => ?_)
    generalize hJ : am_u (am_u I 2 n (nI c)) 1 1 (nI (n + 1)) = J
    have j2 : J 498 2 = nI n := by rw [← hJ, am_u_ne (by omega), am_u_ne (by omega)]; exact d2
    have pe : (if mLt (nI c) = 0 then (1 : Int32) else (if J 498 2 = 40 then 2 else 0)) = 0 := by
      rw [if_neg (by rw [lv1.1]; decide), j2, if_neg (show ¬ nI n = 40 from nI_ne (b := 40) (by omega) (by decide) full)]
    have j3 : am_u J 498 0 0 498 2 = nI n := (am_u_ne (by omega)).trans j2
    unfold mLt at pe
    refine s_X10_type ?_ ?_
    · unfold p_X10_type fI_X10_holds
      rw [pe, hol_1, j3]
      exact ⟨fun _ => ⟨nI_in (by omega) (by decide), trivial⟩, trivial⟩
    · unfold f_X10_type fI_X10_type fI_X10_holds
      rw [pe, hol_1, if_neg n10, if_neg n10, j3, nI_1, nI_clamp (show n < 2 ^ 31 by omega)]
      refine q _ _ (InvS.inv (InvS.draft (n2 := n + 1) (iv.l540 (y := z)) (fun o k a b c d => ?_) ⟨by omega, ?_, ?_, fun k hk => ?_⟩)) ?_
      · rw [am_u_ne (by omega), am_u_ne (by omega), am_u_ne (by omega), ← hJ, am_u_ne (by omega), am_u_ne (by omega)]
      · rw [am_u_ne (by omega), am_u_ne (by omega), am_u_ne (by omega), ← hJ, am_u_eq]
      · exact am_u_eq
      · rw [am_u_ne (show 2 ≠ 498 ∨ k ≠ 2 by omega), am_u_ne (show 2 ≠ 499 ∨ k ≠ n by omega), am_u_ne (show 2 ≠ 498 ∨ k ≠ 0 by omega), am_u_ne (show 499 ≠ 498 ∨ k ≠ 2 by omega)]
        by_cases kn : k = n
        · rw [kn, am_u_eq, ← hJ, am_u_ne (by omega), am_u_eq]
        · rw [am_u_ne (by omega), am_u_ne (by omega), ← hJ, am_u_ne (by omega), am_u_ne (by omega), am_u_ne (by omega), am_u_ne (by omega)]
          exact dk k (by omega)
      · rw [am_u_ne (by omega), am_u_ne (by omega), am_u_eq]
theorem op_wipe (iv : Inv N I L F) : OpU X (N + 1) (fun Q => WP mX9_wipe 0 (am_ent 1 [.ref 0]) [] (G X I L F) 0 0 Q) mX10_wipe (am_ent 2 [.ref 498]) := by
  intro Q qv
  obtain ⟨s, T, rc, sc, t, n, iv⟩ := iv
  obtain ⟨n40, d1, d2, dk⟩ := iv.2.1
  refine s_X9_wipe ?_
  unfold f_X9_wipe fI_X9_wipe f_X1_clear fI_X1_clear
  rw [d1]
  refine qv _ _ _ _ (fun Q2 q => s_X10_wipe ?_)
  unfold f_X10_wipe fI_X10_wipe
  rw [am_u_ne (by omega), d2]
  refine q _ _ (InvS.inv (InvS.draft (n2 := 0) iv (fun o k a b c d => ?_) ⟨by omega, ?_, ?_, fun k hk => by omega⟩))
  · rw [am_u_ne (by omega), am_u_ne (by omega), am_u_ne (by omega)]
  · rw [am_u_ne (by omega), am_u_ne (by omega), am_u_eq]; rfl
  · rw [am_u_eq]; rfl
theorem op_fault (iv : Inv N I L F) (h : p0 = 0 ∨ p0 = 1) : OpU X (N + 1) (fun Q => WP mX9_fault 0 (am_ent 2 [.ref 0, .int p0]) [] (G X I L F) 0 0 Q) mX10_fault (am_ent 2 [.ref 498, .int p0]) := by
  intro Q qv
  obtain ⟨s, T, rc, sc, t, n, iv⟩ := iv
  obtain ⟨n40, d1, d2, dk⟩ := iv.2.1
  refine k_X9_fault_0 (sp_read d1 n40 h (fun J fr _ => k_X9_fault_12 (qv _ _ _ _ (fun Q2 q => k_X10_fault_0 ?_))))
  have iv2 := (iv.rd fr).thr (y := 0)
  refine sp_faultOf (n := n) ((am_u_ne (by omega)).trans ((fr 498 2 (by omega)).trans d2)) n40 (fun K f1 => k_X10_fault_10 ?_)
  have es : seg (am_u J 498 0 0 499) 0 n = seg (I 2) 0 n := seg_cong n 0 0 (fun k hk => by
    rw [Nat.zero_add, am_u_ne (by omega), fr 499 k (by omega)]
    exact (dk k hk).symm)
  rw [es, ← fault_eq h]
  exact q _ _ (iv2.fr1 f1).inv
theorem DamS.frd (h1 : ∀ k, k ≠ 13 → J (423 + 5 * d) k = I (423 + 5 * d) k) (h0 : ∀ o k, 424 + 5 * d ≤ o → o ≤ 426 + 5 * d → J o k = I o k) (h2 : ∀ o, 517 ≤ o → o ≤ 529 → o ≠ 523 → J o d = I o d) (h3 : ∀ k, 40 * d ≤ k → k < 40 * d + 40 → J 523 k = I 523 k) (z : DamS I rc d) : DamS J rc d := by
  obtain ⟨a, b, c, e, f, g, h, i, j, k, l⟩ := z
  unfold DamS
  rw [h1 2 (by decide), h1 3 (by decide), h1 4 (by decide), h1 6 (by decide), h1 7 (by decide), h1 8 (by decide), h1 9 (by decide), h1 10 (by decide), h1 11 (by decide), h2 517 (by decide) (by decide) (by decide), h2 518 (by decide) (by decide) (by decide), h2 519 (by decide) (by decide) (by decide), h2 521 (by decide) (by decide) (by decide), h2 522 (by decide) (by decide) (by decide), h2 524 (by decide) (by decide) (by decide), h2 526 (by decide) (by decide) (by decide), h2 527 (by decide) (by decide) (by decide), h2 528 (by decide) (by decide) (by decide), h2 529 (by decide) (by decide) (by decide)]
  refine ⟨a, b, c, fun n => ?_, f, g, h, i, j, k, l⟩
  obtain ⟨l, z1, z2, z3, z4⟩ := e n
  have es : seg (J 523) (40 * d) l = seg (I 523) (40 * d) l := seg_cong l (40 * d) (40 * d) (fun k hk => h3 _ (by omega) (by omega))
  exact ⟨l, z1, z2, by rw [es]; exact z3, by rw [es]; exact FC_fr (fun x y h => h0 x y (by omega) (by omega)) z4⟩
/-- one dam changes, but for what the hours change -/
theorem InvS.damc (z : InvS s T rc sc t n N I L F) (hd : d < 3) (h : ∀ o k, ¬ (423 + 5 * d ≤ o ∧ o ≤ 426 + 5 * d) → ¬ (3 ≤ o ∧ o ≤ 8) → ¬ (517 ≤ o ∧ o ≤ 529 ∧ o ≠ 523 ∧ k = d) → ¬ (o = 523 ∧ 40 * d ≤ k ∧ k < 40 * d + 40) → ¬ (o = 498 ∧ k = 0) → o ≠ 500 → J o k = I o k) (h13 : J (423 + 5 * d) 13 = I (423 + 5 * d) 13) (ds : DamS J rc d) : InvS s T rc sc t n N J L F := by
  obtain ⟨v, dr, nw, rr, ⟨tl, hT⟩, da, si⟩ := z
  refine ⟨v.same (fun o k a b c => h o k (by omega) (by omega) (by omega) (by omega) (by omega) (by omega)) (h _ _ (by omega) (by omega) (by omega) (by omega) (by omega) (by omega)) (fun o a b _ _ _ => funext fun k => h o k (by omega) (by omega) (by omega) (by omega) (by omega) (by omega)) (fun _ _ _ _ _ => rfl) rfl, dr.fr (fun k => h _ _ (by omega) (by omega) (by omega) (by omega) (by omega) (by omega)) (fun k => h _ _ (by omega) (by omega) (by omega) (by omega) (by omega) (by omega)) (h _ _ (by omega) (by omega) (by omega) (by omega) (by omega) (by omega)) (fun k => h _ _ (by omega) (by omega) (by omega) (by omega) (by omega) (by omega)), nw.fr (h _ _ (by omega) (by omega) (by omega) (by omega) (by omega) (by omega)) (h _ _ (by omega) (by omega) (by omega) (by omega) (by omega) (by omega)), rr.fr (h _ _ (by omega) (by omega) (by omega) (by omega) (by omega) (by omega)) (h _ _ (by omega) (by omega) (by omega) (by omega) (by omega) (by omega)) (fun o k a b => h o k (by omega) (by omega) (by omega) (by omega) (by omega) (by omega)) (fun o x => funext fun k => h o k (by omega) (by omega) (by omega) (by omega) (by omega) (by omega)) (fun _ _ _ _ => rfl) rfl, ⟨tl.fr (h _ _ (by omega) (by omega) (by omega) (by omega) (by omega) (by omega)) (funext fun k => h _ k (by omega) (by omega) (by omega) (by omega) (by omega) (by omega)), hT⟩, fun e he => ?_, si.fr (h _ _ (by omega) (by omega) (by omega) (by omega) (by omega) (by omega)) (h _ _ (by omega) (by omega) (by omega) (by omega) (by omega) (by omega)) (fun o k a b => h o k (by omega) (by omega) (by omega) (by omega) (by omega) (by omega)) (fun o k a b => h o k (by omega) (by omega) (by omega) (by omega) (by omega) (by omega)) (Nat.le_refl _)⟩
  obtain ⟨a, ⟨b1, b2, b3, b4⟩, c⟩ := da e he
  have j531 : J 531 e = I 531 e := h _ _ (by omega) (by omega) (by omega) (by omega) (by omega) (by omega)
  by_cases ed : e = d
  · subst ed
    exact ⟨ds, ⟨b1, b2, by rw [h13, j531]; exact b3, b4⟩, c⟩
  · refine ⟨a.frd (fun k _ => h _ k (by omega) (by omega) (by omega) (by omega) (by omega) (by omega)) (fun o k x y => h o k (by omega) (by omega) (by omega) (by omega) (by omega) (by omega)) (fun o x y w => h o e (by omega) (by omega) (by omega) (by omega) (by omega) (by omega)) (fun k x y => h _ k (by omega) (by omega) (by omega) (by omega) (by omega) (by omega)), ⟨b1, b2, ?_, b4⟩, c⟩
    rw [h _ 13 (by omega) (by omega) (by omega) (by omega) (by omega) (by omega), j531]; exact b3
theorem isIn1_1 {k m : Nat} (h1 : 1 ≤ k) (h2 : k ≤ m) (hm : m < 2147483648) : f_X10_isIn (nI k) 1 (nI m) = 1 := by
  unfold f_X10_isIn
  rw [if_neg (fun z => by have := (nI_ltI (a := k) (b := 1) (by omega) (by decide)).mp z; omega), if_neg (fun z => by have := (nI_ltI (by omega) (by omega)).mp z; omega)]
theorem isIn1_0 {x : Int32} {m : Nat} (h : x < 1 ∨ ¬ x ≤ nI m) : f_X10_isIn x 1 (nI m) = 0 := by
  unfold f_X10_isIn
  by_cases a : x < 1
  · rw [if_pos a]
  · rw [if_neg a, if_pos (Int32.not_le.mp (h.resolve_left a))]
theorem nar_b : vp_nar .boolean 1 = 1 := by decide
theorem op_build (iv : Inv N I L F) : OpN X (N + 1) plC (fun Q => WP mX9_build 0 (am_ent 5 [.ref 0, .int p0, .int p1, .int p2]) [] (G X I L F) 0 0 Q) mX10_build (am_ent 5 [.ref 498, .int p0, .int p1, .int p2]) := by
  intro Q qv qe
  obtain ⟨s, T, rc, sc, t, n, iv⟩ := iv
  have da := iv.2.2.2.2.2.1
  have mE : ∀ e, nI e ≠ 0 → (if (if (f_X10_isDam p0) = 0 then (0 : Int32) else (if (f_X10_isModel p1) = 0 then 0 else 1)) = 0 then (1 : Int32) else (if (f_X10_isIn p2 1 100000) = 0 then 2 else (if (I 517 (Int32.toNatClampNeg p0)) = 0 then 0 else 3))) = nI e → InN p0 3 ∨ e = 1 → AnsN X (N + 1) mX10_build (am_ent 5 [.ref 498, .int p0, .int p1, .int p2]) e I L F := fun e ne pe hi Q2 q => by
    refine s_X10_build ?_ ?_
    · unfold p_X10_build
      rw [pe, hol_0 ne]
      refine ⟨fun a _ => ⟨?_, trivial⟩, fun a => absurd rfl a, trivial⟩
      by_cases i : InN p0 3
      · obtain ⟨k, hk, e⟩ := i
        rw [e]; exact nI_in hk (by decide)
      · rw [d10_0 i, if_pos rfl] at a; exact absurd rfl a
    · unfold fI_X10_build fI_X10_holds
      rw [pe, hol_0 ne, if_pos rfl]
      exact q _ _ iv.thr.inv am_u_eq
  by_cases i : InN p0 3
  · have i2 := i
    obtain ⟨d, hd, e⟩ := i2
    have cd : Int32.toNatClampNeg p0 = d := by rw [e, nI_clamp (by omega)]
    refine k_X9_build_0 ⟨fun a => absurd a (by rw [d9_1 i]; exact n10), fun _ => ?_⟩
    by_cases j : InN p1 6
    · refine ⟨fun a => absurd a (by rw [m9_1 j]; exact n10), fun _ => ?_⟩
      have e1 : (if (f_X10_isDam p0) = 0 then (0 : Int32) else (if (f_X10_isModel p1) = 0 then 0 else 1)) = 1 := by rw [d10_1 i, if_neg n10, m10_1 j, if_neg n10]
      rcases rng (x := p2) (m := 100000) (by decide) with h | ⟨cap, h1, h2, ec⟩
      · have er := mE 2 (by decide) (by rw [e1, if_neg n10, show f_X10_isIn p2 1 100000 = 0 from isIn1_0 h, if_pos rfl]; rfl) (Or.inl i)
        exact ⟨fun _ => qe 1 _ _ _ (by decide) er, fun a => ⟨fun b => absurd h (fun h => h.elim a (fun c => c b)), fun _ => qe 1 _ _ _ (by decide) er⟩⟩
      · have e2 : f_X10_isIn p2 1 100000 = 1 := by rw [ec]; exact isIn1_1 h1 h2 (by decide)
        refine ⟨fun a => absurd ((nI_ltI (a := cap) (b := 1) (by omega) (by decide)).mp (by rw [← ec]; exact a)) (by omega), fun _ => ⟨fun _ => ?_, fun a => absurd (by rw [ec]; exact (nI_leI (a := cap) (b := 100000) (by omega) (by decide)).mpr h2) a⟩⟩
        have d2 := (da d hd).1.1
        rw [cd, d2]
        refine ⟨fun b => ?_, fun b => qe 2 _ _ _ (by decide) (mE 3 (by decide) (by rw [e1, if_neg n10, e2, if_neg n10, cd, if_neg b]; rfl) (Or.inl i))⟩
        generalize hJ : am_u (am_u (am_u I (423 + 5 * d) 2 1) (423 + 5 * d) 3 p1) (423 + 5 * d) 4 p2 = J
        refine qv _ _ _ (fun Q2 q => ?_)
        have j517 : J 517 d = I 517 d := by rw [← hJ, am_u_ne (by omega), am_u_ne (by omega), am_u_ne (by omega)]
        have pe : (if (if (f_X10_isDam p0) = 0 then (0 : Int32) else (if (f_X10_isModel p1) = 0 then 0 else 1)) = 0 then (1 : Int32) else (if (f_X10_isIn p2 1 100000) = 0 then 2 else (if (J 517 (Int32.toNatClampNeg p0)) = 0 then 0 else 3))) = 0 := by
          rw [e1, if_neg n10, e2, if_neg n10, cd, j517, if_pos b]
        have hin : vp_in p0 3 := by rw [e]; exact nI_in hd (by decide)
        refine s_X10_build ?_ ?_
        · unfold p_X10_build
          exact ⟨fun _ _ => ⟨hin, trivial⟩, fun _ => ⟨hin, hin, hin, trivial⟩, trivial⟩
        · unfold fI_X10_build fI_X10_holds
          rw [pe, hol_1, if_neg n10, cd, nar_b]
          obtain ⟨z1, z2, z3, z4, z5, z6, z7, z8, z9, z10, z11⟩ := (da d hd).1
          obtain ⟨mo, hmo, em⟩ := j
          refine q _ _ (InvS.inv (InvS.damc iv hd (fun o k a b c e g h => ?_) ?_ ?_)) ?_
          · rw [am_u_ne (by omega), am_u_ne (by omega), am_u_ne (by omega), am_u_ne (by omega), ← hJ, am_u_ne (by omega), am_u_ne (by omega), am_u_ne (by omega)]
          · rw [am_u_ne (by omega), am_u_ne (by omega), am_u_ne (by omega), am_u_ne (by omega), ← hJ, am_u_ne (by omega), am_u_ne (by omega), am_u_ne (by omega)]
          · generalize hK : am_u (am_u (am_u (am_u J 498 0 0) 517 d 1) 518 d p1) 519 d p2 = K
            have k0 : ∀ k, k ≠ 2 → k ≠ 3 → k ≠ 4 → K (423 + 5 * d) k = I (423 + 5 * d) k := fun k a b c => by
              rw [← hK, am_u_ne (by omega), am_u_ne (by omega), am_u_ne (by omega), am_u_ne (by omega), ← hJ, am_u_ne (by omega), am_u_ne (by omega), am_u_ne (by omega)]
            have kr : ∀ o k, 423 + 5 * d < o → o ≠ 498 → o ≠ 517 → o ≠ 518 → o ≠ 519 → K o k = I o k := fun o k a b c e f => by
              rw [← hK, am_u_ne (by omega), am_u_ne (by omega), am_u_ne (by omega), am_u_ne (by omega), ← hJ, am_u_ne (by omega), am_u_ne (by omega), am_u_ne (by omega)]
            have k2 : K (423 + 5 * d) 2 = 1 := by rw [← hK, am_u_ne (by omega), am_u_ne (by omega), am_u_ne (by omega), am_u_ne (by omega), ← hJ, am_u_ne (by omega), am_u_ne (by omega), am_u_eq]
            have k3 : K (423 + 5 * d) 3 = nI mo := by rw [← em, ← hK, am_u_ne (by omega), am_u_ne (by omega), am_u_ne (by omega), am_u_ne (by omega), ← hJ, am_u_ne (by omega), am_u_eq]
            have k4 : K (423 + 5 * d) 4 = nI cap := by rw [← ec, ← hK, am_u_ne (by omega), am_u_ne (by omega), am_u_ne (by omega), am_u_ne (by omega), ← hJ, am_u_eq]
            have k517 : K 517 d = 1 := by rw [← hK, am_u_ne (by omega), am_u_ne (by omega), am_u_eq]
            have k518 : K 518 d = nI mo := by rw [← em, ← hK, am_u_ne (by omega), am_u_eq]
            have k519 : K 519 d = nI cap := by rw [← ec, ← hK, am_u_eq]
            have r523 : K 523 = I 523 := funext fun k => kr 523 k (by omega) (by decide) (by decide) (by decide) (by decide)
            have kk : ∀ o, 520 ≤ o → K o d = I o d := fun o h => kr o d (by omega) (by omega) (by omega) (by omega) (by omega)
            refine ⟨k2.trans k517.symm, fun _ => ⟨mo, cap, hmo, h2, k3, k518, k4, k519⟩, ?_, ?_, ?_, ?_, ?_, fun _ => by rw [k517]; decide, ?_, ?_, ?_⟩
            · rw [k0 6 (by decide) (by decide) (by decide), kk 521 (by decide)]; exact z3
            · rw [kk 521 (by decide), kk 522 (by decide), r523]
              intro nz
              obtain ⟨l, y1, y2, y3, y4⟩ := z4 nz
              exact ⟨l, y1, y2, y3, FC_fr (fun x y h => kr x y (by omega) (by omega) (by omega) (by omega) (by omega)) y4⟩
            · rw [k0 7 (by decide) (by decide) (by decide), kk 524 (by decide)]; exact z5
            · rw [kk 524 (by decide)]; exact z6
            · rw [k0 8 (by decide) (by decide) (by decide), kk 526 (by decide)]; exact z7
            · rw [k0 9 (by decide) (by decide) (by decide), kk 527 (by decide)]; exact z9
            · rw [k0 10 (by decide) (by decide) (by decide), kk 528 (by decide)]; exact z10
            · rw [k0 11 (by decide) (by decide) (by decide), kk 529 (by decide)]; exact z11
          · rw [am_u_ne (by omega), am_u_ne (by omega), am_u_ne (by omega), am_u_eq]; rfl
    · exact ⟨fun _ => qe 0 _ _ _ (by decide) (mE 1 (by decide) (by rw [d10_1 i, if_neg n10, m10_0 j, if_pos rfl, if_pos rfl]; rfl) (Or.inr rfl)), fun a => absurd (m9_0 j) a⟩
  · exact k_X9_build_0 ⟨fun _ => qe 0 _ _ _ (by decide) (mE 1 (by decide) (by rw [d10_0 i, if_pos rfl, if_pos rfl]; rfl) (Or.inr rfl)), fun a => absurd (d9_0 i) a⟩
end OC1
