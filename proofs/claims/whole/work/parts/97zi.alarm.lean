/-! own: the alarm, both sides -/
set_option maxRecDepth 100000
def alB (s : AS) (I : Nat → Nat → Int32) (t b d : Nat) : Int32 := if I 526 d = 0 then 0 else if aL s (I 518 d).toNatClampNeg = -1 then 0 else if Op.cmpValue (FP.fcmp (pk (OI I (aL s (I 518 d).toNatClampNeg).toNatClampNeg) t (b - t)).1 (FP.i2f (I 528 d))) .l < 0 then 0 else (1 : Int32) <<< (nI d &&& 31 : Int32)
def alS (s : AS) (I : Nat → Nat → Int32) (t b : Nat) : Nat → Int32
  | 0 => 0
  | n + 1 => alS s I t b n ||| alB s I t b n
section OL
variable {X : Nat × (Nat → Int32)} {I I0 J : Nat → Nat → Int32} {L M : Nat → Nat → Int64} {F H : Nat → Nat → UInt32} {Q : AQ} {N T rc sc t n n2 d c r b : Nat} {s : AS} {p0 p1 p2 p3 : Int32}
theorem or_0 {x : Int32} : x ||| 0 = x := Int32.or_zero
theorem sp_al18 (hb : t ≤ b) (hb2 : b < 201) (q : ∀ J H, InvS s T rc sc t n N J L H → (∀ o k, 511 ≤ o → o ≤ 536 → J o k = I0 o k) → OI J = OI I0 → Q (.inl (some (.int (alS s I0 t b 3)))) (G X J L H)) : ∀ (m j : Nat) (I : Nat → Nat → Int32) (F : Nat → Nat → UInt32) (d4 d5 : Option Value), j + m = 3 → InvS s T rc sc t n N I L F → (∀ o k, 511 ≤ o → o ≤ 536 → I o k = I0 o k) → OI I = OI I0 →
    WP mX9_alarm 18 [some (.ref 0), some (.int (nI b)), some (.int (alS s I0 t b j)), some (.int (nI j)), d4, d5] [] (G X I L F) 0 0 Q
  | 0, j, I, F, d4, d5, hj, iv, hi, eo => by
    have e : j = 3 := by omega
    subst e
    exact k_X9_alarm_18 ⟨fun _ => q I F iv hi eo, fun a => absurd (by decide) a⟩
  | m + 1, j, I, F, d4, d5, hj, iv, hi, eo => by
    obtain ⟨z1, z2, _, _, _, _, z7, z8, _, z10, _⟩ := (iv.2.2.2.2.2.1 j (by omega)).1
    refine k_X9_alarm_18 ⟨fun a => absurd ((nI_leI (a := 3) (b := j) (by decide) (by omega)).mp a) (by omega), fun _ => ⟨nI_in (by omega) (by decide), ?_⟩⟩
    rw [nI_clamp (show j < 2 ^ 31 by omega), nI_1, z7]
    have es : alS s I0 t b (j + 1) = alS s I0 t b j ||| alB s I0 t b j := rfl
    have h526 := hi 526 j (by decide) (by decide)
    have h518 := hi 518 j (by decide) (by decide)
    have h528 := hi 528 j (by decide) (by decide)
    refine ⟨fun c1 => ?_, fun c1 => ?_⟩
    · have := sp_al18 hb hb2 q m (j + 1) I F (some (.ref (423 + 5 * j))) (some (.int (f_X6_latestOf (I (423 + 5 * j) 3) I))) (by omega) iv hi eo
      rw [es, show alB s I0 t b j = 0 by unfold alB; rw [if_pos (by rw [← h526]; exact c1)], or_0] at this
      exact this
    · obtain ⟨mo, cap, hmo, hcap, m1, m2, _⟩ := z2 (z8 c1)
      have el : f_X6_latestOf (I (423 + 5 * j) 3) I = aL s mo := by rw [m1, lat_v hmo]; exact iv.1.1.2.2.1.2.2 mo hmo
      have e518 : (I0 518 j).toNatClampNeg = mo := by rw [← h518, m2, nI_clamp (by omega)]
      rw [el]
      refine ⟨fun c2 => ?_, fun c2 => ?_⟩
      · have := sp_al18 hb hb2 q m (j + 1) I F (some (.ref (423 + 5 * j))) (some (.int (aL s mo))) (by omega) iv hi eo
        rw [es, show alB s I0 t b j = 0 by unfold alB; rw [if_neg (by rw [← h526]; exact c1), e518, if_pos c2], or_0] at this
        exact this
      · obtain ⟨v, hv, ev, e2⟩ := lat_lt iv.1.1.1 hmo c2
        rw [ev, iv.2.2.1.2.1]
        refine sp_look isRun_380 (by omega) (by omega) hv hb hb2 iv.1.outc (fun J H i1 i2 oc eo2 ri => k_X9_alarm_81 (gi_damN (by omega)) (fun y ey => ?_))
        have iv2 := iv.lif i1 i2 oc
        have j10 : J (423 + 5 * j) 10 = I0 528 j := by rw [i1 _ 10 (by omega) (by omega) (fun ⟨v, _, y, _⟩ => by omega), z10]; exact h528
        rw [ri.2.2.2.2.1, j10, eo] at ey
        have ea : y = alB s I0 t b j := by
          rw [ey]
          unfold alB
          rw [if_neg (show ¬ I0 526 j = 0 by rw [← h526]; exact c1), e518, if_neg c2, e2]
        rw [ea, ← es, nI_1]
        exact sp_al18 hb hb2 q m (j + 1) J H _ _ (by omega) iv2 (fun o k x y => (i1 o k (by omega) (by omega) (fun ⟨v, _, y, _⟩ => by omega)).trans (hi o k x y)) (eo2.trans eo)
theorem sp_mal36 (hb : t ≤ b) (hb2 : b < 201) (q : ∀ J H, InvS s T rc sc t n N J L H → Q (.inl (some (.int (alS s I0 t b 3)))) (G X J L H)) : ∀ (m j : Nat) (I : Nat → Nat → Int32) (F : Nat → Nat → UInt32) (d4 d5 : Option Value), j + m = 3 → InvS s T rc sc t n N I L F → (∀ o k, 511 ≤ o → o ≤ 536 → I o k = I0 o k) → OI I = OI I0 →
    WP mX10_alarm 36 [some (.ref 498), some (.int (nI b)), some (.int (alS s I0 t b j)), some (.int (nI j)), d4, d5] [] (G X I L F) 0 0 Q
  | 0, j, I, F, d4, d5, hj, iv, hi, eo => by
    have e : j = 3 := by omega
    subst e
    exact k_X10_alarm_36 ⟨fun _ => q I F iv, fun a => absurd (by decide) a⟩
  | m + 1, j, I, F, d4, d5, hj, iv, hi, eo => by
    obtain ⟨z1, z2, _, _, _, _, z7, z8, _, z10, _⟩ := (iv.2.2.2.2.2.1 j (by omega)).1
    have hin : vp_in (nI j) 3 := nI_in (by omega) (by decide)
    have es : alS s I0 t b (j + 1) = alS s I0 t b j ||| alB s I0 t b j := rfl
    have h526 := hi 526 j (by decide) (by decide)
    have h518 := hi 518 j (by decide) (by decide)
    have h528 := hi 528 j (by decide) (by decide)
    refine k_X10_alarm_36 ⟨fun a => absurd ((nI_leI (a := 3) (b := j) (by decide) (by omega)).mp a) (by omega), fun _ => ⟨hin, ?_⟩⟩
    rw [nI_clamp (show j < 2 ^ 31 by omega), nI_1]
    by_cases c1 : I 526 j = 0
    · refine ⟨fun a => absurd c1 a, fun y ey => ?_⟩
      rw [if_pos c1] at ey
      subst ey
      refine ⟨fun _ => ?_, fun a => absurd rfl a⟩
      have := sp_mal36 hb hb2 q m (j + 1) I F (some (.int (-1))) (some (.int 0)) (by omega) iv hi eo
      rw [es, show alB s I0 t b j = 0 by unfold alB; rw [if_pos (by rw [← h526]; exact c1)]] at this
      exact this
    · obtain ⟨mo, cap, hmo, hcap, m1, m2, _⟩ := z2 (z8 c1)
      have e518 : (I0 518 j).toNatClampNeg = mo := by rw [← h518, m2, nI_clamp (by omega)]
      have el : I 505 (I 518 j).toNatClampNeg = aL s mo := by rw [m2, nI_clamp (show mo < 2 ^ 31 by omega)]; exact iv.1.1.2.2.2.2.2 mo hmo
      refine ⟨fun _ => ⟨hin, by rw [m2]; exact nI_in hmo (by decide), trivial⟩, fun y ey => ?_⟩
      rw [if_neg c1, el] at ey
      subst ey
      refine ⟨fun c2 => ?_, fun c2 => ?_⟩
      · have := sp_mal36 hb hb2 q m (j + 1) I F (some (.int (aL s mo))) (some (.int 0)) (by omega) iv hi eo
        rw [es, show alB s I0 t b j = 0 by unfold alB; rw [if_neg (by rw [← h526]; exact c1), e518, if_pos c2]] at this
        exact this
      · obtain ⟨v, hv, ev, e2⟩ := lat_lt iv.1.1.1 hmo c2
        rw [ev, iv.2.2.1.2.2]
        refine sp_greatest hv hb hb2 iv.1.outm (fun K H3 k1 k2 om => k_X10_alarm_87 ?_)
        have iv3 := iv.moi k1 k2 om
        have eoK : OI K = OI I := OI_cong (funext fun k => k1 _ k (by omega) (by decide) (by decide) (by decide)) (funext fun k => k1 _ k (by omega) (by decide) (by decide) (by decide)) (funext fun k => k1 _ k (by omega) (by decide) (by decide) (by decide)) (funext fun k => k1 _ k (by omega) (by decide) (by decide) (by decide))
        have pv := pk_val (g := OI I v) (a := t) (b - t)
        refine sp_outOf hv (by omega) om (fun K2 H4 k3 k4 om2 => k_X10_alarm_90 ⟨hin, fun y ey w ew => ?_⟩)
        have iv4 := iv3.moi k3 k4 om2
        have eoK2 : OI K2 = OI K := OI_cong (funext fun k => k3 _ k (by omega) (by decide) (by decide) (by decide)) (funext fun k => k3 _ k (by omega) (by decide) (by decide) (by decide)) (funext fun k => k3 _ k (by omega) (by decide) (by decide) (by decide)) (funext fun k => k3 _ k (by omega) (by decide) (by decide) (by decide))
        have kc : ∀ o k, 511 ≤ o → o ≤ 536 → K2 o k = I0 o k := fun o k x y => by
          rw [k3 o k (by omega) (by omega) (by omega) (by omega), k1 o k (by omega) (by omega) (by omega) (by omega)]; exact hi o k x y
        rw [nI_clamp (show j < 2 ^ 31 by omega), eoK, ← pv.1, kc 528 j (by decide) (by decide), eo] at ey
        have ea : w = alB s I0 t b j := by
          unfold alB
          rw [if_neg (show ¬ I0 526 j = 0 by rw [← h526]; exact c1), e518, if_neg c2, e2, ew, ey]
          by_cases c3 : Op.cmpValue (FP.fcmp (pk (OI I0 v) t (b - t)).1 (FP.i2f (I0 528 j))) .l < 0
          · rw [if_pos c3, if_pos rfl, if_pos c3]
          · rw [if_neg c3, if_neg n10, if_neg c3]
        rw [ea, ← es, nI_1]
        exact sp_mal36 hb hb2 q m (j + 1) K2 H4 _ _ (by omega) iv4 kc (eoK2.trans (eoK.trans eo))
theorem op_alarm (iv : Inv N I L F) : OpU X (N + 1) (fun Q => WP mX9_alarm 0 (am_ent 6 [.ref 0]) [] (G X I L F) 0 0 Q) mX10_alarm (am_ent 6 [.ref 498]) := by
  intro Q qv
  obtain ⟨s, T, rc, sc, t, n, iv⟩ := iv
  obtain ⟨ht, e9, e1⟩ := iv.2.2.1
  obtain ⟨b, hb, hb2, eb⟩ : ∃ b, t ≤ b ∧ b < 201 ∧ b = if t + 24 ≤ 200 then t + 24 else 200 := by
    by_cases h : t + 24 ≤ 200
    · exact ⟨t + 24, by omega, by omega, by rw [if_pos h]⟩
    · exact ⟨200, by omega, by omega, by rw [if_neg h]⟩
  have m1 : f_J9_min_7cf53 ((I 0 9) + 24) 200 = nI b := by
    unfold f_J9_min_7cf53
    rw [e9, show nI t + 24 = nI (t + 24) from nI_add t 24, eb]
    by_cases h : t + 24 ≤ 200
    · rw [if_pos h, if_neg (show ¬ (200 : Int32) < nI (t + 24) from fun z => by have := (nI_ltI (a := 200) (b := t + 24) (by decide) (by omega)).mp z; omega)]
    · rw [if_neg h, if_pos (show (200 : Int32) < nI (t + 24) from (nI_ltI (a := 200) (b := t + 24) (by decide) (by omega)).mpr (by omega))]; rfl
  refine k_X9_alarm_0 ?_
  rw [m1]
  refine sp_al18 (I0 := I) hb hb2 (fun J H iv2 hi eo => qv _ _ _ _ (fun Q2 q => k_X10_alarm_0 (fun y ey => ?_))) 3 0 I F none none rfl iv (fun _ _ _ _ => rfl) rfl
  have ey2 : y = nI b := by
    rw [ey, iv2.2.2.1.2.2, show nI t + 24 = nI (t + 24) from nI_add t 24, eb]
    by_cases h : t + 24 ≤ 200
    · rw [if_pos h, if_pos (show nI (t + 24) ≤ (200 : Int32) from (nI_leI (a := t + 24) (b := 200) (by omega) (by decide)).mpr h)]
    · rw [if_neg h, if_neg (show ¬ nI (t + 24) ≤ (200 : Int32) from fun z => by have := (nI_leI (a := t + 24) (b := 200) (by omega) (by decide)).mp z; omega)]; rfl
  rw [ey2]
  exact sp_mal36 (I0 := I) hb hb2 (fun K H2 iv3 => q _ _ iv3.inv) 3 0 (am_u J 498 0 0) H none none rfl iv2.thr (fun o k a b => (am_u_ne (by omega)).trans (hi o k a b)) ((OI_cong (am_u_row (by decide)) (am_u_row (by decide)) (am_u_row (by decide)) (am_u_row (by decide))).trans eo)
end OL
