/-! own: outputs asked, texts typed, both sides -/
set_option maxRecDepth 100000
section OB
variable {X : Nat × (Nat → Int32)} {I J : Nat → Nat → Int32} {L M : Nat → Nat → Int64} {F H : Nat → Nat → UInt32} {N T rc sc t n : Nat} {s : AS} {p0 p1 p2 p3 : Int32}
theorem ftib_oi {v h : Nat} : f_Jxf58ca_floatToIntBits_5c35a (OI I v h) = UInt32.toInt32 (OI I v h) := ftib OO_kv.nn
theorem isAsk_1 {v h c : Nat} (hc : c ≤ 60) (e : I 498 5 = nI c) (hv : v < c) (hh : h < 201) : f_X10_isAsked (nI v) (nI h) I = 1 ∧ fI_X10_isAsked (nI v) (nI h) I = am_u I 498 0 0 := by
  unfold f_X10_isAsked fI_X10_isAsked fI_X10_holds
  rw [v10_1 hc e ⟨v, hv, rfl⟩, if_neg n10, show f_X10_isIn (nI h) 0 200 = 1 from isIn_1 (n := 200) (by decide) ⟨h, hh, rfl⟩, if_neg n10]
  exact ⟨hol_1, rfl⟩
theorem isAsk_v {c : Nat} (hc : c ≤ 60) (e : I 498 5 = nI c) (i : ¬ InN p0 c) : f_X10_isAsked p0 p1 I = 0 ∧ fI_X10_isAsked p0 p1 I = am_u I 498 0 1 := by
  unfold f_X10_isAsked fI_X10_isAsked fI_X10_holds
  rw [v10_0 hc e i, if_pos rfl]
  exact ⟨hol_0 (by decide), rfl⟩
theorem isAsk_h {c : Nat} (hc : c ≤ 60) (e : I 498 5 = nI c) (i : InN p0 c) (j : ¬ InN p1 201) : f_X10_isAsked p0 p1 I = 0 ∧ fI_X10_isAsked p0 p1 I = am_u I 498 0 2 := by
  unfold f_X10_isAsked fI_X10_isAsked fI_X10_holds
  rw [v10_1 hc e i, if_neg n10, show f_X10_isIn p1 0 200 = 0 from isIn_0 (n := 200) (by decide) j, if_pos rfl]
  exact ⟨hol_0 (by decide), rfl⟩

/-- the model is asked for an output -/
theorem m_out {v h : Nat} (iv : InvS s T rc sc t n N I L F) (hv : v < aC s) (hh : h < 201) {z : Int64} : AnsV X (N + 1) mX10_out (am_ent 3 [.ref 498, .int (nI v), .int (nI h)]) (UInt32.toInt32 (OI I v h)) I (am_u L 540 0 z) F := fun Q q => by
  have iv1 := (iv.l540 (y := z)).thr (y := 0)
  obtain ⟨a, b⟩ := isAsk_1 (I := I) iv.1.1.1.1 iv.1.1.2.2.2.1 hv hh
  refine k_X10_out_0 ⟨fun x => absurd x (by rw [a]; exact n10), fun _ => ?_⟩
  rw [b]
  refine sp_outOf hv hh iv1.1.outm (fun J H i1 i2 om => k_X10_out_15 ?_)
  have eo : OI (am_u I 498 0 0) = OI I := OI_cong (am_u_row (by decide)) (am_u_row (by decide)) (am_u_row (by decide)) (am_u_row (by decide))
  rw [eo, ftib_oi]
  exact q J H (iv1.moi i1 i2 om).inv ((i1 498 0 (by omega) (by decide) (by decide) (by decide)).trans am_u_eq)
theorem me_out (iv : InvS s T rc sc t n N I L F) (h : ¬ InN p0 (aC s)) : AnsE X (N + 1) mX10_out (am_ent 3 [.ref 498, .int p0, .int p1]) 1 I L F := fun Q q => by
  obtain ⟨a, b⟩ := isAsk_v (I := I) (p1 := p1) iv.1.1.1.1 iv.1.1.2.2.2.1 h
  exact k_X10_out_0 ⟨fun _ => by rw [b]; exact q _ _ _ iv.thr.inv am_u_eq, fun x => absurd a x⟩
theorem mh_out (iv : InvS s T rc sc t n N I L F) (h : InN p0 (aC s)) (h2 : ¬ InN p1 201) : AnsE X (N + 1) mX10_out (am_ent 3 [.ref 498, .int p0, .int p1]) 2 I L F := fun Q q => by
  obtain ⟨a, b⟩ := isAsk_h (I := I) (p1 := p1) iv.1.1.1.1 iv.1.1.2.2.2.1 h h2
  exact k_X10_out_0 ⟨fun _ => by rw [b]; exact q _ _ _ iv.thr.inv am_u_eq, fun x => absurd a x⟩

/-- the model is asked for an output -/
theorem m_outAnew {v h : Nat} (iv : InvS s T rc sc t n N I L F) (hv : v < aC s) (hh : h < 201) {z : Int64} : AnsV X (N + 1) mX10_outAnew (am_ent 3 [.ref 498, .int (nI v), .int (nI h)]) (UInt32.toInt32 (OI I v h)) I (am_u L 540 0 z) F := fun Q q => by
  have iv1 := (iv.l540 (y := z)).thr (y := 0)
  obtain ⟨a, b⟩ := isAsk_1 (I := I) iv.1.1.1.1 iv.1.1.2.2.2.1 hv hh
  refine k_X10_outAnew_0 ⟨fun x => absurd x (by rw [a]; exact n10), fun _ => ?_⟩
  rw [b]
  refine sp_outOf hv hh iv1.1.outm (fun J H i1 i2 om => k_X10_outAnew_15 ?_)
  have eo : OI (am_u I 498 0 0) = OI I := OI_cong (am_u_row (by decide)) (am_u_row (by decide)) (am_u_row (by decide)) (am_u_row (by decide))
  rw [eo, ftib_oi]
  exact q J H (iv1.moi i1 i2 om).inv ((i1 498 0 (by omega) (by decide) (by decide) (by decide)).trans am_u_eq)
theorem me_outAnew (iv : InvS s T rc sc t n N I L F) (h : ¬ InN p0 (aC s)) : AnsE X (N + 1) mX10_outAnew (am_ent 3 [.ref 498, .int p0, .int p1]) 1 I L F := fun Q q => by
  obtain ⟨a, b⟩ := isAsk_v (I := I) (p1 := p1) iv.1.1.1.1 iv.1.1.2.2.2.1 h
  exact k_X10_outAnew_0 ⟨fun _ => by rw [b]; exact q _ _ _ iv.thr.inv am_u_eq, fun x => absurd a x⟩
theorem mh_outAnew (iv : InvS s T rc sc t n N I L F) (h : InN p0 (aC s)) (h2 : ¬ InN p1 201) : AnsE X (N + 1) mX10_outAnew (am_ent 3 [.ref 498, .int p0, .int p1]) 2 I L F := fun Q q => by
  obtain ⟨a, b⟩ := isAsk_h (I := I) (p1 := p1) iv.1.1.1.1 iv.1.1.2.2.2.1 h h2
  exact k_X10_outAnew_0 ⟨fun _ => by rw [b]; exact q _ _ _ iv.thr.inv am_u_eq, fun x => absurd a x⟩

theorem op_out (iv : Inv N I L F) : OpV X (N + 1) plE (fun Q => WP mX9_out 0 (am_ent 3 [.ref 0, .int p0, .int p1]) [] (G X I L F) 0 0 Q) mX10_out (am_ent 3 [.ref 498, .int p0, .int p1]) := by
  intro Q qv qe
  obtain ⟨s, T, rc, sc, t, n, iv⟩ := iv
  have hc := iv.1.1.1.1
  have c9 := iv.1.1.2.2.1.1
  by_cases i : InN p0 (aC s)
  · by_cases j : InN p1 201
    · refine k_X9_out_0 ⟨fun a => absurd a (by rw [v9_1 hc c9 i]; exact n10), fun _ => ⟨fun a => absurd a (by rw [isHour_1 j]; exact n10), fun _ => ?_⟩⟩
      obtain ⟨v, hv, e⟩ := i
      obtain ⟨h, hh, e2⟩ := j
      subst e e2
      refine sp_outputOf hv hh iv.1.outc (fun J H i1 i2 oc _ => k_X9_out_47 (sp_bitsOf OO_kv.fin OO_kv.2.2 (k_X9_out_50 (qv _ _ _ _ (fun z => ?_)))))
      rw [← i1.oi]
      exact m_out (iv.oif i1 i2 oc) hv hh
    · exact k_X9_out_0 ⟨fun a => absurd a (by rw [v9_1 hc c9 i]; exact n10), fun _ => ⟨fun _ => qe 1 _ _ _ (by decide) (mh_out iv i j), fun a => absurd (isHour_0 j) a⟩⟩
  · exact k_X9_out_0 ⟨fun _ => qe 0 _ _ _ (by decide) (me_out iv i), fun a => absurd (v9_0 hc c9 i) a⟩
theorem op_outAnew (iv : Inv N I L F) : OpV X (N + 1) plE (fun Q => WP mX9_outAnew 0 (am_ent 3 [.ref 0, .int p0, .int p1]) [] (G X I L F) 0 0 Q) mX10_outAnew (am_ent 3 [.ref 498, .int p0, .int p1]) := by
  intro Q qv qe
  obtain ⟨s, T, rc, sc, t, n, iv⟩ := iv
  have hc := iv.1.1.1.1
  have c9 := iv.1.1.2.2.1.1
  by_cases i : InN p0 (aC s)
  · by_cases j : InN p1 201
    · refine k_X9_outAnew_0 ⟨fun a => absurd a (by rw [v9_1 hc c9 i]; exact n10), fun _ => ⟨fun a => absurd a (by rw [isHour_1 j]; exact n10), fun _ => ?_⟩⟩
      obtain ⟨v, hv, e⟩ := i
      obtain ⟨h, hh, e2⟩ := j
      subst e e2
      refine sp_forget hv iv.1.outc (fun J0 i0 oc0 => k_X9_outAnew_46 ?_)
      have iv0 := iv.oif i0 OFF.refl oc0
      refine sp_outputOf hv hh oc0 (fun J H i1 i2 oc _ => k_X9_outAnew_55 (sp_bitsOf OO_kv.fin OO_kv.2.2 (k_X9_outAnew_58 (qv _ _ _ _ (fun z => ?_)))))
      rw [← i1.oi]
      exact m_outAnew (iv0.oif i1 i2 oc) hv hh
    · exact k_X9_outAnew_0 ⟨fun a => absurd a (by rw [v9_1 hc c9 i]; exact n10), fun _ => ⟨fun _ => qe 1 _ _ _ (by decide) (mh_outAnew iv i j), fun a => absurd (isHour_0 j) a⟩⟩
  · exact k_X9_outAnew_0 ⟨fun _ => qe 0 _ _ _ (by decide) (me_outAnew iv i), fun a => absurd (v9_0 hc c9 i) a⟩
theorem op_peakAnew (iv : Inv N I L F) : OpV X (N + 1) plA (fun Q => WP mX9_peakAnew 0 (am_ent 3 [.ref 0, .int p0]) [] (G X I L F) 0 0 Q) mX10_peakAnew (am_ent 2 [.ref 498, .int p0]) := by
  intro Q qv qe
  obtain ⟨s, T, rc, sc, t, n, iv⟩ := iv
  have rr := iv.2.2.2.1
  have h40 := rr.1
  by_cases i : InN p0 rc
  · refine k_X9_peakAnew_0 ⟨fun a => absurd a (by rw [r9_1 h40 rr.2.1 i]; exact n10), fun _ => ?_⟩
    have iN := i
    obtain ⟨r, hr, e⟩ := i
    subst e
    obtain ⟨v, a, b, hv, hab, hb, ev, mv, ea, ma, eb, mb, _⟩ := rr.2.2.2 r hr
    have hin : vp_in (nI r) 40 := nI_in (by omega) (by decide)
    rw [nI_clamp (show r < 2 ^ 31 by omega), ev]
    refine sp_forget hv iv.1.outc (fun J0 i0 oc0 => k_X9_peakAnew_36 (gi_runN (by omega)) ?_)
    have iv0 := iv.oif i0 OFF.refl oc0
    have fr : ∀ k, J0 (383 + r) k = I (383 + r) k := fun k => i0 _ k (by omega) (fun ⟨v, _, y, _⟩ => by omega)
    rw [fr 0, fr 1, fr 2, ev, ea, eb]
    refine sp_look isRun_380 (by omega) (by omega) hv hab hb oc0 (fun J H i1 i2 oc eo ri => k_X9_peakAnew_59 (gi_runN (by omega)) ?_)
    have iv1 := iv0.lif i1 i2 oc
    have pv := pk_val (g := OI J0 v) (a := a) (b - a)
    rw [ri.2.2.2.2.1, pv.1]
    refine sp_bitsOf OO_kv.fin OO_kv.2.2 (k_X9_peakAnew_69 (gi_runN (by omega)) (qv _ _ _ _ (fun z Q2 q => ?_)))
    have iv2 := (iv1.l540 (y := z)).thr (y := 0)
    have rr2 := iv2.2.2.2.1
    have rw2 : ∀ o, 511 ≤ o → o ≤ 513 → am_u J 498 0 0 o r = I o r := fun o x y => by
      rw [am_u_ne (by omega), i1 o r (by omega) (by omega) (fun ⟨v, _, y, _⟩ => by omega), i0.big (by omega)]
    refine k_X10_peakAnew_0 (fun y ey => ?_)
    rw [r10_1 h40 iv1.2.2.2.1.2.2.1 iN, if_neg n10] at ey
    subst ey
    refine ⟨fun x => absurd x (by rw [hol_1]; exact n10), fun _ => ⟨hin, hin, hin, hin, ?_⟩⟩
    unfold fI_X10_holds
    rw [nI_clamp (show r < 2 ^ 31 by omega), rw2 511 (by decide) (by decide), rw2 512 (by decide) (by decide), rw2 513 (by decide) (by decide), mv, ma, mb]
    refine sp_greatest hv hab hb iv2.1.outm (fun K H3 k1 k2 om => k_X10_peakAnew_51 ?_)
    have iv3 := iv2.moi k1 k2 om
    have eo2 : OI (am_u J 498 0 0) = OI J0 := (OI_cong (am_u_row (by decide)) (am_u_row (by decide)) (am_u_row (by decide)) (am_u_row (by decide))).trans eo
    have eo3 : OI K = OI J0 := (OI_cong (funext fun k => k1 _ k (by omega) (by decide) (by decide) (by decide)) (funext fun k => k1 _ k (by omega) (by decide) (by decide) (by decide)) (funext fun k => k1 _ k (by omega) (by decide) (by decide) (by decide)) (funext fun k => k1 _ k (by omega) (by decide) (by decide) (by decide))).trans eo2
    rw [eo2]
    refine sp_outOf hv (by omega) om (fun K2 H4 k3 k4 om2 => k_X10_peakAnew_54 ?_)
    rw [ftib_oi, eo3]
    exact q _ _ (iv3.moi k3 k4 om2).inv ((k3 498 0 (by omega) (by decide) (by decide) (by decide)).trans ((k1 498 0 (by omega) (by decide) (by decide) (by decide)).trans am_u_eq))
  · refine k_X9_peakAnew_0 ⟨fun _ => qe 0 _ _ _ (by decide) (fun Q2 q => k_X10_peakAnew_0 (fun y ey => ?_)), fun a => absurd (r9_0 h40 rr.2.1 i) a⟩
    rw [r10_0 h40 rr.2.2.1 i, if_pos rfl] at ey
    subst ey
    exact ⟨fun _ => q _ _ _ iv.thr.inv am_u_eq, fun a => absurd (hol_0 (by decide)) a⟩
theorem op_below (iv : Inv N I L F) : OpV X (N + 1) plE (fun Q => WP mX9_below 0 (am_ent 3 [.ref 0, .int p0, .int p1]) [] (G X I L F) 0 0 Q) mX10_below (am_ent 3 [.ref 498, .int p0, .int p1]) := by
  intro Q qv qe
  obtain ⟨s, T, rc, sc, t, n, iv⟩ := iv
  obtain ⟨ht, e9, e1⟩ := iv.2.2.1
  have da := iv.2.2.2.2.2.1
  have mE : ∀ e, (e = 1 ∧ ¬ InN p0 3) ∨ (e = 2 ∧ InN p0 3 ∧ ¬ InN p1 t) → AnsE X (N + 1) mX10_below (am_ent 3 [.ref 498, .int p0, .int p1]) e I L F := fun e he Q2 q => by
    have pe : (if f_X10_isDam p0 = 0 then (1 : Int32) else (if f_X10_isIn p1 0 ((I 498 1) - 1) = 0 then 2 else 0)) = nI e := by
      rcases he with ⟨e, h⟩ | ⟨e, h, h2⟩
      · rw [d10_0 h, if_pos rfl, e]; rfl
      · rw [d10_1 h, if_neg n10, e1, isInS_0 (by omega) h2, if_pos rfl, e]; rfl
    have ne : nI e ≠ 0 := by
      rcases he with ⟨e, h⟩ | ⟨e, h, h2⟩ <;> rw [e] <;> decide
    refine s_X10_below ?_ ?_
    · unfold p_X10_below
      rw [pe, hol_0 ne]
      exact ⟨fun a => absurd rfl a, trivial⟩
    · unfold f_X10_below fI_X10_below fI_X10_holds
      rw [pe]
      exact q _ _ _ iv.thr.inv am_u_eq
  by_cases i : InN p0 3
  · have i2 := i
    obtain ⟨d, hd, e⟩ := i2
    refine k_X9_below_0 ⟨fun a => absurd a (by rw [d9_1 i]; exact n10), fun _ => ?_⟩
    by_cases j : InN p1 t
    · have j2 := j
      obtain ⟨h, hh, e2⟩ := j2
      have j3 : InN p1 201 := ⟨h, by omega, e2⟩
      have ix : (201 : Int32) * p0 + p1 = nI (201 * d + h) := by rw [e, e2, show (201 : Int32) = nI 201 from rfl, nI_mul, nI_add]
      obtain ⟨_, ⟨_, _, _, dB⟩, _, _, _, fB⟩ := da d hd
      have ev : F ((423 + 5 * Int32.toNatClampNeg p0) + 4) (Int32.toNatClampNeg p1) = F 525 (201 * d + h) := by
        rw [e, e2, nI_clamp (show d < 2 ^ 31 by omega), nI_clamp (show h < 2 ^ 31 by omega), show 423 + 5 * d + 4 = 427 + 5 * d by omega]
        exact dB h (by omega)
      obtain ⟨f1, f2⟩ := fB h (by omega)
      refine ⟨fun a => absurd a (by rw [isHour_1 j3]; exact n10), fun _ => ⟨fun _ => ?_, fun a => absurd ?_ a⟩⟩
      · rw [ev]
        refine sp_bitsOf f1 (pz_z f2) (k_X9_below_58 (qv _ _ _ _ (fun z Q2 q => ?_)))
        refine s_X10_below ?_ ?_
        · unfold p_X10_below
          rw [ix]
          exact ⟨fun _ => ⟨nI_in (by omega) (by decide), trivial⟩, trivial⟩
        · unfold f_X10_below fI_X10_below fI_X10_holds
          rw [d10_1 i, if_neg n10, e1, isInS_1 (by omega) j, if_neg n10, hol_1, if_neg n10, ix, nI_clamp (show 201 * d + h < 2 ^ 31 by omega), ftib f1.nn]
          exact q _ _ (iv.l540.thr).inv am_u_eq
      · rw [e9, e2]; exact (nI_ltI (by omega) (by omega)).mpr hh
    · refine ⟨fun _ => qe 1 _ _ _ (by decide) (mE 2 (Or.inr ⟨rfl, i, j⟩)), fun a => ⟨fun b => absurd ?_ j, fun _ => qe 1 _ _ _ (by decide) (mE 2 (Or.inr ⟨rfl, i, j⟩))⟩⟩
      have j3 : InN p1 201 := Classical.byContradiction fun h => a (isHour_0 h)
      obtain ⟨h, hh, e2⟩ := j3
      rw [e9, e2] at b
      exact ⟨h, (nI_ltI (by omega) (by omega)).mp b, e2⟩
  · exact k_X9_below_0 ⟨fun _ => qe 0 _ _ _ (by decide) (mE 1 (Or.inl ⟨rfl, i⟩)), fun a => absurd (d9_0 i) a⟩
end OB
