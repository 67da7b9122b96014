/-! own: hours pass in the class -/
set_option maxRecDepth 100000
/-- what a pass may change in the class -/
def CPf (I0 I : Nat → Nat → Int32) : Prop := ∀ o k, ¬ (o = 0 ∧ k = 9) → ¬ (o = 10 ∧ k = 2) → ¬ (∃ v, v < 60 ∧ o = 19 + 6 * v ∧ k = 6 ∧ nI v < I0 9 4) → ¬ (∃ d, d < 3 ∧ o = 423 + 5 * d ∧ k = 13) → ¬ (438 ≤ o ∧ o < 498 ∧ k = 4) → I o k = I0 o k
def CPF (F0 F : Nat → Nat → UInt32) : Prop := ∀ o k, o ≠ 11 → o ≠ 12 → ¬ (∃ v, v < 60 ∧ o = 19 + 6 * v + 5) → ¬ (423 ≤ o ∧ o < 438) → F o k = F0 o k
/-- the class's cells show the state A, B at the hour t -/
def CV (s : AS) (I0 : Nat → Nat → Int32) (L : Nat → Nat → Int64) (F0 : Nat → Nat → UInt32) (A : Nat → Nat → Int32) (B : Nat → Nat → UInt32) (t sc : Nat) (I : Nat → Nat → Int32) (F : Nat → Nat → UInt32) : Prop := CPf I0 I ∧ CPF F0 F ∧ OutC I L F (aC s) ∧ I 0 9 = nI t ∧ (∀ d, d < 3 → DamD I F A B d) ∧ ∀ x, x < sc → I (438 + x) 4 = A 1000535 x
/-- what does not change in a pass -/
def PSt (s : AS) (I0 : Nat → Nat → Int32) (L : Nat → Nat → Int64) (F0 : Nat → Nat → UInt32) (T rc sc : Nat) : Prop := (WA s ∧ CA I0 L s ∧ MA I0 s) ∧ RunR I0 F0 (aC s) T rc ∧ (∀ d, d < 3 → DamS I0 rc d) ∧ (sc ≤ 60 ∧ I0 0 8 = nI sc ∧ I0 1000498 39 = nI sc ∧ ∀ x, x < sc → Sir1 I0 rc x)
section CQ
variable {X : Nat × (Nat × (Nat → Int32))} {I I0 A J : Nat → Nat → Int32} {F F0 B H : Nat → Nat → UInt32} {s : AS} {d t x sc j n r rc T o k t0 : Nat} {L : Nat → Nat → Int64} {Q : AQ}
theorem CPf.hi (f : CPf I0 I) (h : 498 ≤ o) : I o = I0 o := funext fun k => f o k (by omega) (by omega) (fun ⟨v, a, b, _⟩ => by omega) (fun ⟨v, a, b, _⟩ => by omega) (by omega)
theorem CPf.oi (f : CPf I0 I) : OI I = OI I0 := OI_cong (f.hi (by decide)) (f.hi (by decide)) (f.hi (by decide)) (f.hi (by decide))
theorem CPf.run (f : CPf I0 I) (h : 374 ≤ o) (h2 : o < 423) : I o k = I0 o k := f o k (by omega) (by omega) (fun ⟨v, a, b, _⟩ => by omega) (fun ⟨v, a, b, _⟩ => by omega) (by omega)
theorem CPf.dam (f : CPf I0 I) (h : 423 ≤ o) (h2 : o < 438) (hk : k ≠ 13) : I o k = I0 o k := f o k (by omega) (by omega) (fun ⟨v, a, b, _⟩ => by omega) (fun ⟨v, a, b, e⟩ => hk e) (by omega)
theorem CPf.sir (f : CPf I0 I) (h : 438 ≤ o) (h2 : o < 498) (hk : k ≠ 4) : I o k = I0 o k := f o k (by omega) (by omega) (fun ⟨v, a, b, _⟩ => by omega) (fun ⟨v, a, b, e⟩ => by omega) (by omega)
theorem CPf.c0 (f : CPf I0 I) (hk : k ≠ 9) : I 0 k = I0 0 k := f 0 k (by omega) (by omega) (fun ⟨v, a, b, _⟩ => by omega) (fun ⟨v, a, b, e⟩ => by omega) (by omega)
theorem CPf.lo (f : CPf I0 I) (h : 0 < o) (h2 : o < 379) (h1 : o ≠ 10) (hk : k ≠ 6) : I o k = I0 o k := f o k (by omega) (by omega) (fun ⟨v, a, b, e, _⟩ => hk e) (fun ⟨v, a, b, e⟩ => by omega) (by omega)
theorem CPf.row (f : CPf I0 I) (h : 0 < o) (h2 : o < 379) (h1 : o ≠ 10) (hk : ¬ ∃ v, v < 60 ∧ o = 19 + 6 * v) : I o k = I0 o k := f o k (by omega) (by omega) (fun ⟨v, a, b, e, _⟩ => hk ⟨v, a, b⟩) (fun ⟨v, a, b, e⟩ => by omega) (by omega)
theorem CPf.ca (f : CPf I0 I) (hc : aC s ≤ 60) (z : CA I0 L s) : CA I L s := z.fr (fun o k a b c e => f.lo (by omega) c a e) (fun o k a b c => f.row (by omega) b (by omega) c) hc
theorem CPf.rs (f : CPf I0 I) (hr : r < 40) : f_X9_reasonAgainst (nI r) I = f_X9_reasonAgainst (nI r) I0 ∧ f_X9_isRun (nI r) I = f_X9_isRun (nI r) I0 :=
  rs_eq (f.c0 (by decide)) (f.lo (by decide) (by decide) (by decide) (by decide)) (fun k => f.row (by decide) (by decide) (by decide) (fun ⟨v, a, b⟩ => by omega)) (fun v hv => f.lo (by omega) (by omega) (by omega) (by decide)) (f.run (by omega) (by omega)) (f.run (by omega) (by omega)) (by omega)
theorem isDm (h : d < 3) : f_X9_isDam (nI d) = 1 := by
  unfold f_X9_isDam
  rw [if_neg (nI_pos (by omega)), if_neg (show ¬ (3 : Int32) ≤ nI d from fun n => by have := (nI_leI (a := 3) (b := d) (by decide) (by omega)).mp n; omega)]
/-- a dam's hour, in the class -/
theorem cv_dam (ps : PSt s I0 L F0 T rc sc) (hd : d < 3) (ht : t < 200) (cv : CV s I0 L F0 A B t sc I F) (vb : VBk B t d) (hb : I0 1000517 d ≠ 0) (q : ∀ J H, CV s I0 L F0 A (vDam s I0 F0 d t B) t sc J H → Q (.inl none) (G X J L H)) : WP mX9_passHourAt 0 (am_ent 8 [.ref 0, .ref (423 + 5 * d)]) [] (G X I L F) 0 0 Q := by
  obtain ⟨⟨w, z, z2⟩, rr, ds, s60, e8, e39, ss⟩ := ps
  obtain ⟨f1, f2, oc, e9, cd, cx⟩ := cv
  obtain ⟨b0, b1, b2, b3, b4, b5, _⟩ := ds d hd
  obtain ⟨mo, cap, hmo, hcap, m1, m2, c1, c2⟩ := b1 hb
  obtain ⟨d5, d12, d13, dB⟩ := cd d hd
  obtain ⟨vl, vp, vt, vk⟩ := vb d hd
  rw [if_neg (Nat.lt_irrefl d)] at vl
  have h40 := rr.1
  have fr : ∀ k, k ≠ 13 → I (423 + 5 * d) k = I0 (423 + 5 * d) k := fun k hk => f1.dam (by omega) (by omega) hk
  have e7 : I 0 7 = nI rc := (f1.c0 (by decide)).trans rr.2.1
  have hpk : kv (vPk I0 F0 d) := vPk_kv rr b5
  have epk : vPk I0 F0 d = if f_X9_isRun (I (423 + 5 * d) 7) I = 0 then 0 else if f_X9_reasonAgainst (I (423 + 5 * d) 7) I = 0 then F (383 + (I (423 + 5 * d) 7).toNatClampNeg) 3 else 0 := by
    unfold vPk
    rw [fr 7 (by decide), b4]
    rcases b5 with e | ⟨r, hr, e⟩
    · rw [e, if_pos rfl, if_pos (show f_X9_isRun (-1) I = 0 from if_pos (by decide))]
    · obtain ⟨v, a, b, _, _, _, _, _, _, _, _, _, pe, _⟩ := rr.2.2.2 r hr
      rw [e, if_neg (nI_m1 (by omega)), isRun9 rr.1 e7 hr, if_neg (show ¬ (1 : Int32) = 0 by decide), (f1.rs (show r < 40 by omega)).1, nI_clamp (show r < 2 ^ 31 by omega), f2 (383 + r) 3 (by omega) (by omega) (fun ⟨v, a, b⟩ => by omega) (by omega), pe]
  refine sp_cpassHour (t0 := t) (rc := rc) (mo := mo) (cap := cap) (out := vOut s I0 d t) (pk := vPk I0 F0 d) (t := vTx I0 d) (ask := vAsk s I0 F0 (B 1000520 d) d t) w (f1.ca w.1 z) hd (by rw [d5]; exact vl) (by rw [d5]; exact vp) ht e9 hmo ((fr 3 (by decide)).trans m1) ((fr 4 (by decide)).trans c1) hcap oc rr.1 e7 (by rw [fr 7 (by decide), b4]; exact b5) ?_ hpk epk (fun n => ?_) ?_ (fun J H i1 i2 oc2 h5 hB => q J H ⟨fun o k a b c e g => (i1 o k b (fun ⟨v, x1, x2, x3, x4⟩ => c ⟨v, x1, x2, x3, ?_⟩)).trans (f1 o k a b c e g), fun o k a b c e => (i2 o k a b c (fun h => e (by omega)) (fun h => e (by omega))).trans (f2 o k a b c e), oc2, (i1 0 9 (by omega) (fun ⟨v, _, h, _⟩ => by omega)).trans e9, fun e he => ?_, fun x hx => (i1 _ 4 (by omega) (fun ⟨v, _, h, _⟩ => by omega)).trans (cx x hx)⟩)
  · unfold vOut
    rw [m2, nI_clamp (show mo < 2 ^ 31 by omega), f1.oi]
  · rw [fr 6 (by decide), b2] at n
    obtain ⟨l, l40, e, tx, fc⟩ := b3 n
    unfold vTx
    rw [e, nI_clamp (show l < 2 ^ 31 by omega)]
    refine ⟨tx, ?_⟩
    rw [show 423 + 5 * d + 1 = 424 + 5 * d by omega]
    exact FC_fr (fun x y h => f1 x y (by omega) (by omega) (fun ⟨v, a, b, _⟩ => by omega) (fun ⟨v, a, b, _⟩ => by omega) (by omega)) fc
  · unfold vAsk
    rw [fr 6 (by decide), b2, d5]
  · rw [f1.lo (by decide) (by decide) (by decide) (by decide)] at x4
    exact x4
  · obtain ⟨g5, g12, g13, gB⟩ := cd e he
    have j13 : J (423 + 5 * e) 13 = I (423 + 5 * e) 13 := i1 _ 13 (by omega) (fun ⟨v, _, h, _⟩ => by omega)
    have h12 : H (423 + 5 * e) 12 = F (423 + 5 * e) 12 := i2 _ 12 (by omega) (by omega) (fun ⟨v, a, b⟩ => by omega) (by omega) (by omega)
    by_cases ed : e = d
    · subst ed
      refine ⟨?_, ?_, j13.trans g13, fun k hk => ?_⟩
      · rw [h5, vDam_lev hb, d5]; unfold vLev; rw [c2]
      · rw [h12, vDam_o (by decide) (by decide)]; exact g12
      · by_cases kt : k = t
        · subst kt; rw [hB, vDam_bel hb, d5]; unfold vBel; rw [c2]
        · rw [i2 _ k (by omega) (by omega) (fun ⟨v, a, b⟩ => by omega) (by omega) (by omega), vDam_bel_ne (by omega)]; exact gB k hk
    · refine ⟨?_, ?_, j13.trans g13, fun k hk => ?_⟩
      · rw [i2 _ 5 (by omega) (by omega) (fun ⟨v, a, b⟩ => by omega) (by omega) (by omega), vDam_lev_ne ed]; exact g5
      · rw [h12, vDam_o (by decide) (by decide)]; exact g12
      · rw [i2 _ k (by omega) (by omega) (fun ⟨v, a, b⟩ => by omega) (by omega) (by omega), vDam_bel_ne (by omega)]; exact gB k hk
theorem am_u_same {α : Type} {f : Nat → Nat → α} {o k : Nat} {v : α} (h : f o k = v) : am_u f o k v = f := by
  subst h
  exact am_u_self
/-- a siren's cells change, and its dam's -/
theorem cv_upd {st sv : Int32} {tr : UInt32} (hx : x < 60) (hd : d < 3) (cv : CV s I0 L F0 A B t sc I F) : CV s I0 L F0 (am_u (am_u A 1000535 x st) 1000531 d sv) (am_u B 1000530 d tr) t sc (am_u (am_u I (438 + x) 4 st) (423 + 5 * d) 13 sv) (am_u F (423 + 5 * d) 12 tr) := by
  obtain ⟨f1, f2, oc, e9, cd, cx⟩ := cv
  refine ⟨fun o k a b c e g => ?_, fun o k a b c e => ?_, oc.ext (fun q k hq => ?_) (fun q k hq => am_u_ne (by omega)), ?_, fun e he => ?_, fun y hy => ?_⟩
  · have : ¬ (o = 423 + 5 * d ∧ k = 13) := fun h => e ⟨d, hd, h⟩
    rw [am_u_ne (by omega), am_u_ne (by omega)]; exact f1 o k a b c e g
  · rw [am_u_ne (by omega)]; exact f2 o k a b c e
  · rw [am_u_ne (by omega), am_u_ne (by omega)]
  · rw [am_u_ne (by omega), am_u_ne (by omega)]; exact e9
  · obtain ⟨g5, g12, g13, gB⟩ := cd e he
    refine ⟨?_, ?_, ?_, fun k hk => ?_⟩
    · rw [am_u_ne (by omega), am_u_ne (by omega)]; exact g5
    · by_cases h : e = d
      · rw [h, am_u_eq, am_u_eq]
      · rw [am_u_ne (by omega), am_u_ne (by omega)]; exact g12
    · by_cases h : e = d
      · rw [h, am_u_eq, am_u_eq]
      · rw [am_u_ne (by omega), am_u_ne (by omega), am_u_ne (by omega), am_u_ne (by omega)]; exact g13
    · rw [am_u_ne (by omega), am_u_ne (by omega)]; exact gB k hk
  · rw [am_u_ne (show 438 + y ≠ 423 + 5 * d ∨ 4 ≠ 13 by omega), am_u_ne (show 1000535 ≠ 1000531 ∨ y ≠ d by omega)]
    by_cases h : y = x
    · rw [h, am_u_eq, am_u_eq]
    · rw [am_u_ne (by omega), am_u_ne (by omega)]; exact cx y hy
theorem jI_eq (e0 : I (438 + x) 0 = nI d) (e1 : I (438 + x) 1 = nI r) (e9 : I 0 9 = nI t) (hd : d < 3) (hr : f_X9_isRun (nI r) I = 1) (r31 : r < 2 ^ 31) (ht : t < 201) (x60 : x < 60) : fI_X9_judge (438 + x) I F = if f_X9_reasonAgainst (nI r) I = 0 then (if Op.cmpValue (FP.fcmp (F (427 + 5 * d) t) (FP.i2f (I (423 + 5 * d) 10))) .l < 0 then (if nI t < I (383 + r) 2 then I else am_u I (438 + x) 4 2) else (if nI t - I (438 + x) 2 < I (423 + 5 * d) 11 then am_u I (438 + x) 4 1 else am_u (am_u I (438 + x) 4 1) (423 + 5 * d) 13 (I (423 + 5 * d) 13 + I (438 + x) 3))) else am_u I (438 + x) 4 3 := by
  have n10 : ¬ (1 : Int32) = 0 := by decide
  have g1 : am_u I (438 + x) 4 1 0 9 = nI t := (am_u_ne (by omega)).trans e9
  have g2 : am_u I (438 + x) 4 1 (438 + x) 2 = I (438 + x) 2 := am_u_ne (by omega)
  have g3 : am_u I (438 + x) 4 1 (438 + x) 3 = I (438 + x) 3 := am_u_ne (by omega)
  have g4 : am_u I (438 + x) 4 1 (423 + 5 * d) 11 = I (423 + 5 * d) 11 := am_u_ne (by omega)
  have g5 : am_u I (438 + x) 4 1 (423 + 5 * d) 13 = I (423 + 5 * d) 13 := am_u_ne (by omega)
  unfold fI_X9_judge
  rw [e0, e1, e9, nI_clamp (show d < 2 ^ 31 by omega), nI_clamp r31, nI_clamp (show t < 2 ^ 31 by omega), isDm hd, hr, isHour_nI ht, if_neg n10, if_neg n10, if_neg n10, g1, g2, g3, g4, g5, show 423 + 5 * d + 4 = 427 + 5 * d by omega]
theorem jF_eq (e0 : I (438 + x) 0 = nI d) (e1 : I (438 + x) 1 = nI r) (e9 : I 0 9 = nI t) (hd : d < 3) (hr : f_X9_isRun (nI r) I = 1) (r31 : r < 2 ^ 31) (ht : t < 201) : fF_X9_judge (438 + x) I F = if f_X9_reasonAgainst (nI r) I = 0 then (if Op.cmpValue (FP.fcmp (F (427 + 5 * d) t) (FP.i2f (I (423 + 5 * d) 10))) .l < 0 then (if nI t < I (383 + r) 2 then F else am_u F (423 + 5 * d) 12 (FP.fmul (F (423 + 5 * d) 12) 1061158912)) else am_u F (423 + 5 * d) 12 (FP.fadd (F (423 + 5 * d) 12) (FP.fmul (FP.fsub 1065353216 (F (423 + 5 * d) 12)) 1056964608))) else am_u F (423 + 5 * d) 12 (FP.fmul (F (423 + 5 * d) 12) 1063675494) := by
  have n10 : ¬ (1 : Int32) = 0 := by decide
  unfold fF_X9_judge
  rw [e0, e1, e9, nI_clamp (show d < 2 ^ 31 by omega), nI_clamp r31, nI_clamp (show t < 2 ^ 31 by omega), isDm hd, hr, isHour_nI ht, if_neg n10, if_neg n10, if_neg n10, show 423 + 5 * d + 4 = 427 + 5 * d by omega]
theorem jP_ok (e0 : I (438 + x) 0 = nI d) (hd : d < 3) (tr : TrOk (F (423 + 5 * d) 12)) : p_X9_judge (438 + x) I F := by
  unfold p_X9_judge
  rw [e0, nI_clamp (show d < 2 ^ 31 by omega)]
  exact ⟨fun _ _ _ => ⟨⟨fun _ => ⟨fun _ _ => ⟨nn_vf.mpr (tr.mul tr_075).1.nn, trivial⟩, fun _ => ⟨nn_vf.mpr tr.lacks.1.nn, nn_vf.mpr (tr.lacks.mul tr_half).1.nn, nn_vf.mpr tr.rise.1.nn, trivial⟩⟩, fun _ => ⟨nn_vf.mpr (tr.mul tr_09).1.nn, trivial⟩⟩, trivial⟩, trivial⟩
/-- a siren is judged, in the class -/
theorem cv_judge (ps : PSt s I0 L F0 T rc sc) (hx : x < sc) (ht : t < 200) (cv : CV s I0 L F0 A B t sc I F) (ha : VAf I0 A) (vb : VBk B t j) (ex : A 1000535 x = 0) : p_X9_judge (438 + x) I F ∧ CV s I0 L F0 (vSI A B x t) (vSF A B x t) t sc (fI_X9_judge (438 + x) I F) (fF_X9_judge (438 + x) I F) := by
  obtain ⟨_, rr, ds, s60, e8, e39, ss⟩ := ps
  have cv0 := cv
  obtain ⟨f1, f2, oc, e9, cd, cx⟩ := cv
  obtain ⟨d, r, hd, hr, e0, m0, e1, m1, e2, e3⟩ := ss x hx
  have h40 := rr.1
  obtain ⟨c0, c1, c2, c3, c4, c5, c6, c7, c8, c10, c11⟩ := ds d hd
  obtain ⟨v, a, b, _, _, hb, _, _, _, _, rb, mb, _⟩ := rr.2.2.2 r hr
  obtain ⟨d5, d12, d13, dB⟩ := cd d hd
  have i0 : I (438 + x) 0 = nI d := (f1.sir (by omega) (by omega) (by decide)).trans e0
  have i1 : I (438 + x) 1 = nI r := (f1.sir (by omega) (by omega) (by decide)).trans e1
  have i2 : I (438 + x) 2 = A 1000534 x := by rw [f1.sir (by omega) (by omega) (by decide), e2, ha 1000534 (by decide) (by decide)]
  have i3 : I (438 + x) 3 = A 1000536 x := by rw [f1.sir (by omega) (by omega) (by decide), e3, ha 1000536 (by decide) (by decide)]
  have i10 : I (423 + 5 * d) 10 = A 1000528 d := by rw [f1.dam (by omega) (by omega) (by decide), c10, ha 1000528 (by decide) (by decide)]
  have i11 : I (423 + 5 * d) 11 = A 1000529 d := by rw [f1.dam (by omega) (by omega) (by decide), c11, ha 1000529 (by decide) (by decide)]
  have ib2 : I (383 + r) 2 = A 1000513 r := by rw [f1.run (by omega) (by omega), rb, ha 1000513 (by decide) (by decide), mb]
  have rI := (f1.rs (show r < 40 by omega)).1
  have rA : f_X9_reasonAgainst (nI r) A = f_X9_reasonAgainst (nI r) I0 := (rs_eq (by rw [ha 0 (by decide) (by decide)]) (by rw [ha 9 (by decide) (by decide)]) (fun k => by rw [ha 14 (by decide) (by decide)]) (fun v hv => by rw [ha (19 + 6 * v) (by omega) (by omega)]) (by rw [ha (383 + r) (by omega) (by omega)]) (by rw [ha (383 + r) (by omega) (by omega)]) (by omega)).1
  have run1 : f_X9_isRun (nI r) I = 1 := isRun9 rr.1 ((f1.c0 (by decide)).trans rr.2.1) hr
  have bl : F (427 + 5 * d) t = B 1000525 (201 * d + t) := dB t (by omega)
  have tr := (vb d hd).2.2.1
  refine ⟨jP_ok i0 hd (by rw [d12]; exact tr), ?_⟩
  have w532 : (A 1000532 x).toNatClampNeg = d := by rw [ha 1000532 (by decide) (by decide), m0, nI_clamp (by omega)]
  have w533 : (A 1000533 x).toNatClampNeg = r := by rw [ha 1000533 (by decide) (by decide), m1, nI_clamp (by omega)]
  have sI : vSI A B x t = mjI A B x d r t := by unfold vSI; rw [if_pos ex, w532, w533]
  have sF : vSF A B x t = mjF A B d r t := by unfold vSF; rw [if_pos ex, w532, w533]
  rw [jI_eq i0 i1 e9 hd run1 (by omega) (by omega) (by omega), jF_eq i0 i1 e9 hd run1 (by omega) (by omega), sI, sF, rI, bl, i10, ib2, i2, i11, i3, d12, d13]
  unfold mjI mjF
  rw [rA]
  have one : ∀ st y, CV s I0 L F0 (am_u A 1000535 x st) (am_u B 1000530 d y) t sc (am_u I (438 + x) 4 st) (am_u F (423 + 5 * d) 12 y) := fun st y => by
    have h := cv_upd (st := st) (sv := A 1000531 d) (tr := y) (show x < 60 by omega) hd cv0
    rw [am_u_same (show am_u I (438 + x) 4 st (423 + 5 * d) 13 = A 1000531 d from (am_u_ne (by omega)).trans d13), am_u_same (show am_u A 1000535 x st 1000531 d = A 1000531 d from am_u_ne (by omega))] at h
    exact h
  by_cases k1 : f_X9_reasonAgainst (nI r) I0 = 0
  · simp only [if_pos k1]
    by_cases k2 : Op.cmpValue (FP.fcmp (B 1000525 (201 * d + t)) (FP.i2f (A 1000528 d))) .l < 0
    · simp only [if_pos k2]
      by_cases k3 : nI t < A 1000513 r
      · simp only [if_pos k3]; exact cv0
      · simp only [if_neg k3]; exact one _ _
    · simp only [if_neg k2]
      by_cases k3 : nI t - A 1000534 x < A 1000529 d
      · simp only [if_pos k3]
        rw [Int32.add_zero, am_u_same (show am_u A 1000535 x 1 1000531 d = A 1000531 d from am_u_ne (by omega))]
        exact one _ _
      · simp only [if_neg k3]
        exact cv_upd (by omega) hd cv0
  · simp only [if_neg k1]; exact one _ _
/-- the sirens are judged -/
theorem cp_sirs {x1 x2 : Int32} (ps : PSt s I0 L F0 T rc sc) (ht : t < 200) (ha : VAf I0 A) (vb : VBk B t 3)
    (next : ∀ J H, CV s I0 L F0 (vSs A B t sc).1 (vSs A B t sc).2 t sc J H → WP mX9_pass 46 [some (.ref 0), some (.int x1), some (.int (x2 + 1)), some (.int (nI sc))] [] (G X (am_u J 0 9 ((J 0 9) + 1)) L H) 0 0 Q) : ∀ (m j : Nat) (I : Nat → Nat → Int32) (F : Nat → Nat → UInt32), j + m = sc → CV s I0 L F0 (vSs A B t j).1 (vSs A B t j).2 t sc I F →
    WP mX9_pass 92 [some (.ref 0), some (.int x1), some (.int x2), some (.int (nI j))] [] (G X I L F) 0 0 Q
  | 0, j, I, F, hj, cv => by
    have e : j = sc := by omega
    subst e
    have s60 := ps.2.2.2.1
    refine k_X9_pass_92 ⟨fun _ => next I F cv, fun n => absurd ?_ n⟩
    rw [cv.1.c0 (by decide), ps.2.2.2.2.1]
    exact (nI_leI (by omega) (by omega)).mpr (Nat.le_refl _)
  | m + 1, j, I, F, hj, cv => by
    have s60 := ps.2.2.2.1
    have e8 : I 0 8 = nI sc := (cv.1.c0 (by decide)).trans ps.2.2.2.2.1
    refine k_X9_pass_92 ⟨fun n => absurd ((nI_leI (a := sc) (b := j) (by omega) (by omega)).mp (by rw [← e8]; exact n)) (by omega), fun _ => ⟨fun n => absurd ((nI_leI (a := 60) (by decide) (by omega)).mp n) (by omega), fun _ => ⟨nI_in (by omega) (by decide), ?_⟩⟩⟩
    have hd : ∀ x, x < sc → ∃ d, d < 3 ∧ I0 1000532 x = nI d := fun x hx => by
      obtain ⟨d, r, a, _, _, b, _⟩ := ps.2.2.2.2.2.2 x hx
      exact ⟨d, a, b⟩
    have va := vSs_f (t := t) (B := B) ha j
    have vb2 := vSs_ok hd ha vb j (by omega)
    have ec : I (438 + j) 4 = (vSs A B t j).1 1000535 j := cv.2.2.2.2.2 j (by omega)
    rw [nI_clamp (show j < 2 ^ 31 by omega), nI_1]
    refine ⟨fun z => ⟨nI_in (by omega) (by decide), (cv_judge ps (by omega) ht cv va vb2 (by rw [← ec]; exact z)).1, trivial⟩, fun J eJ H eH => ?_⟩
    refine cp_sirs ps ht ha vb next m (j + 1) J H (by omega) ?_
    show CV s I0 L F0 (vSI (vSs A B t j).1 (vSs A B t j).2 j t) (vSF (vSs A B t j).1 (vSs A B t j).2 j t) t sc J H
    by_cases z : I (438 + j) 4 = 0
    · rw [if_pos z] at eJ eH
      rw [eJ, eH]
      exact (cv_judge ps (by omega) ht cv va vb2 (by rw [← ec]; exact z)).2
    · rw [if_neg z] at eJ eH
      rw [eJ, eH]
      unfold vSI vSF
      rw [if_neg (by rw [← ec]; exact z), if_neg (by rw [← ec]; exact z)]
      exact cv
/-- the dams have their hour -/
theorem cp_dams {x1 x2 : Int32} (ps : PSt s I0 L F0 T rc sc) (ht : t < 200) (vb : VBk B t 0)
    (next : ∀ J H, CV s I0 L F0 A (vDs s I0 F0 t B 3) t sc J H → WP mX9_pass 92 [some (.ref 0), some (.int x1), some (.int x2), some (.int (nI 0))] [] (G X J L H) 0 0 Q) : ∀ (m j : Nat) (I : Nat → Nat → Int32) (F : Nat → Nat → UInt32), j + m = 3 → CV s I0 L F0 A (vDs s I0 F0 t B j) t sc I F →
    WP mX9_pass 53 [some (.ref 0), some (.int x1), some (.int x2), some (.int (nI j))] [] (G X I L F) 0 0 Q
  | 0, j, I, F, hj, cv => by
    have e : j = 3 := by omega
    subst e
    exact k_X9_pass_53 ⟨fun _ => next I F cv, fun n => absurd (by decide) n⟩
  | m + 1, j, I, F, hj, cv => by
    have hin : vp_in (nI j) 3 := nI_in (by omega) (by decide)
    refine k_X9_pass_53 ⟨fun n => absurd ((nI_leI (a := 3) (by decide) (by omega)).mp n) (by omega), fun _ => ⟨hin, ?_⟩⟩
    rw [nI_clamp (show j < 2 ^ 31 by omega), cv.1.dam (by omega) (by omega) (by decide), (ps.2.2.1 j (by omega)).1]
    refine ⟨fun z => k_X9_pass_84 ?_, fun z => ⟨hin, cv_dam ps (by omega) ht cv (VBk.ds (by omega) ps.2.2.1 vb j (by omega)) z (fun J H cv2 => k_X9_pass_84 ?_)⟩⟩
    · rw [nI_1]
      refine cp_dams ps ht vb next m (j + 1) I F (by omega) ?_
      show CV s I0 L F0 A (vDam s I0 F0 j t (vDs s I0 F0 t B j)) t sc I F
      unfold vDam
      rw [if_pos z]
      exact cv
    · rw [nI_1]
      exact cp_dams ps ht vb next m (j + 1) J H (by omega) cv2
theorem cv_next (cv : CV s I0 L F0 A B t sc I F) : CV s I0 L F0 A B (t + 1) sc (am_u I 0 9 (I 0 9 + 1)) F := by
  obtain ⟨f1, f2, oc, e9, cd, cx⟩ := cv
  refine ⟨fun o k a b c e g => by rw [am_u_ne (by omega)]; exact f1 o k a b c e g, f2, oc.ext0 (fun q k h0 hq => am_u_ne (by omega)), ?_, fun d hd => ?_, fun x hx => ?_⟩
  · rw [am_u_eq, e9, nI_1]
  · obtain ⟨a, b, c, e⟩ := cd d hd
    exact ⟨a, b, by rw [am_u_ne (by omega)]; exact c, e⟩
  · rw [am_u_ne (by omega)]; exact cx x hx
/-- the hours of a pass -/
theorem cp_hours (ps : PSt s I0 L F0 T rc sc) (vb : VBk F0 t0 0) {n : Nat} (ht : t0 + n ≤ 200) (q : ∀ J H, CV s I0 L F0 (vHs s I0 F0 sc t0 n).1 (vHs s I0 F0 sc t0 n).2 (t0 + n) sc J H → Q (.inl (some (.int (nI (t0 + n))))) (G X J L H)) : ∀ (m j : Nat) (I : Nat → Nat → Int32) (F : Nat → Nat → UInt32) (d3 : Option Value), j + m = n → CV s I0 L F0 (vHs s I0 F0 sc t0 j).1 (vHs s I0 F0 sc t0 j).2 (t0 + j) sc I F →
    WP mX9_pass 46 [some (.ref 0), some (.int (nI n)), some (.int (nI j)), d3] [] (G X I L F) 0 0 Q
  | 0, j, I, F, d3, hj, cv => by
    have e : j = n := by omega
    subst e
    refine k_X9_pass_46 ⟨fun _ => ?_, fun h => absurd ((nI_leI (by omega) (by omega)).mpr (Nat.le_refl _)) h⟩
    rw [cv.2.2.2.1]
    exact q I F cv
  | m + 1, j, I, F, d3, hj, cv => by
    have hd : ∀ x, x < sc → ∃ d, d < 3 ∧ I0 1000532 x = nI d := fun x hx => by
      obtain ⟨d, r, a, _, _, b, _⟩ := ps.2.2.2.2.2.2 x hx
      exact ⟨d, a, b⟩
    have vb2 := vHs_ok (s := s) hd ps.2.2.1 vb j (by omega)
    refine k_X9_pass_46 ⟨fun h => absurd ((nI_leI (by omega) (by omega)).mp h) (by omega), fun _ => ?_⟩
    refine cp_dams (t := t0 + j) ps (by omega) vb2 (fun J H cv2 => ?_) 3 0 I F rfl cv
    refine cp_sirs (t := t0 + j) ps (by omega) (vHs_f j) (VBk.ds (by omega) ps.2.2.1 vb2 3 (Nat.le_refl 3)) (fun J2 H2 cv3 => ?_) sc 0 J H (Nat.zero_add _) cv2
    rw [nI_1]
    exact cp_hours ps vb ht q m (j + 1) _ _ _ (by omega) (cv_next cv3)
theorem rng {x : Int32} {m : Nat} (hm : m < 2147483648) : (x < 1 ∨ ¬ x ≤ nI m) ∨ ∃ n, 1 ≤ n ∧ n ≤ m ∧ x = nI n := by
  by_cases a : x < 1
  · exact Or.inl (Or.inl a)
  · by_cases b : x ≤ nI m
    · right
      have h0 : (0 : Int32) ≤ x := Int32.le_trans (by decide) (Int32.not_lt.mp a)
      obtain ⟨n, hn, e⟩ := nI_of (Int32.not_lt.mpr h0)
      subst e
      have b2 := (nI_leI (a := n) (b := m) hn hm).mp b
      have a2 : ¬ n < 1 := fun h => a ((nI_ltI (a := n) (b := 1) hn (by decide)).mpr h)
      exact ⟨n, by omega, b2, rfl⟩
    · exact Or.inl (Or.inr b)
/-- hours pass, in the class -/
theorem sp_cpass {hours : Int32} (ps : PSt s I0 L F0 T rc sc) (vb : VBk F0 t0 0) (cv : CV s I0 L F0 I0 F0 t0 sc I0 F0) (ht : t0 ≤ 200)
    (q1 : (hours < 1 ∨ ¬ hours ≤ nI 24) → Q (.inr 1) (G X I0 L F0)) (q2 : ∀ n, 1 ≤ n → n ≤ 24 → hours = nI n → 200 < t0 + n → Q (.inr 2) (G X I0 L F0))
    (q3 : ∀ n, 1 ≤ n → n ≤ 24 → hours = nI n → t0 + n ≤ 200 → ∀ J H, CV s I0 L F0 (vHs s I0 F0 sc t0 n).1 (vHs s I0 F0 sc t0 n).2 (t0 + n) sc J H → Q (.inl (some (.int (nI (t0 + n))))) (G X J L H)) :
    WP mX9_pass 0 (am_ent 4 [.ref 0, .int hours]) [] (G X I0 L F0) 0 0 Q := by
  refine k_X9_pass_0 ?_
  rcases rng (x := hours) (m := 24) (by decide) with h | ⟨n, h1, h2, e⟩
  · exact ⟨fun _ => q1 h, fun a => ⟨fun b => absurd h (fun h => h.elim a (fun c => c b)), fun _ => q1 h⟩⟩
  · subst e
    refine ⟨fun a => absurd ((nI_ltI (a := n) (b := 1) (by omega) (by decide)).mp a) (by omega), fun _ => ⟨fun _ => ?_, fun a => absurd ((nI_leI (a := n) (b := 24) (by omega) (by decide)).mpr h2) a⟩⟩
    rw [cv.2.2.2.1, nI_add]
    refine ⟨fun a => ?_, fun a => q2 n h1 h2 rfl (Nat.lt_of_not_le fun b => a ((nI_leI (b := 200) (by omega) (by decide)).mpr b))⟩
    have le := (nI_leI (b := 200) (by omega) (by decide)).mp a
    exact cp_hours ps vb le (q3 n h1 h2 rfl le) n 0 I0 F0 _ (Nat.zero_add _) cv
end CQ
