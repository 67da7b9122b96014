/-! own: hours pass in the model -/
set_option maxRecDepth 100000
/-- what a pass may change in the model -/
def MPfr (J0 J : Nat → Nat → Int32) : Prop := ∀ o k, ¬ (o = 498 ∧ (k = 0 ∨ k = 1 ∨ k = 46 ∨ k = 48 ∨ k = 50)) → o ≠ 537 → o ≠ 539 → o ≠ 510 → o ≠ 531 → o ≠ 535 → J o k = J0 o k
def MPFr (H0 H : Nat → Nat → UInt32) : Prop := ∀ o k, o ≠ 538 → o ≠ 509 → ¬ (o = 498 ∧ 51 ≤ k ∧ k ≤ 53) → o ≠ 520 → o ≠ 525 → o ≠ 530 → H o k = H0 o k
/-- what both sides leave as it was -/
def PFr (I0 J : Nat → Nat → Int32) (F0 H : Nat → Nat → UInt32) : Prop := (∀ o k, ¬ (o = 0 ∧ k = 9) → ¬ (o = 10 ∧ k = 2) → ¬ (∃ v, v < 60 ∧ o = 19 + 6 * v ∧ k = 6 ∧ nI v < I0 9 4) → ¬ (∃ d, d < 3 ∧ o = 423 + 5 * d ∧ k = 13) → ¬ (438 ≤ o ∧ o < 498 ∧ k = 4) → ¬ (o = 498 ∧ (k = 0 ∨ k = 1 ∨ k = 46 ∨ k = 48 ∨ k = 50)) → o ≠ 537 → o ≠ 539 → o ≠ 510 → o ≠ 531 → o ≠ 535 → J o k = I0 o k) ∧ (∀ k, H 514 k = F0 514 k) ∧ ∀ r, r < 40 → H (383 + r) 3 = F0 (383 + r) 3
/-- the model's cells show the state A, B at the hour t -/
def MVs (s : AS) (J0 : Nat → Nat → Int32) (H0 : Nat → Nat → UInt32) (A : Nat → Nat → Int32) (B : Nat → Nat → UInt32) (t : Nat) (J : Nat → Nat → Int32) (H : Nat → Nat → UInt32) : Prop := MPfr J0 J ∧ MPFr H0 H ∧ OutM J H (aC s) ∧ (J 498 1 = nI t ∧ J 498 0 = 0) ∧ (∀ k, J 531 k = A 531 k) ∧ (∀ k, J 535 k = A 535 k) ∧ (∀ k, H 520 k = B 520 k) ∧ (∀ k, H 525 k = B 525 k) ∧ ∀ k, H 530 k = B 530 k
section MQ
variable {X : Nat × (Nat → Int32)} {I I0 J0 A J : Nat → Nat → Int32} {F F0 H0 B H : Nat → Nat → UInt32} {s : AS} {d t x sc j n r rc T o k t0 : Nat} {L : Nat → Nat → Int64} {Q : AQ}
theorem PFr.of (f : CPf I0 J0) (g : CPF F0 H0) (a : MPfr J0 J) (b : MPFr H0 H) : PFr I0 J F0 H :=
  ⟨fun o k x1 x2 x3 x4 x5 x6 x7 x8 x9 y1 y2 => (a o k x6 x7 x8 x9 y1 y2).trans (f o k x1 x2 x3 x4 x5), fun k => (b 514 k (by decide) (by decide) (by omega) (by decide) (by decide) (by decide)).trans (g 514 k (by decide) (by decide) (fun ⟨v, x, y⟩ => by omega) (by decide)), fun r hr => (b _ 3 (by omega) (by omega) (by omega) (by omega) (by omega) (by omega)).trans (g _ 3 (by omega) (by omega) (fun ⟨v, x, y⟩ => by omega) (by omega))⟩
theorem PFr.hi (f : PFr I0 J F0 H) (h : 499 ≤ o) (h2 : o ≤ 530 ∨ 532 ≤ o) (h3 : o ≤ 534 ∨ o = 536) (h4 : o ≠ 510) : J o = I0 o := funext fun k => f.1 o k (by omega) (by omega) (fun ⟨v, a, b, _⟩ => by omega) (fun ⟨v, a, b, _⟩ => by omega) (by omega) (by omega) (by omega) (by omega) h4 (by omega) (by omega)
theorem PFr.md (f : PFr I0 J F0 H) (h : 374 ≤ o) (h2 : o < 423) : J o k = I0 o k := f.1 o k (by omega) (by omega) (fun ⟨v, a, b, _⟩ => by omega) (fun ⟨v, a, b, _⟩ => by omega) (by omega) (by omega) (by omega) (by omega) (by omega) (by omega) (by omega)
theorem PFr.c0 (f : PFr I0 J F0 H) (hk : k ≠ 9) : J 0 k = I0 0 k := f.1 0 k (by omega) (by omega) (fun ⟨v, a, b, _⟩ => by omega) (fun ⟨v, a, b, e⟩ => by omega) (by omega) (by omega) (by omega) (by omega) (by omega) (by omega) (by omega)
theorem PFr.lo (f : PFr I0 J F0 H) (h : 0 < o) (h2 : o < 379) (h1 : o ≠ 10) (hk : k ≠ 6) : J o k = I0 o k := f.1 o k (by omega) (by omega) (fun ⟨v, a, b, e, _⟩ => hk e) (fun ⟨v, a, b, e⟩ => by omega) (by omega) (by omega) (by omega) (by omega) (by omega) (by omega) (by omega)
theorem PFr.row (f : PFr I0 J F0 H) (h : 0 < o) (h2 : o < 379) (h1 : o ≠ 10) (hk : ¬ ∃ v, v < 60 ∧ o = 19 + 6 * v) : J o k = I0 o k := f.1 o k (by omega) (by omega) (fun ⟨v, a, b, e, _⟩ => hk ⟨v, a, b⟩) (fun ⟨v, a, b, e⟩ => by omega) (by omega) (by omega) (by omega) (by omega) (by omega) (by omega) (by omega)
theorem PFr.m (f : PFr I0 J F0 H) (hk : 1 < k) (h2 : k < 46) : J 498 k = I0 498 k := f.1 498 k (by omega) (by omega) (fun ⟨v, a, b, e, _⟩ => by omega) (fun ⟨v, a, b, e⟩ => by omega) (by omega) (by omega) (by omega) (by omega) (by omega) (by omega) (by omega)
theorem PFr.ca (f : PFr I0 J F0 H) (hc : aC s ≤ 60) (z : CA I0 L s) : CA J L s := z.fr (fun o k a b c e => f.lo (by omega) c a e) (fun o k a b c => f.row (by omega) b (by omega) c) hc
theorem PFr.ma (f : PFr I0 J F0 H) (z : MA I0 s) : MA J s := z.fr (f.m (by decide) (by decide)) (fun o a b => f.hi (by omega) (by omega) (by omega) (by omega))
theorem PFr.oi (f : PFr I0 J F0 H) : OI J = OI I0 := OI_cong (f.hi (by decide) (by decide) (by decide) (by decide)) (f.hi (by decide) (by decide) (by decide) (by decide)) (f.hi (by decide) (by decide) (by decide) (by decide)) (f.hi (by decide) (by decide) (by decide) (by decide))
theorem PFr.rr {c : Nat} (f : PFr I0 J F0 H) (z : RunR I0 F0 c T rc) : RunR J H c T rc := by
  have h40 := z.1
  exact ⟨z.1, (f.c0 (by decide)).trans z.2.1, (f.m (by decide) (by decide)).trans z.2.2.1, fun r hr => (z.2.2.2 r hr).fr (fun k => f.md (by omega) (by omega)) (fun o h => f.hi (by omega) (by omega) (by omega) (by omega)) (f.2.2 r (by omega)) (funext f.2.1)⟩
theorem PFr.rs (f : PFr I0 J F0 H) (hr : r < 40) : f_X9_reasonAgainst (nI r) J = f_X9_reasonAgainst (nI r) I0 ∧ f_X9_isRun (nI r) J = f_X9_isRun (nI r) I0 :=
  rs_eq (f.c0 (by decide)) (f.lo (by decide) (by decide) (by decide) (by decide)) (fun k => f.row (by decide) (by decide) (by decide) (fun ⟨v, a, b⟩ => by omega)) (fun v hv => f.lo (by omega) (by omega) (by omega) (by decide)) (f.md (by omega) (by omega)) (f.md (by omega) (by omega)) (by omega)
/-- a dam's hour, in the model -/
theorem mv_dam (ps : PSt s I0 L F0 T rc sc) (hd : d < 3) (ht : t < 200) (c1 : CPf I0 J0) (c2 : CPF F0 H0) (mv : MVs s J0 H0 A B t J H) (vb : VBk B t d) (hb : I0 517 d ≠ 0) (q : ∀ J H, MVs s J0 H0 A (vDam s I0 F0 d t B) t J H → Q (.inl none) (G X J L H)) : WP mX10_flows 0 (am_ent 9 [.ref 498, .int (nI d)]) [] (G X J L H) 0 0 Q := by
  obtain ⟨⟨w, z, z2⟩, rr, ds, s60, e8, e39, ss⟩ := ps
  obtain ⟨f1, f2, om, ⟨e1, e0⟩, m531, m535, m520, m525, m530⟩ := mv
  have pf : PFr I0 J F0 H := PFr.of c1 c2 f1 f2
  obtain ⟨b0, b1, b2, b3, b4, b5, _⟩ := ds d hd
  obtain ⟨mo, cap, hmo, hcap, mo1, mo2, cp1, cp2⟩ := b1 hb
  obtain ⟨vl, vp, vt, vk⟩ := vb d hd
  rw [if_neg (Nat.lt_irrefl d)] at vl
  have h40 := rr.1
  have hi : ∀ o, 511 ≤ o → o ≤ 530 → J o = I0 o := fun o a b => pf.hi (by omega) (by omega) (by omega) (by omega)
  have hpk : kv (vPk I0 F0 d) := vPk_kv rr b5
  have epk : vPk I0 F0 d = if J 524 d = -1 then 0 else if f_X9_reasonAgainst (J 524 d) J = 0 then H 514 (J 524 d).toNatClampNeg else 0 := by
    unfold vPk
    rw [hi 524 (by decide) (by decide)]
    rcases b5 with e | ⟨r, hr, e⟩
    · rw [e, if_pos rfl, if_pos rfl]
    · rw [e, if_neg (nI_m1 (by omega)), if_neg (nI_m1 (by omega)), (pf.rs (show r < 40 by omega)).1, pf.2.1]
  have hlx : ∃ l, I0 521 d ≠ 0 → l ≤ 40 ∧ I0 522 d = nI l ∧ Txt 1 (seg (I0 523) (40 * d) l) ∧ vTx I0 d = seg (I0 523) (40 * d) l := by
    by_cases n : I0 521 d = 0
    · exact ⟨0, fun h => absurd n h⟩
    · obtain ⟨l, l40, e, tx, fc⟩ := b3 n
      exact ⟨l, fun _ => ⟨l40, e, tx, by unfold vTx; rw [e, nI_clamp (show l < 2 ^ 31 by omega)]⟩⟩
  obtain ⟨l, hl⟩ := hlx
  refine sp_mflows (t0 := t) (mo := mo) (cap := cap) (l := l) (T := T) (rc := rc) (out := vOut s I0 d t) (pk := vPk I0 F0 d) (ask := vAsk s I0 F0 (B 520 d) d t) w (pf.ca w.1 z) (pf.ma z2) om (pf.rr rr) hd (by rw [m520]; exact vl) (by rw [m520]; exact vp) ht e1 hmo (by rw [hi 518 (by decide) (by decide)]; exact mo2) ?_ (by rw [hi 519 (by decide) (by decide)]; exact cp2) hcap (by rw [hi 524 (by decide) (by decide)]; exact b5) hpk epk (fun n => ?_) ?_ (fun K H2 i1 i2 om2 h5 hB => q K H2 ⟨fun o k a b c e g h => (i1 o k (fun n => a (by omega)) b c e).trans (f1 o k a b c e g h), fun o k a b c e g h => (i2 o k a b c (by omega) (by omega)).trans (f2 o k a b c e g h), om2, ⟨(i1 498 1 (by omega) (by decide) (by decide) (by decide)).trans e1, (i1 498 0 (by omega) (by decide) (by decide) (by decide)).trans e0⟩, fun k => (i1 _ k (by omega) (by decide) (by decide) (by decide)).trans (m531 k), fun k => (i1 _ k (by omega) (by decide) (by decide) (by decide)).trans (m535 k), fun k => ?_, fun k => ?_, fun k => ?_⟩)
  · unfold vOut
    rw [mo2, nI_clamp (show mo < 2 ^ 31 by omega), pf.oi]
  · rw [hi 521 (by decide) (by decide)] at n
    obtain ⟨l40, e, tx, _⟩ := hl n
    rw [hi 522 (by decide) (by decide), hi 523 (by decide) (by decide)]
    exact ⟨l40, e, tx⟩
  · unfold vAsk
    rw [hi 521 (by decide) (by decide), hi 523 (by decide) (by decide), m520]
    by_cases n : I0 521 d = 0
    · rw [if_pos n, if_pos n]
    · rw [if_neg n, if_neg n, (hl n).2.2.2]
  · by_cases e : k = d
    · subst e
      rw [h5, vDam_lev hb, m520]; unfold vLev; rw [cp2]
    · rw [i2 520 k (by decide) (by decide) (by omega) (by omega) (by omega), vDam_lev_ne e]; exact m520 k
  · by_cases e : k = 201 * d + t
    · subst e
      rw [hB, vDam_bel hb, m520]; unfold vBel; rw [cp2]
    · rw [i2 525 k (by decide) (by decide) (by omega) (by omega) (by omega), vDam_bel_ne e]; exact m525 k
  · rw [i2 530 k (by decide) (by decide) (by omega) (by omega) (by omega), vDam_o (by decide) (by decide)]; exact m530 k
/-- a siren is judged, in the model -/
theorem mv_judge (ps : PSt s I0 L F0 T rc sc) (hx : x < sc) (ht : t < 200) (c1 : CPf I0 J0) (c2 : CPF F0 H0) (mv : MVs s J0 H0 A B t J H) (ha : VAf I0 A) (vb : VBk B t j) (ex : A 535 x = 0) (q : ∀ J H, MVs s J0 H0 (vSI A B x t) (vSF A B x t) t J H → Q (.inl none) (G X J L H)) : WP mX10_judges 0 (am_ent 5 [.ref 498, .int (nI x)]) [] (G X J L H) 0 0 Q := by
  obtain ⟨⟨w, z, z2⟩, rr, ds, s60, e8, e39, ss⟩ := ps
  obtain ⟨f1, f2, om, ⟨e1, e0⟩, m531, m535, m520, m525, m530⟩ := mv
  have pf : PFr I0 J F0 H := PFr.of c1 c2 f1 f2
  obtain ⟨d, r, hd, hr, x0, d0, x1, r1, x2, x3⟩ := ss x hx
  have h40 := rr.1
  have hi : ∀ o, 511 ≤ o → o ≤ 530 ∨ (532 ≤ o ∧ o ≤ 534) ∨ o = 536 → J o = A o := fun o a b => (pf.hi (by omega) (by omega) (by omega) (by omega)).trans (ha o (by omega) (by omega)).symm
  have w532 : (A 532 x).toNatClampNeg = d := by rw [ha 532 (by decide) (by decide), d0, nI_clamp (by omega)]
  have w533 : (A 533 x).toNatClampNeg = r := by rw [ha 533 (by decide) (by decide), r1, nI_clamp (by omega)]
  have sI : vSI A B x t = mjI A B x d r t := by unfold vSI; rw [if_pos ex, w532, w533]
  have sF : vSF A B x t = mjF A B d r t := by unfold vSF; rw [if_pos ex, w532, w533]
  have rA : f_X9_reasonAgainst (nI r) A = f_X9_reasonAgainst (nI r) I0 := (rs_eq (by rw [ha 0 (by decide) (by decide)]) (by rw [ha 9 (by decide) (by decide)]) (fun k => by rw [ha 14 (by decide) (by decide)]) (fun v hv => by rw [ha (19 + 6 * v) (by omega) (by omega)]) (by rw [ha (383 + r) (by omega) (by omega)]) (by rw [ha (383 + r) (by omega) (by omega)]) (by omega)).1
  have rJ := (pf.rs (show r < 40 by omega)).1
  refine sp_mjudges (t0 := t) (T := T) (rc := rc) (d := d) (r := r) w (pf.ca w.1 z) (pf.ma z2) (pf.rr rr) (by omega) hd hr (by rw [hi 532 (by decide) (by decide), ha 532 (by decide) (by decide)]; exact d0) (by rw [hi 533 (by decide) (by decide), ha 533 (by decide) (by decide)]; exact r1) e1 ht (by rw [m530]; exact (vb d hd).2.2.1) (q _ _ ?_)
  rw [sI, sF]
  have om' : ∀ (J2 : Nat → Nat → Int32) (H2 : Nat → Nat → UInt32), (∀ o, o ≠ 531 → o ≠ 535 → J2 o = J o) → (∀ o, o ≠ 530 → H2 o = H o) → OutM J2 H2 (aC s) := fun J2 H2 a b => OutM.ext (a _ (by decide) (by decide)) (a _ (by decide) (by decide)) (a _ (by decide) (by decide)) (a _ (by decide) (by decide)) (a _ (by decide) (by decide)) (b _ (by decide)) om
  have key : ∀ (st sv : Int32) (y : UInt32), MVs s J0 H0 (am_u (am_u A 535 x st) 531 d sv) (am_u B 530 d y) t (am_u (am_u J 535 x st) 531 d sv) (am_u H 530 d y) := fun st sv y => by
    refine ⟨fun o k a b c e g h => ?_, fun o k a b c e g h => ?_, om' _ _ (fun o a b => by rw [am_u_row a, am_u_row b]) (fun o a => am_u_row a), ?_, fun k => ?_, fun k => ?_, fun k => ?_, fun k => ?_, fun k => ?_⟩
    · rw [am_u_ne (by omega), am_u_ne (by omega)]; exact f1 o k a b c e g h
    · rw [am_u_ne (by omega)]; exact f2 o k a b c e g h
    · exact ⟨by rw [am_u_ne (by omega), am_u_ne (by omega)]; exact e1, by rw [am_u_ne (by omega), am_u_ne (by omega)]; exact e0⟩
    · by_cases h : k = d
      · rw [h, am_u_eq, am_u_eq]
      · rw [am_u_ne (by omega), am_u_ne (by omega), am_u_ne (by omega), am_u_ne (by omega)]; exact m531 k
    · rw [am_u_ne (show 535 ≠ 531 ∨ k ≠ d by omega), am_u_ne (show 535 ≠ 531 ∨ k ≠ d by omega)]
      by_cases h : k = x
      · rw [h, am_u_eq, am_u_eq]
      · rw [am_u_ne (by omega), am_u_ne (by omega)]; exact m535 k
    · rw [am_u_ne (by omega), am_u_ne (by omega)]; exact m520 k
    · rw [am_u_ne (by omega), am_u_ne (by omega)]; exact m525 k
    · by_cases h : k = d
      · rw [h, am_u_eq, am_u_eq]
      · rw [am_u_ne (by omega), am_u_ne (by omega)]; exact m530 k
  have one : ∀ st y, MVs s J0 H0 (am_u A 535 x st) (am_u B 530 d y) t (am_u J 535 x st) (am_u H 530 d y) := fun st y => by
    have h := key st (A 531 d) y
    rw [am_u_same (show am_u J 535 x st 531 d = A 531 d from (am_u_ne (by omega)).trans (m531 d)), am_u_same (show am_u A 535 x st 531 d = A 531 d from am_u_ne (by omega))] at h
    exact h
  unfold mjI mjF
  rw [rA, rJ, m525, m530, m531, hi 528 (by decide) (by decide), hi 513 (by decide) (by decide), hi 534 (by decide) (by decide), hi 529 (by decide) (by decide), hi 536 (by decide) (by decide)]
  by_cases k1 : f_X9_reasonAgainst (nI r) I0 = 0
  · simp only [if_pos k1]
    by_cases k2 : Op.cmpValue (FP.fcmp (B 525 (201 * d + t)) (FP.i2f (A 528 d))) .l < 0
    · simp only [if_pos k2]
      by_cases k3 : nI t < A 513 r
      · simp only [if_pos k3]
        exact ⟨f1, f2, om, ⟨e1, e0⟩, m531, m535, m520, m525, m530⟩
      · simp only [if_neg k3]; exact one _ _
    · simp only [if_neg k2]; exact key _ _ _
  · simp only [if_neg k1]; exact one _ _
/-- the sirens are judged -/
theorem mp_sirs {x1 x2 : Int32} (ps : PSt s I0 L F0 T rc sc) (ht : t < 200) (c1 : CPf I0 J0) (c2 : CPF F0 H0) (ha : VAf I0 A) (vb : VBk B t 3)
    (next : ∀ J H, MVs s J0 H0 (vSs A B t sc).1 (vSs A B t sc).2 t J H → WP mX10_pass 42 [some (.ref 498), some (.int x1), some (.int (x2 + 1)), some (.int (nI sc))] [] (G X (am_u J 498 1 ((J 498 1) + 1)) L H) 0 0 Q) : ∀ (m j : Nat) (J : Nat → Nat → Int32) (H : Nat → Nat → UInt32), j + m = sc → MVs s J0 H0 (vSs A B t j).1 (vSs A B t j).2 t J H →
    WP mX10_pass 76 [some (.ref 498), some (.int x1), some (.int x2), some (.int (nI j))] [] (G X J L H) 0 0 Q
  | 0, j, J, H, hj, mv => by
    have e : j = sc := by omega
    subst e
    have s60 := ps.2.2.2.1
    have pf : PFr I0 J F0 H := PFr.of c1 c2 mv.1 mv.2.1
    refine k_X10_pass_76 ⟨fun _ => next J H mv, fun n => absurd ?_ n⟩
    rw [pf.m (by decide) (by decide), ps.2.2.2.2.2.1]
    exact (nI_leI (by omega) (by omega)).mpr (Nat.le_refl _)
  | m + 1, j, J, H, hj, mv => by
    have s60 := ps.2.2.2.1
    have pf : PFr I0 J F0 H := PFr.of c1 c2 mv.1 mv.2.1
    have e39 : J 498 39 = nI sc := (pf.m (by decide) (by decide)).trans ps.2.2.2.2.2.1
    refine k_X10_pass_76 ⟨fun n => absurd ((nI_leI (a := sc) (b := j) (by omega) (by omega)).mp (by rw [← e39]; exact n)) (by omega), fun _ => ⟨nI_in (by omega) (by decide), ?_⟩⟩
    have hd : ∀ x, x < sc → ∃ d, d < 3 ∧ I0 532 x = nI d := fun x hx => by
      obtain ⟨d, r, a, _, _, b, _⟩ := ps.2.2.2.2.2.2 x hx
      exact ⟨d, a, b⟩
    have va := vSs_f (t := t) (B := B) ha j
    have vb2 := vSs_ok hd ha vb j (by omega)
    have ec : J 535 j = (vSs A B t j).1 535 j := mv.2.2.2.2.2.1 j
    rw [nI_clamp (show j < 2 ^ 31 by omega), ec]
    refine ⟨fun z => mv_judge ps (by omega) ht c1 c2 mv va vb2 z (fun K H2 mv2 => k_X10_pass_98 ?_), fun z => k_X10_pass_98 ?_⟩
    · rw [nI_1]
      exact mp_sirs ps ht c1 c2 ha vb next m (j + 1) K H2 (by omega) mv2
    · rw [nI_1]
      refine mp_sirs ps ht c1 c2 ha vb next m (j + 1) J H (by omega) ?_
      show MVs s J0 H0 (vSI (vSs A B t j).1 (vSs A B t j).2 j t) (vSF (vSs A B t j).1 (vSs A B t j).2 j t) t J H
      unfold vSI vSF
      rw [if_neg z, if_neg z]
      exact mv
/-- the dams have their hour -/
theorem mp_dams {x1 x2 : Int32} (ps : PSt s I0 L F0 T rc sc) (ht : t < 200) (c1 : CPf I0 J0) (c2 : CPF F0 H0) (vb : VBk B t 0)
    (next : ∀ J H, MVs s J0 H0 A (vDs s I0 F0 t B 3) t J H → WP mX10_pass 76 [some (.ref 498), some (.int x1), some (.int x2), some (.int (nI 0))] [] (G X J L H) 0 0 Q) : ∀ (m j : Nat) (J : Nat → Nat → Int32) (H : Nat → Nat → UInt32), j + m = 3 → MVs s J0 H0 A (vDs s I0 F0 t B j) t J H →
    WP mX10_pass 49 [some (.ref 498), some (.int x1), some (.int x2), some (.int (nI j))] [] (G X J L H) 0 0 Q
  | 0, j, J, H, hj, mv => by
    have e : j = 3 := by omega
    subst e
    exact k_X10_pass_49 ⟨fun _ => next J H mv, fun n => absurd (by decide) n⟩
  | m + 1, j, J, H, hj, mv => by
    have pf : PFr I0 J F0 H := PFr.of c1 c2 mv.1 mv.2.1
    have hin : vp_in (nI j) 3 := nI_in (by omega) (by decide)
    refine k_X10_pass_49 ⟨fun n => absurd ((nI_leI (a := 3) (by decide) (by omega)).mp n) (by omega), fun _ => ⟨hin, ?_⟩⟩
    rw [nI_clamp (show j < 2 ^ 31 by omega), pf.hi (o := 517) (by decide) (by decide) (by decide) (by decide)]
    refine ⟨fun z => k_X10_pass_68 ?_, fun z => mv_dam ps (by omega) ht c1 c2 mv (VBk.ds (by omega) ps.2.2.1 vb j (by omega)) z (fun K H2 mv2 => k_X10_pass_68 ?_)⟩
    · rw [nI_1]
      refine mp_dams ps ht c1 c2 vb next m (j + 1) J H (by omega) ?_
      show MVs s J0 H0 A (vDam s I0 F0 j t (vDs s I0 F0 t B j)) t J H
      unfold vDam
      rw [if_pos z]
      exact mv
    · rw [nI_1]
      exact mp_dams ps ht c1 c2 vb next m (j + 1) K H2 (by omega) mv2
theorem mv_next (mv : MVs s J0 H0 A B t J H) : MVs s J0 H0 A B (t + 1) (am_u J 498 1 (J 498 1 + 1)) H := by
  obtain ⟨f1, f2, om, ⟨e1, e0⟩, m531, m535, m3⟩ := mv
  refine ⟨fun o k a b c e g h => by rw [am_u_ne (by omega)]; exact f1 o k a b c e g h, f2, OutM.ext (am_u_row (by decide)) (am_u_row (by decide)) (am_u_row (by decide)) (am_u_row (by decide)) (am_u_row (by decide)) rfl om, ?_, fun k => by rw [am_u_ne (by omega)]; exact m531 k, fun k => by rw [am_u_ne (by omega)]; exact m535 k, m3⟩
  exact ⟨by rw [am_u_eq, e1, nI_1], by rw [am_u_ne (by omega)]; exact e0⟩
/-- the hours of a pass -/
theorem mp_hours (ps : PSt s I0 L F0 T rc sc) (c1 : CPf I0 J0) (c2 : CPF F0 H0) (vb : VBk F0 t0 0) {n : Nat} (ht : t0 + n ≤ 200) (q : ∀ J H, MVs s J0 H0 (vHs s I0 F0 sc t0 n).1 (vHs s I0 F0 sc t0 n).2 (t0 + n) J H → Q (.inl (some (.int (nI (t0 + n))))) (G X J L H)) : ∀ (m j : Nat) (J : Nat → Nat → Int32) (H : Nat → Nat → UInt32) (d3 : Option Value), j + m = n → MVs s J0 H0 (vHs s I0 F0 sc t0 j).1 (vHs s I0 F0 sc t0 j).2 (t0 + j) J H →
    WP mX10_pass 42 [some (.ref 498), some (.int (nI n)), some (.int (nI j)), d3] [] (G X J L H) 0 0 Q
  | 0, j, J, H, d3, hj, mv => by
    have e : j = n := by omega
    subst e
    refine k_X10_pass_42 ⟨fun _ => ?_, fun h => absurd ((nI_leI (by omega) (by omega)).mpr (Nat.le_refl _)) h⟩
    rw [mv.2.2.2.1.1]
    exact q J H mv
  | m + 1, j, J, H, d3, hj, mv => by
    have hd : ∀ x, x < sc → ∃ d, d < 3 ∧ I0 532 x = nI d := fun x hx => by
      obtain ⟨d, r, a, _, _, b, _⟩ := ps.2.2.2.2.2.2 x hx
      exact ⟨d, a, b⟩
    have vb2 := vHs_ok (s := s) hd ps.2.2.1 vb j (by omega)
    refine k_X10_pass_42 ⟨fun h => absurd ((nI_leI (by omega) (by omega)).mp h) (by omega), fun _ => ?_⟩
    refine mp_dams (t := t0 + j) ps (by omega) c1 c2 vb2 (fun J1 H1 mv2 => ?_) 3 0 J H rfl mv
    refine mp_sirs (t := t0 + j) ps (by omega) c1 c2 (vHs_f j) (VBk.ds (by omega) ps.2.2.1 vb2 3 (Nat.le_refl 3)) (fun J2 H2 mv3 => ?_) sc 0 J1 H1 (Nat.zero_add _) mv2
    rw [nI_1]
    exact mp_hours ps c1 c2 vb ht q m (j + 1) _ _ _ (by omega) (mv_next mv3)
end MQ
