/-! own: runs made, rains told, hours passed: both sides, with the invariant -/
set_option maxRecDepth 100000
section OE
variable {X : Nat × (Nat → Int32)} {I I0 J : Nat → Nat → Int32} {L M : Nat → Nat → Int64} {F H : Nat → Nat → UInt32} {Q : AQ} {N T rc sc t n n2 d c r b v : Nat} {s : AS} {p0 p1 p2 p3 : Int32}
theorem Run1.frp (e1 : ∀ k, J (383 + r) k = I (383 + r) k) (e2 : J 502 = I 502 ∧ J 503 = I 503 ∧ J 504 = I 504 ∧ J 508 = I 508) (e4 : ∀ o, 511 ≤ o → o ≤ 516 → J o r = I o r) (e3 : H (383 + r) 3 = F (383 + r) 3) (e5 : H 514 r = F 514 r) (z : Run1 I F c T r) : Run1 J H c T r := by
  obtain ⟨a, b, c, d⟩ := e2
  have g : ∀ v, GU J v = GU I v := fun v => by
    funext x
    unfold GU
    rw [a, b, c]
  unfold Run1 at z ⊢
  unfold RP at z ⊢
  simp only [g, e1, e3, e5, e4 511 (by omega) (by omega), e4 512 (by omega) (by omega), e4 513 (by omega) (by omega), e4 515 (by omega) (by omega), e4 516 (by omega) (by omega), d]
  exact z
theorem hrs_no {n m : Nat} (h1 : 1 ≤ n) (h2 : n ≤ m) (hm : m < 2147483648) (e : p0 = nI n) (h : p0 < 1 ∨ ¬ p0 ≤ nI m) : False := by
  subst e
  rcases h with h | h
  · have := (nI_ltI (a := n) (b := 1) (by omega) (by decide)).mp h; omega
  · exact h ((nI_leI (by omega) hm).mpr h2)
/-- one run more -/
theorem InvS.runn {K : Nat → Nat → Int32} {H2 : Nat → Nat → UInt32} (z : InvS s T rc sc t n N I L F) (hN : N < 1000000) (lt : rc < 40) (hv : v < aC s) (le : t + n2 ≤ 200) (f1 : LIF (383 + rc) I J) (f2 : LFF (383 + rc) F H) (oc : OutC J L H (aC s)) (ri : RunIs J H (383 + rc) v t (t + n2) (pk (OI I v) t n2))
    (m1 : MRunF rc (am_u J 0 7 (nI (rc + 1))) K) (m2 : MRunFF rc H H2) (om : OutM K H2 (aC s)) (k17 : K 498 17 = nI (rc + 1)) (k511 : K 511 rc = nI v) (k512 : K 512 rc = nI t) (k513 : K 513 rc = nI (t + n2)) (k515 : K 515 rc = nI (pk (OI I v) t n2).2) (h514 : H2 514 rc = (pk (OI I v) t n2).1) (k516 : K 516 rc = I 498 14) : InvS s T (rc + 1) sc t n N K L H2 := by
  obtain ⟨vi, dr, nw, rr, ⟨tl, hT⟩, da, si⟩ := z
  have c9 := vi.1.2.2.1.1
  have hc := vi.1.1.1
  have kf : ∀ o k, ¬ (o = 0 ∧ k = 7) → o ≠ 383 + rc → ¬ (o = 10 ∧ k = 2) → ¬ (∃ v, v < 60 ∧ o = 19 + 6 * v ∧ k = 6 ∧ nI v < I 9 4) → ¬ (o = 498 ∧ (k = 0 ∨ k = 17 ∨ k = 46 ∨ k = 48 ∨ k = 50)) → ¬ (511 ≤ o ∧ o ≤ 516 ∧ k = rc) → o ≠ 537 → o ≠ 539 → o ≠ 510 → K o k = I o k := fun o k a1 a2 a3 a4 a5 a6 a7 a8 a9 => by
    rw [m1 o k a5 a6 a7 a8 a9, am_u_ne (by omega)]; exact f1 o k a2 a3 a4
  have ng : ∀ o k, (¬ (19 ≤ o ∧ o < 379) ∨ k ≠ 6) → ¬ (∃ v, v < 60 ∧ o = 19 + 6 * v ∧ k = 6 ∧ nI v < I 9 4) := fun o k h ⟨v, a, b, c, _⟩ => by omega
  have kq : ∀ o k, (o ≤ 2 ∧ ¬ (o = 0 ∧ k = 7)) ∨ (381 ≤ o ∧ o < 498 ∧ o ≠ 383 + rc) ∨ (o = 498 ∧ 0 < k ∧ k < 46 ∧ k ≠ 17) ∨ o = 499 ∨ (501 ≤ o ∧ o ≤ 508) ∨ (517 ≤ o ∧ o ≤ 536) ∨ (511 ≤ o ∧ o ≤ 516 ∧ k ≠ rc) → K o k = I o k := fun o k h => kf o k (by omega) (by omega) (by omega) (ng o k (by omega)) (by omega) (by omega) (by omega) (by omega) (by omega)
  have hf : ∀ o k, ((381 ≤ o ∧ o < 438 ∧ o ≠ 383 + rc) ∨ o = 520 ∨ o = 525 ∨ o = 530 ∨ (o = 514 ∧ k ≠ rc)) → H2 o k = F o k := fun o k h => by
    rw [m2 o k (by omega) (by omega) (by omega)]
    exact f2 o k (by omega) (by omega) (by omega) (fun ⟨v, a, b⟩ => by omega)
  have kr : ∀ k, K (383 + rc) k = J (383 + rc) k := fun k => by
    rw [m1 _ k (by omega) (by omega) (by omega) (by omega) (by omega), am_u_ne (by omega)]
  have e0 : OI K = OI I := OI_cong (funext fun k => kq _ k (by omega)) (funext fun k => kq _ k (by omega)) (funext fun k => kq _ k (by omega)) (funext fun k => kq _ k (by omega))
  have vi1 : VI J L H s := vi.stepC (fun o k a b c d => f1 o k (by omega) (by omega) (fun ⟨v, _, _, e, _⟩ => d e)) (fun o k a b c => f1 o k (by omega) (by omega) (fun ⟨v, x, y, _⟩ => c ⟨v, x, y⟩)) (fun v a b => f1 _ 6 (by omega) (by omega) (fun ⟨u, x, y, _, w⟩ => by
    rw [c9] at w
    have := (nI_ltI (by omega) (by omega)).mp w
    omega)) (f1 _ _ (by omega) (by omega) (fun ⟨v, _, y, _⟩ => by omega)) (fun o a b _ _ _ => funext fun k => f1 o k (by omega) (by omega) (fun ⟨v, _, y, _⟩ => by omega)) oc (funext fun k => f2 _ k (by omega) (by decide) (by decide) (fun ⟨v, x, y⟩ => by omega))
  have vi2 : VI K L H2 s := vi1.stepM (fun o k a b c => by rw [m1 o k (by omega) (by omega) (by omega) (by omega) (by omega), am_u_ne (by omega)]) (by rw [m1 _ _ (by omega) (by omega) (by omega) (by omega) (by omega), am_u_ne (by omega)]) (fun o a b c => funext fun k => by rw [m1 o k (by omega) (by omega) (by omega) (by omega) (by omega), am_u_ne (by omega)]) (fun o k a b c => m2 o k (by omega) (by omega) (by omega)) om.2.2
  refine ⟨vi2, dr.fr (fun k => kq _ k (by omega)) (fun k => kq _ k (by omega)) (kq _ _ (by omega)) (fun k => kq _ k (by omega)), nw.fr (kq _ _ (by omega)) (kq _ _ (by omega)), ⟨by omega, ?_, k17, fun r hr => ?_⟩, ⟨tl.fr (kq _ _ (by omega)) (funext fun k => kq _ k (by omega)), hT⟩, da.fr (fun o k a b => kq o k (by omega)) (fun o k a b => kq o k (by omega)) (fun o k a b => hf o k (by omega)) (fun o k h => hf o k (by omega)) (by omega), si.fr (kq _ _ (by omega)) (kq _ _ (by omega)) (fun o k a b => kq o k (by omega)) (fun o k a b => kq o k (by omega)) (by omega)⟩
  · rw [m1 _ _ (by omega) (by omega) (by omega) (by omega) (by omega), am_u_eq]
  · by_cases e : r = rc
    · subst e
      obtain ⟨r0, r1, r2, r5, r3, r4⟩ := ri
      have pv := pk_val (g := OI I v) (a := t) n2
      have h3 : H2 (383 + r) 3 = H (383 + r) 3 := m2 _ 3 (by omega) (by omega) (by omega)
      refine ⟨v, t, t + n2, hv, by omega, by omega, (kr 0).trans r0, k511, (kr 1).trans r1, k512, (kr 2).trans r2, k513, ?_, ?_, ?_, ⟨T, Nat.le_refl T, k516.trans tl.1⟩, ?_⟩
      · rw [h3, r3, h514]
      · rw [h514, pv.1]; exact OO_kv
      · rw [kr 4, r4, k515]
      · rw [kr 5, r5]
        refine ⟨fun h => absurd rfl h, fun ⟨k, hk, _, _, h⟩ => ?_⟩
        obtain ⟨MM, hM, eM⟩ := tl.2 k hk
        rw [k516, tl.1, kq 508 k (by omega), eM] at h
        have := (nI_ltI (by omega) (by omega)).mp h
        omega
    · exact (rr.2.2.2 r (by omega)).frp (fun k => kq _ k (by omega)) ⟨funext fun k => kq _ k (by omega), funext fun k => kq _ k (by omega), funext fun k => kq _ k (by omega), funext fun k => kq _ k (by omega)⟩ (fun o a b => kq o r (by omega)) (hf _ _ (by omega)) (hf _ _ (by omega))
theorem op_run (hN : N < 1000000) (iv : Inv N I L F) : OpV X (N + 1) plC (fun Q => WP mX9_run 0 (am_ent 4 [.ref 0, .int p0, .int p1]) [] (G X I L F) 0 0 Q) mX10_run (am_ent 5 [.ref 498, .int p0, .int p1]) := by
  intro Q qv qe
  obtain ⟨s, T, rc, sc, t, n, iv⟩ := iv
  have rr := iv.2.2.2.1
  have h40 := rr.1
  have w := iv.1.1.1
  obtain ⟨ht, e9, e1⟩ := iv.2.2.1
  by_cases i : InN p0 6
  · obtain ⟨m, hm, e⟩ := i
    subst e
    refine sp_crun w iv.1.1.2.2.1 iv.1.outc rr.2.1 h40 e9 ht hm (fun h => qe 1 _ _ _ (by decide) (fun Q2 q => ?_)) (fun n2 h1 h2 e c => qe 2 _ _ _ (by decide) (fun Q2 q => ?_)) (fun n2 v h1 h2 e hv ev le lt J H f1 f2 oc eo ri => qv _ _ _ _ (fun z Q2 q => ?_))
    · exact sp_mrun w iv.1.1.2.2.2 iv.1.outm rr.2.2.1 h40 e1 ht hm (fun _ => q _ _ _ iv.thr.inv am_u_eq) (fun n2 h1 h2 e _ => (hrs_no (m := 48) h1 h2 (by decide) e h).elim) (fun n2 v h1 h2 e _ _ _ _ => (hrs_no (m := 48) h1 h2 (by decide) e h).elim)
    · refine sp_mrun w iv.1.1.2.2.2 iv.1.outm rr.2.2.1 h40 e1 ht hm (fun h => (hrs_no (m := 48) h1 h2 (by decide) e h).elim) (fun _ _ _ _ _ => q _ _ _ iv.thr.inv am_u_eq) (fun n3 v h3 h4 e3 hv ev le lt => ?_)
      have en : n2 = n3 := (nI_eq (by omega) (by omega)).mp (e.symm.trans e3)
      rcases c with c | c | c
      · rw [c] at ev; exact absurd ev.symm (nI_m1 (by have := w.1; omega))
      · omega
      · omega
    · have ma : MA (am_u J 0 7 (nI (rc + 1))) s := iv.1.1.2.2.2.fr (by rw [am_u_ne (by omega)]; exact f1 _ _ (by omega) (by omega) (fun ⟨v, _, y, _⟩ => by omega)) (fun o a b => funext fun k => by rw [am_u_ne (by omega)]; exact f1 _ _ (by omega) (by omega) (fun ⟨v, _, y, _⟩ => by omega))
      have jr : ∀ o k, 498 ≤ o → am_u J 0 7 (nI (rc + 1)) o k = I o k := fun o k a => by rw [am_u_ne (by omega)]; exact f1 _ _ (by omega) (by omega) (fun ⟨v, _, y, _⟩ => by omega)
      have om : OutM (am_u J 0 7 (nI (rc + 1))) H (aC s) := OutM.ext (funext fun k => jr _ k (by omega)) (funext fun k => jr _ k (by omega)) (funext fun k => jr _ k (by omega)) (funext fun k => jr _ k (by omega)) (funext fun k => jr _ k (by omega)) (funext fun k => f2 _ k (by omega) (by decide) (by decide) (fun ⟨v, x, y⟩ => by omega)) iv.1.outm
      refine sp_mrun w ma om ((jr _ _ (by omega)).trans rr.2.2.1) h40 ((jr _ _ (by omega)).trans e1) ht hm (fun h => (hrs_no (m := 48) h1 h2 (by decide) e h).elim) (fun n3 h3 h4 e3 c => ?_) (fun n3 v3 h3 h4 e3 hv3 ev3 le3 lt3 K H2 m1 m2 om2 k0 k17 k511 k512 k513 k515 h514 k516 => ?_)
      · have en : n2 = n3 := (nI_eq (by omega) (by omega)).mp (e.symm.trans e3)
        exfalso
        rcases c with c | c | c
        · rw [c] at ev; exact absurd ev.symm (nI_m1 (by have := w.1; omega))
        · omega
        · omega
      · have en : n2 = n3 := (nI_eq (by omega) (by omega)).mp (e.symm.trans e3)
        have vn : v = v3 := (nI_eq (by have := w.1; omega) (by have := w.1; omega)).mp (ev.symm.trans ev3)
        subst en vn
        have eo2 : OI (am_u J 0 7 (nI (rc + 1))) = OI I := OI_cong (funext fun k => jr _ k (by omega)) (funext fun k => jr _ k (by omega)) (funext fun k => jr _ k (by omega)) (funext fun k => jr _ k (by omega))
        rw [eo2] at k515 h514
        rw [jr 498 14 (by omega)] at k516
        exact q K H2 (((InvS.runn iv hN lt hv le f1 f2 oc ri m1 m2 om2 k17 k511 k512 k513 k515 h514 k516).l540).inv) k0
  · have md : AnsE X (N + 1) mX10_run (am_ent 5 [.ref 498, .int p0, .int p1]) 1 I L F := fun Q2 q => k_X10_run_0 (fun y ey => by
      rw [m10_0 i, if_pos rfl] at ey
      subst ey
      exact ⟨fun _ => q _ _ _ iv.thr.inv am_u_eq, fun a => absurd (hol_0 (by decide)) a⟩)
    exact k_X9_run_0 ⟨fun _ => qe 0 _ _ _ (by decide) md, fun a => absurd (m9_0 i) a⟩
/-- hours pass, in the model -/
theorem sp_mpass {hours : Int32} {J0 : Nat → Nat → Int32} {H0 F0 : Nat → Nat → UInt32} {t0 : Nat} (ps : PSt s I0 L F0 T rc sc) (c1 : CPf I0 J0) (c2 : CPF F0 H0) (vb : VBk F0 t0 0) (mv : MVs s J0 H0 I0 F0 t0 (am_u J0 498 0 0) H0) (ht : t0 ≤ 200) (e1 : J0 498 1 = nI t0)
    (q1 : (hours < 1 ∨ ¬ hours ≤ nI 24) → Q (.inl (some (.int 0))) (G X (am_u J0 498 0 1) L H0)) (q2 : ∀ n, 1 ≤ n → n ≤ 24 → hours = nI n → 200 < t0 + n → Q (.inl (some (.int 0))) (G X (am_u J0 498 0 2) L H0))
    (q3 : ∀ n, 1 ≤ n → n ≤ 24 → hours = nI n → t0 + n ≤ 200 → ∀ J H, MVs s J0 H0 (vHs s I0 F0 sc t0 n).1 (vHs s I0 F0 sc t0 n).2 (t0 + n) J H → Q (.inl (some (.int (nI (t0 + n))))) (G X J L H)) :
    WP mX10_pass 0 (am_ent 4 [.ref 498, .int hours]) [] (G X J0 L H0) 0 0 Q := by
  refine k_X10_pass_0 (fun y ey => ?_)
  rcases rng (x := hours) (m := 24) (by decide) with h | ⟨n, h1, h2, e⟩
  · rw [show f_X10_isIn hours 1 24 = 0 from isIn1_0 h, if_pos rfl] at ey
    subst ey
    exact ⟨fun _ => q1 h, fun a => absurd (hol_0 (by decide)) a⟩
  · subst e
    rw [show f_X10_isIn (nI n) 1 24 = 1 from isIn1_1 h1 h2 (by decide), if_neg n10, e1, nI_add] at ey
    by_cases le : t0 + n ≤ 200
    · rw [if_pos (show nI (t0 + n) ≤ (200 : Int32) from (nI_leI (a := t0 + n) (b := 200) (by omega) (by decide)).mpr le)] at ey
      subst ey
      refine ⟨fun a => absurd a (by rw [hol_1]; exact n10), fun _ => ?_⟩
      exact mp_hours ps c1 c2 vb le (q3 n h1 h2 rfl le) n 0 _ H0 _ (Nat.zero_add _) mv
    · rw [if_neg (show ¬ nI (t0 + n) ≤ (200 : Int32) from fun z => le ((nI_leI (a := t0 + n) (b := 200) (by omega) (by decide)).mp z))] at ey
      subst ey
      exact ⟨fun _ => q2 n h1 h2 rfl (by omega), fun a => absurd (hol_0 (by decide)) a⟩
/-- what stands when hours have passed on both sides -/
theorem InvS.passed {J0 A : Nat → Nat → Int32} {H0 B : Nat → Nat → UInt32} {t2 : Nat} (z : InvS s T rc sc t n N I L F) (cv : CV s I L F A B t2 sc J0 H0) (mv : MVs s J0 H0 A B t2 J H) (vb : VBk B t2 0) (ht : t2 ≤ 200) : InvS s T rc sc t2 n N J L H := by
  obtain ⟨vi, dr, nw, rr, ⟨tl, hT⟩, da, si⟩ := z
  obtain ⟨f1, f2, oc, e9, cd, cx⟩ := cv
  obtain ⟨g1, g2, om, ⟨e1, e0⟩, m531, m535, m520, m525, m530⟩ := mv
  have pf : PFr I J F H := PFr.of f1 f2 g1 g2
  have c9 := vi.1.2.2.1.1
  have hc := vi.1.1.1
  have vi1 : VI J0 L H0 s := vi.stepC (fun o k a b c d => f1.lo (by omega) c a d) (fun o k a b c => f1.row (by omega) b (by omega) c) (fun v a b => f1 _ 6 (by omega) (by omega) (fun ⟨u, x, y, _, w⟩ => by
    rw [c9] at w
    have := (nI_ltI (by omega) (by omega)).mp w
    omega) (fun ⟨v, a, b, e⟩ => by omega) (by omega)) (congrFun (f1.hi (by decide)) 5) (fun o a b _ _ _ => f1.hi (by omega)) oc (funext fun k => f2 _ k (by decide) (by decide) (fun ⟨v, x, y⟩ => by omega) (by decide))
  have vi2 : VI J L H s := vi1.stepM (fun o k a b c => g1 o k (by omega) (by omega) (by omega) (by omega) (by omega) (by omega)) (g1 _ _ (by omega) (by omega) (by omega) (by omega) (by omega) (by omega)) (fun o a b c => funext fun k => g1 o k (by omega) (by omega) (by omega) (by omega) (by omega) (by omega)) (fun o k a b c => g2 o k (by omega) (by omega) (by omega) (by omega) (by omega) (by omega)) om.2.2
  have jd : ∀ o k, 423 ≤ o → o < 438 → k ≠ 13 → J o k = I o k := fun o k a b c => by
    rw [g1 o k (by omega) (by omega) (by omega) (by omega) (by omega) (by omega)]; exact f1.dam a b c
  have j0 : ∀ o k, o < 498 → J o k = J0 o k := fun o k a => g1 o k (by omega) (by omega) (by omega) (by omega) (by omega) (by omega)
  have h0 : ∀ o k, o < 498 → H o k = H0 o k := fun o k a => g2 o k (by omega) (by omega) (by omega) (by omega) (by omega) (by omega)
  refine ⟨vi2, dr.fr (fun k => pf.row (by decide) (by decide) (by decide) (fun ⟨v, a, b⟩ => by omega)) (fun k => pf.row (by decide) (by decide) (by decide) (fun ⟨v, a, b⟩ => by omega)) (pf.m (by decide) (by decide)) (fun k => congrFun (pf.hi (by decide) (by decide) (by decide) (by decide)) k), ⟨ht, (j0 0 9 (by decide)).trans e9, e1⟩, pf.rr rr, ⟨tl.fr (pf.m (by decide) (by decide)) (pf.hi (by decide) (by decide) (by decide) (by decide)), hT⟩, fun d hd => ?_, si.1, (pf.c0 (by decide)).trans si.2.1, (pf.m (by decide) (by decide)).trans si.2.2.1, fun x hx => ?_⟩
  · obtain ⟨a, _, _⟩ := da d hd
    obtain ⟨b1, b2, b3, b4⟩ := cd d hd
    obtain ⟨v1, v2, v3, v4⟩ := vb d hd
    rw [if_neg (Nat.not_lt_zero d)] at v1
    refine ⟨a.frd (fun k hk => jd _ k (by omega) (by omega) hk) (fun o k x y => ?_) (fun o x y w => congrFun (pf.hi (by omega) (by omega) (by omega) (by omega)) d) (fun k _ _ => congrFun (pf.hi (by decide) (by decide) (by decide) (by decide)) k), ⟨?_, ?_, ?_, fun k hk => ?_⟩, ?_, ?_, ?_, fun k hk => ?_⟩
    · rw [j0 o k (by omega)]
      exact f1 o k (by omega) (by omega) (fun ⟨v, a, b, _⟩ => by omega) (fun ⟨v, a, b, _⟩ => by omega) (by omega)
    · rw [h0 _ _ (by omega), m520]; exact b1
    · rw [h0 _ _ (by omega), m530]; exact b2
    · rw [j0 _ _ (by omega), m531]; exact b3
    · rw [h0 _ _ (by omega), m525]; exact b4 k hk
    · rw [m520]; exact v1
    · rw [m520]; exact v2
    · rw [m530]; exact v3
    · rw [m525]; exact v4 k hk
  · have s60 := si.1
    obtain ⟨a, b⟩ := si.2.2.2 x hx
    refine ⟨a.fr (fun k hk => by rw [j0 _ k (by omega)]; exact f1.sir (by omega) (by omega) hk) (fun o x1 x2 x3 => congrFun (pf.hi (by omega) (by omega) (by omega) (by omega)) x) (Nat.le_refl _), ?_⟩
    rw [j0 _ _ (by omega), m535]; exact cx x hx
theorem op_pass (iv : Inv N I L F) : OpV X (N + 1) plB (fun Q => WP mX9_pass 0 (am_ent 4 [.ref 0, .int p0]) [] (G X I L F) 0 0 Q) mX10_pass (am_ent 4 [.ref 498, .int p0]) := by
  intro Q qv qe
  obtain ⟨s, T, rc, sc, t, n, iv⟩ := iv
  obtain ⟨ht, e9, e1⟩ := iv.2.2.1
  have da := iv.2.2.2.2.2.1
  have si := iv.2.2.2.2.2.2
  have ps : PSt s I L F T rc sc := ⟨⟨iv.1.1.1, iv.1.1.2.2.1, iv.1.1.2.2.2⟩, iv.2.2.2.1, fun d hd => (da d hd).1, si.1, si.2.1, si.2.2.1, fun x hx => (si.2.2.2 x hx).1⟩
  have vb : VBk F t 0 := fun d hd => by
    rw [if_neg (Nat.not_lt_zero d)]
    exact (da d hd).2.2
  have cr : CPf I I := fun _ _ _ _ _ _ _ => rfl
  have cR : CPF F F := fun _ _ _ _ _ _ => rfl
  have cv : CV s I L F I F t sc I F := ⟨cr, cR, iv.1.outc, e9, fun d hd => (da d hd).2.1, fun x hx => (si.2.2.2 x hx).2⟩
  have mv : ∀ (J0 : Nat → Nat → Int32) (H0 : Nat → Nat → UInt32), CPf I J0 → CPF F H0 → MVs s J0 H0 I F t (am_u J0 498 0 0) H0 := fun J0 H0 c1 c2 => by
    have hr : ∀ o, 499 ≤ o → am_u J0 498 0 0 o = I o := fun o h => (am_u_row (by omega)).trans (c1.hi (by omega))
    have fr : ∀ o k, 438 ≤ o → H0 o k = F o k := fun o k h => c2 o k (by omega) (by omega) (fun ⟨v, a, b⟩ => by omega) (by omega)
    refine ⟨fun o k a _ _ _ _ _ => am_u_ne (by omega), fun _ _ _ _ _ _ _ _ => rfl, OutM.ext (hr _ (by decide)) (hr _ (by decide)) (hr _ (by decide)) (hr _ (by decide)) (hr _ (by decide)) (funext fun k => fr _ k (by decide)) iv.1.outm, ⟨?_, am_u_eq⟩, fun k => congrFun (hr _ (by decide)) k, fun k => congrFun (hr _ (by decide)) k, fun k => fr _ k (by decide), fun k => fr _ k (by decide), fun k => fr _ k (by decide)⟩
    rw [am_u_ne (by omega), c1.hi (by decide)]; exact e1
  have hd : ∀ x, x < sc → ∃ d, d < 3 ∧ I 532 x = nI d := fun x hx => by
    obtain ⟨d, r, a, _, _, b, _⟩ := ps.2.2.2.2.2.2 x hx
    exact ⟨d, a, b⟩
  refine sp_cpass ps vb cv ht (fun h => qe 1 _ _ _ (by decide) (fun Q2 q => ?_)) (fun n2 h1 h2 e c => qe 2 _ _ _ (by decide) (fun Q2 q => ?_)) (fun n2 h1 h2 e le J0 H0 cv2 => qv _ _ _ _ (fun z Q2 q => ?_))
  · exact sp_mpass ps cr cR vb (mv I F cr cR) ht e1 (fun _ => q _ _ _ iv.thr.inv am_u_eq) (fun n2 h1 h2 e _ => (hrs_no (m := 24) h1 h2 (by decide) e h).elim) (fun n2 h1 h2 e _ => (hrs_no (m := 24) h1 h2 (by decide) e h).elim)
  · refine sp_mpass ps cr cR vb (mv I F cr cR) ht e1 (fun h => (hrs_no (m := 24) h1 h2 (by decide) e h).elim) (fun _ _ _ _ _ => q _ _ _ iv.thr.inv am_u_eq) (fun n3 h3 h4 e3 le => ?_)
    have en : n2 = n3 := (nI_eq (by omega) (by omega)).mp (e.symm.trans e3)
    omega
  · have iv5 := iv.l540 (y := z)
    have ps5 : PSt s I (am_u L 540 0 z) F T rc sc := ⟨⟨iv5.1.1.1, iv5.1.1.2.2.1, iv5.1.1.2.2.2⟩, ps.2⟩
    refine sp_mpass ps5 cv2.1 cv2.2.1 vb (mv J0 H0 cv2.1 cv2.2.1) ht (by rw [cv2.1.hi (by decide)]; exact e1) (fun h => (hrs_no (m := 24) h1 h2 (by decide) e h).elim) (fun n3 h3 h4 e3 c => ?_) (fun n3 h3 h4 e3 le3 J H mv2 => ?_)
    · have en : n2 = n3 := (nI_eq (by omega) (by omega)).mp (e.symm.trans e3)
      omega
    · have en : n2 = n3 := (nI_eq (by omega) (by omega)).mp (e.symm.trans e3)
      subst en
      exact q J H ((InvS.passed iv cv2 mv2 (vHs_ok hd ps.2.2.1 vb n2 (by omega)) le).l540).inv mv2.2.2.2.1.2
end OE
