/-! own: runs made, rains told, hours passed: both sides, with the invariant -/
set_option maxRecDepth 100000
section OE
variable {X : Nat × (Nat × (Nat → Int32))} {I I0 J : Nat → Nat → Int32} {L M : Nat → Nat → Int64} {F H : Nat → Nat → UInt32} {Q : AQ} {N T rc sc t n n2 d c r b v : Nat} {s : AS} {p0 p1 p2 p3 : Int32}
theorem Run1.frp (e1 : ∀ k, J (383 + r) k = I (383 + r) k) (e2 : J 1000502 = I 1000502 ∧ J 1000503 = I 1000503 ∧ J 1000504 = I 1000504 ∧ J 1000508 = I 1000508) (e4 : ∀ o, 1000511 ≤ o → o ≤ 1000516 → J o r = I o r) (e3 : H (383 + r) 3 = F (383 + r) 3) (e5 : H 1000514 r = F 1000514 r) (z : Run1 I F c T r) : Run1 J H c T r := by
  obtain ⟨a, b, c, d⟩ := e2
  have g : ∀ v, GU J v = GU I v := fun v => by
    funext x
    unfold GU
    rw [a, b, c]
  unfold Run1 at z ⊢
  unfold RP at z ⊢
  simp only [g, e1, e3, e5, e4 1000511 (by omega) (by omega), e4 1000512 (by omega) (by omega), e4 1000513 (by omega) (by omega), e4 1000515 (by omega) (by omega), e4 1000516 (by omega) (by omega), d]
  exact z
theorem hrs_no {n m : Nat} (h1 : 1 ≤ n) (h2 : n ≤ m) (hm : m < 2147483648) (e : p0 = nI n) (h : p0 < 1 ∨ ¬ p0 ≤ nI m) : False := by
  subst e
  rcases h with h | h
  · have := (nI_ltI (a := n) (b := 1) (by omega) (by decide)).mp h; omega
  · exact h ((nI_leI (by omega) hm).mpr h2)
/-- one run more -/
theorem InvS.runn {K : Nat → Nat → Int32} {H2 : Nat → Nat → UInt32} (z : InvS s T rc sc t n N I L F) (hN : N < 1000000) (lt : rc < 40) (hv : v < aC s) (le : t + n2 ≤ 200) (f1 : LIF (383 + rc) I J) (f2 : LFF (383 + rc) F H) (oc : OutC J L H (aC s)) (ri : RunIs J H (383 + rc) v t (t + n2) (pk (OI I v) t n2))
    (m1 : MRunF rc (am_u J 0 7 (nI (rc + 1))) K) (m2 : MRunFF rc H H2) (om : OutM K H2 (aC s)) (k17 : K 1000498 17 = nI (rc + 1)) (k511 : K 1000511 rc = nI v) (k512 : K 1000512 rc = nI t) (k513 : K 1000513 rc = nI (t + n2)) (k515 : K 1000515 rc = nI (pk (OI I v) t n2).2) (h514 : H2 1000514 rc = (pk (OI I v) t n2).1) (k516 : K 1000516 rc = I 1000498 14) : InvS s T (rc + 1) sc t n N K L H2 := by
  obtain ⟨vi, dr, nw, rr, ⟨tl, hT⟩, da, si⟩ := z
  have c9 := vi.1.2.2.1.1
  have hc := vi.1.1.1
  have kf : ∀ o k, ¬ (o = 0 ∧ k = 7) → o ≠ 383 + rc → ¬ (o = 10 ∧ k = 2) → ¬ (∃ v, v < 60 ∧ o = 19 + 6 * v ∧ k = 6 ∧ nI v < I 9 4) → ¬ (o = 1000498 ∧ (k = 0 ∨ k = 17 ∨ k = 46 ∨ k = 48 ∨ k = 50)) → ¬ (1000511 ≤ o ∧ o ≤ 1000516 ∧ k = rc) → o ≠ 1000537 → o ≠ 1000539 → o ≠ 1000510 → K o k = I o k := fun o k a1 a2 a3 a4 a5 a6 a7 a8 a9 => by
    rw [m1 o k a5 a6 a7 a8 a9, am_u_ne (by omega)]; exact f1 o k a2 a3 a4
  have ng : ∀ o k, (¬ (19 ≤ o ∧ o < 379) ∨ k ≠ 6) → ¬ (∃ v, v < 60 ∧ o = 19 + 6 * v ∧ k = 6 ∧ nI v < I 9 4) := fun o k h ⟨v, a, b, c, _⟩ => by omega
  have kq : ∀ o k, (o ≤ 2 ∧ ¬ (o = 0 ∧ k = 7)) ∨ (381 ≤ o ∧ o < 498 ∧ o ≠ 383 + rc) ∨ (o = 1000498 ∧ 0 < k ∧ k < 46 ∧ k ≠ 17) ∨ o = 1000499 ∨ (1000501 ≤ o ∧ o ≤ 1000508) ∨ (1000517 ≤ o ∧ o ≤ 1000536) ∨ (1000511 ≤ o ∧ o ≤ 1000516 ∧ k ≠ rc) → K o k = I o k := fun o k h => kf o k (by omega) (by omega) (by omega) (ng o k (by omega)) (by omega) (by omega) (by omega) (by omega) (by omega)
  have hf : ∀ o k, ((381 ≤ o ∧ o < 438 ∧ o ≠ 383 + rc) ∨ o = 1000520 ∨ o = 1000525 ∨ o = 1000530 ∨ (o = 1000514 ∧ k ≠ rc)) → H2 o k = F o k := fun o k h => by
    rw [m2 o k (by omega) (by omega) (by omega)]
    exact f2 o k (by omega) (by omega) (by omega) (fun ⟨v, a, b⟩ => by omega)
  have kr : ∀ k, K (383 + rc) k = J (383 + rc) k := fun k => by
    rw [m1 _ k (by omega) (by omega) (by omega) (by omega) (by omega), am_u_ne (by omega)]
  have e0 : OI K = OI I := OI_cong (funext fun k => kq _ k (by omega)) (funext fun k => kq _ k (by omega)) (funext fun k => kq _ k (by omega)) (funext fun k => kq _ k (by omega))
  have vi1 : VI J L H s := vi.stepC (fun o k a b c d => f1 o k (by omega) (by omega) (fun ⟨v, _, _, e, _⟩ => d e)) (fun o k a b c => f1 o k (by omega) (by omega) (fun ⟨v, x, y, _⟩ => c ⟨v, x, y⟩)) (fun v a b => f1 _ 6 (by omega) (by omega) (fun ⟨u, x, y, _, w⟩ => by
    rw [c9] at w
    have := (nI_ltI (by omega) (by omega)).mp w
    omega)) (f1 _ _ (by omega) (by omega) (fun ⟨v, _, y, _⟩ => by omega)) (fun o a b _ _ _ => funext fun k => f1 o k (by omega) (by omega) (fun ⟨v, _, y, _⟩ => by omega)) oc (funext fun k => f2 _ k (by omega) (by decide) (by decide) (fun ⟨v, x, y⟩ => by omega))
  have vi2 : VI K L H2 s := vi1.stepM (fun o k a b c => by rw [m1 o k (by omega) (by omega) (by omega) (by omega) (by omega), am_u_ne (by omega)]) (by rw [m1 _ _ (by omega) (by omega) (by omega) (by omega) (by omega), am_u_ne (by omega)]) (fun o a b c => funext fun k => by rw [m1 o k (by omega) (by omega) (by omega) (by omega) (by omega), am_u_ne (by omega)]) (fun o k a b c => m2 o k (by omega) (by omega) (by omega)) om.2.2
  refine ⟨vi2, dr.fr (fun k => kq _ k (by omega)) (fun k => kq _ k (by omega)) (kq _ _ (by omega)) (fun k => kq _ k (by omega)), nw.fr (kq _ _ (by omega)) (kq _ _ (by omega)), ⟨by omega, ?_, k17, fun r hr => ?_⟩, ⟨tl.fr (kq _ _ (by omega)) (funext fun k => kq _ k (by omega)), hT⟩, da.fr (fun o k a b => kq o k (by omega)) (fun o k a b => kq o k (by omega)) (fun o k a b => hf o k (by omega)) (fun o k h => hf o k (by omega)) (by omega), si.fr (kq _ _ (by omega)) (kq _ _ (by omega)) (fun o k a b => kq o k (by omega)) (fun o k a b => kq o k (by omega)) (by omega)⟩
  · rw [m1 _ _ (by omega) (by omega) (by omega) (by omega) (by omega), am_u_eq]
  · by_cases e : r = rc
    · subst e
      obtain ⟨r0, r1, r2, r5, r3, r4⟩ := ri
      have pv := pk_val (g := OI I v) (a := t) n2
      have h3 : H2 (383 + r) 3 = H (383 + r) 3 := m2 _ 3 (by omega) (by omega) (by omega)
      refine ⟨v, t, t + n2, hv, by omega, by omega, (kr 0).trans r0, k511, (kr 1).trans r1, k512, (kr 2).trans r2, k513, ?_, ?_, ?_, ⟨T, Nat.le_refl T, k516.trans tl.1⟩, ?_⟩
      · rw [h3, r3, h514]
      · rw [h514, pv.1]; exact OO_kv
      · rw [kr 4, r4, k515]
      · rw [kr 5, r5]
        refine ⟨fun h => absurd rfl h, fun ⟨k, hk, _, _, h⟩ => ?_⟩
        obtain ⟨MM, hM, eM⟩ := tl.2 k hk
        rw [k516, tl.1, kq 1000508 k (by omega), eM] at h
        have := (nI_ltI (by omega) (by omega)).mp h
        omega
    · exact (rr.2.2.2 r (by omega)).frp (fun k => kq _ k (by omega)) ⟨funext fun k => kq _ k (by omega), funext fun k => kq _ k (by omega), funext fun k => kq _ k (by omega), funext fun k => kq _ k (by omega)⟩ (fun o a b => kq o r (by omega)) (hf _ _ (by omega)) (hf _ _ (by omega))
/-- what stands when hours have passed on both sides -/
theorem InvS.passed {J0 A : Nat → Nat → Int32} {H0 B : Nat → Nat → UInt32} {t2 : Nat} (z : InvS s T rc sc t n N I L F) (cv : CV s I L F A B t2 sc J0 H0) (mv : MVs s J0 H0 A B t2 J H) (vb : VBk B t2 0) (ht : t2 ≤ 200) : InvS s T rc sc t2 n N J L H := by
  obtain ⟨vi, dr, nw, rr, ⟨tl, hT⟩, da, si⟩ := z
  obtain ⟨f1, f2, oc, e9, cd, cx⟩ := cv
  obtain ⟨g1, g2, om, ⟨e1, e0⟩, m531, m535, m520, m525, m530⟩ := mv
  have pf : PFr I J F H := PFr.of f1 f2 g1 g2
  have c9 := vi.1.2.2.1.1
  have hc := vi.1.1.1
  have vi1 : VI J0 L H0 s := vi.stepC (fun o k a b c d => f1.lo (by omega) c a d) (fun o k a b c => f1.row (by omega) b (by omega) c) (fun v a b => f1 _ 6 (by omega) (by omega) (fun ⟨u, x, y, _, w⟩ => by
    rw [c9] at w
    have := (nI_ltI (by omega) (by omega)).mp w
    omega) (fun ⟨v, a, b, e⟩ => by omega) (by omega)) (congrFun (f1.hi (by decide)) 5) (fun o a b _ _ _ => f1.hi (by omega)) oc (funext fun k => f2 _ k (by decide) (by decide) (fun ⟨v, x, y⟩ => by omega) (by decide))
  have vi2 : VI J L H s := vi1.stepM (fun o k a b c => g1 o k (by omega) (by omega) (by omega) (by omega) (by omega) (by omega)) (g1 _ _ (by omega) (by omega) (by omega) (by omega) (by omega) (by omega)) (fun o a b c => funext fun k => g1 o k (by omega) (by omega) (by omega) (by omega) (by omega) (by omega)) (fun o k a b c => g2 o k (by omega) (by omega) (by omega) (by omega) (by omega) (by omega)) om.2.2
  have jd : ∀ o k, 423 ≤ o → o < 438 → k ≠ 13 → J o k = I o k := fun o k a b c => by
    rw [g1 o k (by omega) (by omega) (by omega) (by omega) (by omega) (by omega)]; exact f1.dam a b c
  have j0 : ∀ o k, o < 498 → J o k = J0 o k := fun o k a => g1 o k (by omega) (by omega) (by omega) (by omega) (by omega) (by omega)
  have h0 : ∀ o k, o < 498 → H o k = H0 o k := fun o k a => g2 o k (by omega) (by omega) (by omega) (by omega) (by omega) (by omega)
  refine ⟨vi2, dr.fr (fun k => pf.row (by decide) (by decide) (by decide) (fun ⟨v, a, b⟩ => by omega)) (fun k => pf.row (by decide) (by decide) (by decide) (fun ⟨v, a, b⟩ => by omega)) (pf.m (by decide) (by decide)) (fun k => congrFun (pf.hi (by decide) (by decide) (by decide) (by decide)) k), ⟨ht, (j0 0 9 (by decide)).trans e9, e1⟩, pf.rr rr, ⟨tl.fr (pf.m (by decide) (by decide)) (pf.hi (by decide) (by decide) (by decide) (by decide)), hT⟩, fun d hd => ?_, si.1, (pf.c0 (by decide)).trans si.2.1, (pf.m (by decide) (by decide)).trans si.2.2.1, fun x hx => ?_⟩
  · obtain ⟨a, _, _⟩ := da d hd
    obtain ⟨b1, b2, b3, b4⟩ := cd d hd
    obtain ⟨v1, v2, v3, v4⟩ := vb d hd
    rw [if_neg (Nat.not_lt_zero d)] at v1
    refine ⟨a.frd (fun k hk => jd _ k (by omega) (by omega) hk) (fun o k x y => ?_) (fun o x y w => congrFun (pf.hi (by omega) (by omega) (by omega) (by omega)) d) (fun k _ _ => congrFun (pf.hi (by decide) (by decide) (by decide) (by decide)) k), ⟨?_, ?_, ?_, fun k hk => ?_⟩, ?_, ?_, ?_, fun k hk => ?_⟩
    · rw [j0 o k (by omega)]
      exact f1 o k (by omega) (by omega) (fun ⟨v, a, b, _⟩ => by omega) (fun ⟨v, a, b, _⟩ => by omega) (by omega)
    · rw [h0 _ _ (by omega), m520]; exact b1
    · rw [h0 _ _ (by omega), m530]; exact b2
    · rw [j0 _ _ (by omega), m531]; exact b3
    · rw [h0 _ _ (by omega), m525]; exact b4 k hk
    · rw [m520]; exact v1
    · rw [m520]; exact v2
    · rw [m530]; exact v3
    · rw [m525]; exact v4 k hk
  · have s60 := si.1
    obtain ⟨a, b⟩ := si.2.2.2 x hx
    refine ⟨a.fr (fun k hk => by rw [j0 _ k (by omega)]; exact f1.sir (by omega) (by omega) hk) (fun o x1 x2 x3 => congrFun (pf.hi (by omega) (by omega) (by omega) (by omega)) x) (Nat.le_refl _), ?_⟩
    rw [j0 _ _ (by omega), m535]; exact cx x hx
end OE
