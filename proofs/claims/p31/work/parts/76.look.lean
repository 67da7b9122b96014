/-! own: a look ahead of the class -/
set_option maxRecDepth 100000
/-- the greatest output of hours a to a + m, and the first hour of it -/
def pk (g : Nat → UInt32) (a : Nat) : Nat → UInt32 × Nat
  | 0 => (g a, a)
  | m + 1 => if fk (pk g a m).1 < fk (g (a + m + 1)) then (g (a + m + 1), a + m + 1) else pk g a m
def LIF (o : Nat) (I J : Nat → Nat → Int32) : Prop := ∀ q k, q ≠ o → ¬ (q = 10 ∧ k = 2) → ¬ (∃ v, v < 60 ∧ q = 19 + 6 * v ∧ k = 6 ∧ nI v < I 9 4) → J q k = I q k
def LFF (o : Nat) (F H : Nat → Nat → UInt32) : Prop := ∀ q k, q ≠ o → q ≠ 11 → q ≠ 12 → ¬ (∃ v, v < 60 ∧ q = 19 + 6 * v + 5) → H q k = F q k
section LA
variable {X : Nat × (Nat × (Nat → Int32))} {I J K : Nat → Nat → Int32} {L : Nat → Nat → Int64} {F H H2 : Nat → Nat → UInt32} {Q : AQ} {c v h o : Nat}
theorem pk_val {g : Nat → UInt32} {a : Nat} : ∀ m, (pk g a m).1 = g (pk g a m).2 ∧ a ≤ (pk g a m).2 ∧ (pk g a m).2 ≤ a + m
  | 0 => ⟨rfl, Nat.le_refl _, Nat.le_refl _⟩
  | m + 1 => by
    have z := pk_val (g := g) (a := a) m
    have e : pk g a (m + 1) = if fk (pk g a m).1 < fk (g (a + m + 1)) then (g (a + m + 1), a + m + 1) else pk g a m := rfl
    rw [e]
    split
    · exact ⟨rfl, by show a ≤ a + m + 1; omega, Nat.le_refl _⟩
    · exact ⟨z.1, z.2.1, by omega⟩
theorem LIF.of (h : OIF I J) : LIF o I J := fun q k _ n m => h q k n m
theorem LFF.of (h : OFF F H) : LFF o F H := fun q k _ n m l => h q k n m l
theorem LIF.cnt (hn : 379 < o) (h : LIF o I J) : J 9 4 = I 9 4 := h 9 4 (by omega) (by omega) (fun ⟨v, _, e, _⟩ => by omega)
theorem LIF.trans (h1 : LIF o I J) (hn : 379 < o) (h2 : LIF o J K) : LIF o I K := fun q k n m l => (h2 q k n m (by rw [h1.cnt hn]; exact l)).trans (h1 q k n m l)
theorem LFF.trans (h1 : LFF o F H) (h2 : LFF o H H2) : LFF o F H2 := fun q k n m l s => (h2 q k n m l s).trans (h1 q k n m l s)
theorem LIF_u {k : Nat} {x : Int32} : LIF o I (am_u I o k x) := fun q j n _ _ => am_u_ne (Or.inl n)
theorem LFF_u {k : Nat} {x : UInt32} : LFF o F (am_u F o k x) := fun q j n _ _ _ => am_u_ne (Or.inl n)
/-- outputs hang on nothing between the versions and the model -/
theorem OutC.ext (hI : ∀ q k, (q < 379 ∨ 498 ≤ q) → J q k = I q k) (hF : ∀ q k, q < 379 → H q k = F q k) (z : OutC I L F c) : OutC J L H c := by
  obtain ⟨o1, o2, o3, o4, o5, o6, o7⟩ := z
  have r : ∀ q, (q < 379 ∨ 498 ≤ q) → J q = I q := fun q hq => funext fun k => hI q k hq
  have eoi : OI J = OI I := OI_cong (r _ (by omega)) (r _ (by omega)) (r _ (by omega)) (r _ (by omega))
  refine ⟨o1, (hI _ _ (by omega)).trans o2, fun v hv => ?_, fun g hg t ht => ?_, fun v hv => ⟨(o5 v hv).1, fun u hu b k hk p e => (o5 v hv).2 u hu b k hk p (by rw [← hI 1000504 _ (by omega)]; exact e)⟩, fun v hv => ?_, fun j hj => by rw [hF 11 j (by omega)]; exact o7 j hj⟩
  · obtain ⟨z1, z2, z3, z4⟩ := o3 v hv
    rw [r 1000502 (by omega), r 1000503 (by omega), r 1000504 (by omega)]
    exact ⟨z1, FC_fr (fun q k hq => hI q k (by omega)) z2, z3, fun k hk => (hI _ _ (by omega)).trans (z4 k hk)⟩
  · rw [hI _ _ (by omega), hI _ _ (by omega)]
    exact o4 g hg t ht
  · obtain ⟨kh, f1, f2, f3⟩ := o6 v hv
    refine ⟨kh, f1, (hI _ _ (by omega)).trans f2, fun s hs => ?_⟩
    rw [eoi, hF _ _ (by omega)]
    exact f3 s hs
/-- a run's cells -/
def RunIs (I : Nat → Nat → Int32) (F : Nat → Nat → UInt32) (o v a b : Nat) (p : UInt32 × Nat) : Prop := I o 0 = nI v ∧ I o 1 = nI a ∧ I o 2 = nI b ∧ I o 5 = 0 ∧ F o 3 = p.1 ∧ I o 4 = nI p.2
theorem sp_look53 {a b : Nat} (ho : isRun o) (h1 : 379 < o) (h2 : o < 498) (hv : v < c) (hab : a ≤ b) (hb : b < 201) {x2 x3 x4 : Int32} : ∀ (r m : Nat) (I : Nat → Nat → Int32) (F : Nat → Nat → UInt32) (d6 : Option Value), a + m + r = b → OutC I L F c → RunIs I F o v a b (pk (OI I v) a m) →
    (∀ J H, LIF o I J → LFF o F H → OutC J L H c → OI J = OI I → RunIs J H o v a b (pk (OI I v) a (b - a)) → Q (.inl none) (G X J L H)) →
    WP mX5_lookAhead 53 [some (.ref o), some (.ref 9), some (.int x2), some (.int x3), some (.int x4), some (.int (nI (a + m + 1))), d6] [] (G X I L F) 0 0 Q
  | 0, m, I, F, d6, hr, oc, ri, q => by
    have e : m = b - a := by omega
    subst e
    refine k_X5_lookAhead_53 ho ⟨fun _ => q I F (fun _ _ _ _ _ => rfl) (fun _ _ _ _ _ _ => rfl) oc rfl ri, fun n => absurd (by rw [ri.2.2.1, nI_ltI (by omega) (by omega)]; omega) n⟩
  | r + 1, m, I, F, d6, hr, oc, ri, q => by
    obtain ⟨r0, r1, r2, r5, r3, r4⟩ := ri
    refine k_X5_lookAhead_53 ho ⟨fun n => absurd ((nI_ltI (a := b) (b := a + m + 1) (by omega) (by omega)).mp (by rw [← r2]; exact n)) (by omega), fun _ => ?_⟩
    rw [r0]
    refine sp_outputOf (t := a + m + 1) hv (by omega) oc (fun J H x1 x2 x3 x4 => k_X5_lookAhead_72 ho (fun I81 eI F81 eF => ?_))
    have jo : ∀ k, J o k = I o k := fun k => congrFun (x1.big (by omega)) k
    have ho3 : H o 3 = F o 3 := x2 o 3 (by omega) (by omega) (fun ⟨u, y, z⟩ => by omega)
    have eoi := x1.oi
    rw [ho3, r3] at eI eF
    have pv := pk_val (g := OI I v) (a := a) m
    have nx : nn (pk (OI I v) a m).1 := by rw [pv.1]; exact OO_kv.nn
    have ny : nn (OI I v (a + m + 1)) := OO_kv.nn
    have le := fc_le (op := .l) ny nx
    rw [nI_1]
    by_cases cc : fk (pk (OI I v) a m).1 < fk (OI I v (a + m + 1))
    · have e1 : pk (OI I v) a (m + 1) = (OI I v (a + m + 1), a + m + 1) := by
        show (if fk (pk (OI I v) a m).1 < fk (OI I v (a + m + 1)) then _ else _) = _
        rw [if_pos cc]
      rw [if_neg (fun n => by have := le.mp n; omega)] at eI eF
      subst eI eF
      have oc2 : OutC (am_u J o 4 (nI (a + m + 1))) L (am_u H o 3 (OI I v (a + m + 1))) c := x3.ext (fun q k hq => am_u_ne (Or.inl (by omega))) (fun q k hq => am_u_ne (Or.inl (by omega)))
      have eoi2 : OI (am_u J o 4 (nI (a + m + 1))) = OI I := by
        rw [← eoi]
        exact OI_cong (funext fun k => am_u_ne (Or.inl (by omega))) (funext fun k => am_u_ne (Or.inl (by omega))) (funext fun k => am_u_ne (Or.inl (by omega))) (funext fun k => am_u_ne (Or.inl (by omega)))
      refine sp_look53 ho h1 h2 hv hab hb r (m + 1) _ _ _ (by omega) oc2 ?_ (fun K H2 y1 y2 y3 y4 y5 => q K H2 ((LIF.of x1).trans h1 (LIF_u.trans h1 y1)) ((LFF.of x2).trans (LFF_u.trans y2)) y3 (y4.trans eoi2) (by rw [eoi2] at y5; exact y5))
      rw [eoi2, e1]
      exact ⟨by rw [am_u_ne (by omega), jo]; exact r0, by rw [am_u_ne (by omega), jo]; exact r1, by rw [am_u_ne (by omega), jo]; exact r2, by rw [am_u_ne (by omega), jo]; exact r5, am_u_eq, am_u_eq⟩
    · have e1 : pk (OI I v) a (m + 1) = pk (OI I v) a m := by
        show (if fk (pk (OI I v) a m).1 < fk (OI I v (a + m + 1)) then _ else _) = _
        rw [if_neg cc]
      rw [if_pos (le.mpr (by omega))] at eI eF
      subst eI eF
      refine sp_look53 ho h1 h2 hv hab hb r (m + 1) _ _ _ (by omega) x3 ?_ (fun K H2 y1 y2 y3 y4 y5 => q K H2 ((LIF.of x1).trans h1 y1) ((LFF.of x2).trans y2) y3 (y4.trans eoi) (by rw [eoi] at y5; exact y5))
      rw [eoi, e1]
      exact ⟨(jo 0).trans r0, (jo 1).trans r1, (jo 2).trans r2, (jo 5).trans r5, ho3.trans r3, (jo 4).trans r4⟩
theorem sp_look {a b : Nat} (ho : isRun o) (h1 : 379 < o) (h2 : o < 498) (hv : v < c) (hab : a ≤ b) (hb : b < 201) (oc : OutC I L F c) (q : ∀ J H, LIF o I J → LFF o F H → OutC J L H c → OI J = OI I → RunIs J H o v a b (pk (OI I v) a (b - a)) → Q (.inl none) (G X J L H)) : WP mX5_lookAhead 0 (am_ent 7 [.ref o, .ref 9, .int (nI v), .int (nI a), .int (nI b)]) [] (G X I L F) 0 0 Q := by
  refine k_X5_lookAhead_0 ho ?_
  generalize hI0 : am_u (am_u (am_u (am_u I o 0 (nI v)) o 1 (nI a)) o 2 (nI b)) o 5 0 = I0
  have lif : LIF o I I0 := by rw [← hI0]; exact LIF_u.trans h1 (LIF_u.trans h1 (LIF_u.trans h1 LIF_u))
  have j0 : I0 o 0 = nI v := by rw [← hI0, am_u_ne (by omega), am_u_ne (by omega), am_u_ne (by omega), am_u_eq]
  have j1 : I0 o 1 = nI a := by rw [← hI0, am_u_ne (by omega), am_u_ne (by omega), am_u_eq]
  have j2 : I0 o 2 = nI b := by rw [← hI0, am_u_ne (by omega), am_u_eq]
  have j5 : I0 o 5 = 0 := by rw [← hI0, am_u_eq]
  have same : ∀ q k, q ≠ o → I0 q k = I q k := fun q k hq => by
    rw [← hI0, am_u_ne (Or.inl hq), am_u_ne (Or.inl hq), am_u_ne (Or.inl hq), am_u_ne (Or.inl hq)]
  have oc0 : OutC I0 L F c := oc.ext (fun q k hq => same q k (by omega)) (fun _ _ _ => rfl)
  have eo0 : OI I0 = OI I := OI_cong (funext fun k => same _ k (by omega)) (funext fun k => same _ k (by omega)) (funext fun k => same _ k (by omega)) (funext fun k => same _ k (by omega))
  rw [j0, j1]
  refine sp_outputOf (t := a) hv (by omega) oc0 (fun J H x1 x2 x3 x4 => k_X5_lookAhead_34 ho ho ?_)
  have jo : ∀ k, J o k = I0 o k := fun k => congrFun (x1.big (by omega)) k
  have eoi : OI J = OI I := x1.oi.trans eo0
  rw [am_u_ne (Or.inr (by decide)), jo 1, j1, nI_1]
  generalize hJ2 : am_u J o 4 (nI a) = J2
  have same2 : ∀ q k, q ≠ o → J2 q k = J q k := fun q k hq => by rw [← hJ2, am_u_ne (Or.inl hq)]
  have oc2 : OutC J2 L (am_u H o 3 (OI I0 v a)) c := x3.ext (fun q k hq => same2 q k (by omega)) (fun q k hq => am_u_ne (Or.inl (by omega)))
  have eo2 : OI J2 = OI I := by
    rw [← eoi]
    exact OI_cong (funext fun k => same2 _ k (by omega)) (funext fun k => same2 _ k (by omega)) (funext fun k => same2 _ k (by omega)) (funext fun k => same2 _ k (by omega))
  refine sp_look53 (m := 0) ho h1 h2 hv hab hb (b - a) _ _ _ (by omega) oc2 ?_ (fun K H2 y1 y2 y3 y4 y5 => q K H2 (lif.trans h1 ((LIF.of x1).trans h1 (LIF.trans (by rw [← hJ2]; exact LIF_u) h1 y1))) ((LFF.of x2).trans (LFF_u.trans y2)) y3 (y4.trans eo2) (by rw [eo2] at y5; exact y5))
  rw [eo2]
  refine ⟨?_, ?_, ?_, ?_, ?_, ?_⟩
  · rw [← hJ2, am_u_ne (by omega), jo, j0]
  · rw [← hJ2, am_u_ne (by omega), jo, j1]
  · rw [← hJ2, am_u_ne (by omega), jo, j2]
  · rw [← hJ2, am_u_ne (by omega), jo, j5]
  · rw [am_u_eq, eo0]; rfl
  · rw [← hJ2, am_u_eq]; rfl
end LA
