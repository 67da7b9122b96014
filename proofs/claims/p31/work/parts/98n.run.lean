/-! own: runs are made -/
set_option maxRecDepth 100000
/-- what a run that is made leaves -/
def RunP (I K : Nat → Nat → Int32) (F H : Nat → Nat → UInt32) (rc v t n2 : Nat) : Prop := (∀ o k, 498 ≤ o → o < 1000000 → K o k = I o k) ∧ (∀ o k, 1000500 ≤ o → ¬ (1000511 ≤ o ∧ o ≤ 1000516 ∧ k = rc) → K o k = I o k) ∧ (∀ r, r < rc → K (383 + r) 5 = I (383 + r) 5) ∧ K (383 + rc) 5 = 0 ∧ K 1000511 rc = nI v ∧ K 1000512 rc = nI t ∧ K 1000513 rc = nI (t + n2) ∧ K 1000515 rc = nI (pk (OI I v) t n2).2 ∧ H 1000514 rc = (pk (OI I v) t n2).1 ∧ ∀ o k, 1000498 ≤ o → ¬ (o = 1000514 ∧ k = rc) → H o k = F o k
section ZN
variable {X : Nat × (Nat × (Nat → Int32))} {I J K : Nat → Nat → Int32} {L M : Nat → Nat → Int64} {F H : Nat → Nat → UInt32} {Q : AQ} {N T rc sc t n n2 d r v k h x m j c0 a b : Nat} {s z : AS}
theorem zi_peakAnew (iv : InvS s T rc sc t n N I L F) (hr : r < rc) (e1 : I 1000511 r = nI v) (hv : v < 60) (e2 : I 1000512 r = nI a) (e3 : I 1000513 r = nI b) (ha : a < 201) (hb : b < 201) (q : ∀ J H, InvS s T rc sc t n N J L H → LIF 380 I J → LFF 380 F H → Q (.inl (some (.int (UInt32.toInt32 (pk (OI I v) a (b - a)).1)))) (G X J L H)) : WP mX9_peakAnew 0 (am_ent 3 [.ref 0, .int (nI r)]) [] (G X I L F) 0 0 Q := by
  have rr := iv.2.2.2.1
  have h40 := rr.1
  have hc := iv.1.1.1.1
  refine k_X9_peakAnew_0 ⟨fun a => absurd a (by rw [r9_1 h40 rr.2.1 ⟨r, hr, rfl⟩]; exact n10), fun _ => ?_⟩
  obtain ⟨v2, a2, b2, hv2, hab, hb2, ev, mv, ea, ma, eb, mb, _⟩ := rr.2.2.2 r hr
  have x1 : v = v2 := (nI_eq (by omega) (by omega)).mp (e1.symm.trans mv)
  have x2 : a = a2 := (nI_eq (by omega) (by omega)).mp (e2.symm.trans ma)
  have x3 : b = b2 := (nI_eq (by omega) (by omega)).mp (e3.symm.trans mb)
  subst x1 x2 x3
  rw [nI_clamp (show r < 2 ^ 31 by omega), ev]
  refine sp_forget hv2 iv.1.outc (fun J0 i0 oc0 => k_X9_peakAnew_36 (gi_runN (by omega)) ?_)
  have iv0 := iv.oif i0 OFF.refl oc0
  have fr : ∀ k, J0 (383 + r) k = I (383 + r) k := fun k => i0 _ k (by omega) (fun ⟨v, _, y, _⟩ => by omega)
  rw [fr 0, fr 1, fr 2, ev, ea, eb]
  refine sp_look isRun_380 (by omega) (by omega) hv2 hab hb oc0 (fun J H i1 i2 oc eo ri => k_X9_peakAnew_59 (gi_runN (by omega)) ?_)
  have iv1 := iv0.lif i1 i2 oc
  have pv := pk_val (g := OI J0 v) (a := a) (b - a)
  have lt : LIF 380 I J := (LIF.of i0).trans (by omega) i1
  rw [ri.2.2.2.2.1]
  refine sp_bitsOf (by rw [pv.1]; exact OO_kv.fin) (by rw [pv.1]; exact OO_kv.2.2) (k_X9_peakAnew_69 (gi_runN (by omega)) ?_)
  rw [i0.oi]
  exact q J H iv1 lt i2
theorem z_run (hX : X.1 ≤ 400000) (hN : N < 1000000) (iv : InvS s T rc sc t n N I L F) (hrc : rc < 40) (hm : m < 6) (hv : v < aC s) (la : aL s m = nI v) (h1 : 1 ≤ n2) (h48 : n2 ≤ 48) (le : t + n2 ≤ 200) (q : ∀ K H2, InvS s T (rc + 1) sc t n N K L H2 → RunP I K F H2 rc v t n2 → Q (.inl (some (.int (nI rc)))) (G X K L H2)) : WP mX9_run 0 (am_ent 4 [.ref 0, .int (nI m), .int (nI n2)]) [] (G X I L F) 0 0 Q := by
  have rr := iv.2.2.2.1
  have h40 := rr.1
  have w := iv.1.1.1
  have hc := w.1
  obtain ⟨ht, e9, e1⟩ := iv.2.2.1
  refine sp_crun w iv.1.1.2.2.1 iv.1.outc rr.2.1 h40 e9 ht hm (fun h => (hrs_no (m := 48) h1 h48 (by decide) rfl h).elim) (fun n3 g1 g2 e c => ?_) (fun n3 v2 g1 g2 e hv2 ev _ _ J H f1 f2 oc eo ri => ?_)
  · have en : n2 = n3 := (nI_eq (by omega) (by omega)).mp e
    exfalso
    rcases c with c | c | c
    · rw [la] at c; exact nI_m1 (by omega) c
    · omega
    · omega
  · have en : n2 = n3 := (nI_eq (by omega) (by omega)).mp e
    have ve : v = v2 := (nI_eq (by omega) (by omega)).mp (la.symm.trans ev)
    subst en ve
    have gK : ∀ o k, ¬ (o = 1000498 ∧ k = 17) → ¬ (1000511 ≤ o ∧ o ≤ 1000516 ∧ k = rc) → am_u (am_u (am_u (am_u (am_u (am_u (am_u J 0 7 (nI (rc + 1))) 1000498 17 (nI (rc + 1))) 1000511 rc (nI v)) 1000512 rc (nI t)) 1000513 rc (nI (t + n2))) 1000515 rc (nI (pk (OI I v) t n2).2)) 1000516 rc (I 1000498 14) o k = am_u J 0 7 (nI (rc + 1)) o k := fun o k a b => by
      rw [am_u_ne (by omega), am_u_ne (by omega), am_u_ne (by omega), am_u_ne (by omega), am_u_ne (by omega), am_u_ne (by omega)]
    have q17 : am_u (am_u (am_u (am_u (am_u (am_u (am_u J 0 7 (nI (rc + 1))) 1000498 17 (nI (rc + 1))) 1000511 rc (nI v)) 1000512 rc (nI t)) 1000513 rc (nI (t + n2))) 1000515 rc (nI (pk (OI I v) t n2).2)) 1000516 rc (I 1000498 14) 1000498 17 = nI (rc + 1) := by
      rw [am_u_ne (by omega), am_u_ne (by omega), am_u_ne (by omega), am_u_ne (by omega), am_u_ne (by omega), am_u_eq]
    have q511 : am_u (am_u (am_u (am_u (am_u (am_u (am_u J 0 7 (nI (rc + 1))) 1000498 17 (nI (rc + 1))) 1000511 rc (nI v)) 1000512 rc (nI t)) 1000513 rc (nI (t + n2))) 1000515 rc (nI (pk (OI I v) t n2).2)) 1000516 rc (I 1000498 14) 1000511 rc = nI v := by
      rw [am_u_ne (by omega), am_u_ne (by omega), am_u_ne (by omega), am_u_ne (by omega), am_u_eq]
    have q512 : am_u (am_u (am_u (am_u (am_u (am_u (am_u J 0 7 (nI (rc + 1))) 1000498 17 (nI (rc + 1))) 1000511 rc (nI v)) 1000512 rc (nI t)) 1000513 rc (nI (t + n2))) 1000515 rc (nI (pk (OI I v) t n2).2)) 1000516 rc (I 1000498 14) 1000512 rc = nI t := by
      rw [am_u_ne (by omega), am_u_ne (by omega), am_u_ne (by omega), am_u_eq]
    have q513 : am_u (am_u (am_u (am_u (am_u (am_u (am_u J 0 7 (nI (rc + 1))) 1000498 17 (nI (rc + 1))) 1000511 rc (nI v)) 1000512 rc (nI t)) 1000513 rc (nI (t + n2))) 1000515 rc (nI (pk (OI I v) t n2).2)) 1000516 rc (I 1000498 14) 1000513 rc = nI (t + n2) := by
      rw [am_u_ne (by omega), am_u_ne (by omega), am_u_eq]
    have q515 : am_u (am_u (am_u (am_u (am_u (am_u (am_u J 0 7 (nI (rc + 1))) 1000498 17 (nI (rc + 1))) 1000511 rc (nI v)) 1000512 rc (nI t)) 1000513 rc (nI (t + n2))) 1000515 rc (nI (pk (OI I v) t n2).2)) 1000516 rc (I 1000498 14) 1000515 rc = nI (pk (OI I v) t n2).2 := by
      rw [am_u_ne (by omega), am_u_eq]
    have q516 : am_u (am_u (am_u (am_u (am_u (am_u (am_u J 0 7 (nI (rc + 1))) 1000498 17 (nI (rc + 1))) 1000511 rc (nI v)) 1000512 rc (nI t)) 1000513 rc (nI (t + n2))) 1000515 rc (nI (pk (OI I v) t n2).2)) 1000516 rc (I 1000498 14) 1000516 rc = I 1000498 14 := am_u_eq
    rw [G_eq (J := am_u (am_u (am_u (am_u (am_u (am_u (am_u J 0 7 (nI (rc + 1))) 1000498 17 (nI (rc + 1))) 1000511 rc (nI v)) 1000512 rc (nI t)) 1000513 rc (nI (t + n2))) 1000515 rc (nI (pk (OI I v) t n2).2)) 1000516 rc (I 1000498 14)) (H := am_u H 1000514 rc (pk (OI I v) t n2).1) (fun o k h => gK o k (by omega) (by omega)) (fun o k h => am_u_ne (by omega))]
    generalize am_u (am_u (am_u (am_u (am_u (am_u (am_u J 0 7 (nI (rc + 1))) 1000498 17 (nI (rc + 1))) 1000511 rc (nI v)) 1000512 rc (nI t)) 1000513 rc (nI (t + n2))) 1000515 rc (nI (pk (OI I v) t n2).2)) 1000516 rc (I 1000498 14) = K at gK q17 q511 q512 q513 q515 q516 ⊢
    have jf : ∀ o k, 498 ≤ o → J o k = I o k := fun o k a => f1 o k (by omega) (by omega) (fun ⟨v, _, y, _⟩ => by omega)
    have kf : ∀ o k, 498 ≤ o → ¬ (o = 1000498 ∧ k = 17) → ¬ (1000511 ≤ o ∧ o ≤ 1000516 ∧ k = rc) → K o k = I o k := fun o k a b c => by
      rw [gK o k b c, am_u_ne (by omega)]; exact jf o k a
    have om : OutM K (am_u H 1000514 rc (pk (OI I v) t n2).1) (aC s) := OutM.ext (funext fun k => kf _ k (by omega) (by omega) (by omega)) (funext fun k => kf _ k (by omega) (by omega) (by omega)) (funext fun k => kf _ k (by omega) (by omega) (by omega)) (funext fun k => kf _ k (by omega) (by omega) (by omega)) (funext fun k => kf _ k (by omega) (by omega) (by omega)) (funext fun k => (am_u_ne (by omega)).trans (f2 _ k (by omega) (by decide) (by decide) (fun ⟨v, x, y⟩ => by omega))) iv.1.outm
    refine q K _ (InvS.runn iv hN hrc hv le f1 f2 oc ri (fun o k a b _ _ _ => gK o k (by omega) b) (fun o k _ _ a => am_u_ne (by omega)) om q17 q511 q512 q513 q515 am_u_eq q516) ⟨fun o k a b => kf o k a (by omega) (by omega), fun o k a b => kf o k (by omega) (by omega) b, fun r hr => ?_, ?_, q511, q512, q513, q515, am_u_eq, fun o k a b => ?_⟩
    · rw [gK _ _ (by omega) (by omega), am_u_ne (by omega)]
      exact f1 _ _ (by omega) (by omega) (fun ⟨v, _, y, _⟩ => by omega)
    · rw [gK _ _ (by omega) (by omega), am_u_ne (by omega)]
      exact ri.2.2.2.1
    · rw [am_u_ne (by omega)]
      exact f2 o k (by omega) (by omega) (by omega) (fun ⟨v, x, y⟩ => by omega)
end ZN
