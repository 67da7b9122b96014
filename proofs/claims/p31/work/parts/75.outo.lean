/-! own: the class's output of a version in an hour; a look ahead -/
set_option maxRecDepth 100000
/-- a version's set holds itself, and with each version those that it pins -/
def RB (I : Nat → Nat → Int32) (L : Nat → Nat → Int64) (c : Nat) : Prop := ∀ v, v < c → lb (L (19 + 6 * v) 5) v = true ∧ ∀ u, u ≤ v → lb (L (19 + 6 * v) 5) u = true → ∀ k, k < 6 → ∀ p, I 1000504 (6 * u + k) = nI p → p < u → lb (L (19 + 6 * v) 5) p = true
/-- all that outputs hang on, in the class -/
def OutC (I : Nat → Nat → Int32) (L : Nat → Nat → Int64) (F : Nat → Nat → UInt32) (c : Nat) : Prop := c ≤ 60 ∧ I 9 4 = nI c ∧ VC I c ∧ RC I ∧ RB I L c ∧ OC I F c ∧ NF F
section OP
variable {X : Nat × (Nat × (Nat → Int32))} {I J K : Nat → Nat → Int32} {L : Nat → Nat → Int64} {F H H2 : Nat → Nat → UInt32} {Q : AQ} {c v h : Nat}
theorem OIF.rb (h : OIF I J) (z : RB I L c) : RB J L c := fun v hv => ⟨(z v hv).1, fun u hu b k hk p e => (z v hv).2 u hu b k hk p (by rw [← congrFun (h.big (o := 1000504) (by decide)) _]; exact e)⟩
theorem OIF.outc (h : OIF I J) (z : OutC I L F c) (oc : OC J H c) (nf : NF H) : OutC J L H c :=
  ⟨z.1, h.cnt.trans z.2.1, h.vc z.1 z.2.2.1, h.rc z.2.2.2.1, h.rb z.2.2.2.2.1, oc, nf⟩
theorem isHour_nI {t : Nat} (ht : t < 201) : f_X9_isHour (nI t) = 1 := by
  unfold f_X9_isHour
  rw [if_neg (nI_pos (by omega)), if_neg (show ¬ (200 : Int32) < nI t from fun n => absurd ((nI_ltI (a := 200) (by decide) (by omega)).mp n) (by omega))]
theorem sp_out19 {t : Nat} (hv : v < c) (ht : t < 201) : ∀ (m i : Nat) (I : Nat → Nat → Int32) (F : Nat → Nat → UInt32), i + m = v + 1 → OutC I L F c → (∀ u, u < i → lb (L (19 + 6 * v) 5) u = true → Kept I u t) →
    (∀ J H, OIF I J → OFF F H → OutC J L H c → Kept J v t → Q (.inl (some (.float (OI I v t)))) (G X J L H)) →
    WP mX6_outputOf 19 [some (.ref 9), some (.int (nI v)), some (.int (nI t)), some (.int (nI i))] [] (G X I L F) 0 0 Q
  | 0, i, I, F, hi, oc, hk, q => by
    have hc := oc.1
    have cv : (nI v).toNatClampNeg = v := nI_clamp (by omega)
    have ct : (nI t).toNatClampNeg = t := nI_clamp (by omega)
    have kv := hk v (by omega) (oc.2.2.2.2.1 v hv).1
    refine k_X6_outputOf_19 ⟨fun _ => ⟨nI_in (by omega) (by decide), nI_in (by omega) (by decide), ?_⟩, fun n => absurd ((nI_ltI (a := v) (b := i) (by omega) (by omega)).mpr (by omega)) n⟩
    rw [cv, ct, kept_val oc.2.2.2.2.2.1 hv kv t (Nat.le_refl _)]
    exact q I F OIF.refl OFF.refl oc kv
  | m + 1, i, I, F, hi, oc, hk, q => by
    have hc := oc.1
    have cv : (nI v).toNatClampNeg = v := nI_clamp (by omega)
    have ci : (nI i).toNatClampNeg = i := nI_clamp (by omega)
    have rb := oc.2.2.2.2.1 v hv
    refine k_X6_outputOf_19 ⟨fun n => absurd ((nI_ltI (a := v) (b := i) (by omega) (by omega)).mp n) (by omega), fun _ => ⟨nI_in (by omega) (by decide), ?_⟩⟩
    rw [cv, lc_0 (show i < 64 by omega), ci]
    refine ⟨fun b => k_X6_outputOf_53 ?_, fun b => ⟨nI_in (by omega) (by decide), ?_⟩⟩
    · rw [nI_1]
      refine sp_out19 hv ht m (i + 1) I F (by omega) oc (fun u hu bu => ?_) q
      by_cases e : u = i
      · rw [e, b] at bu; cases bu
      · exact hk u (by omega) bu
    · have bi : lb (L (19 + 6 * v) 5) i = true := by
        cases hb : lb (L (19 + 6 * v) 5) i with
        | true => rfl
        | false => exact absurd hb b
      obtain ⟨o1, o2, o3, o4, o5, o6, o7⟩ := oc
      refine sp_fill o1 (show i < c by omega) ht o2 o3 o4 o6 o7 (fun u hu ⟨k, hk6, ek⟩ => hk u hu (rb.2 i (by omega) bi k hk6 u ek hu)) (fun J H x1 x2 x3 x4 x5 x6 => k_X6_outputOf_53 ?_)
      rw [nI_1]
      have oc2 := x1.outc ⟨o1, o2, o3, o4, o5, o6, o7⟩ x3 x4
      refine sp_out19 hv ht m (i + 1) J H (by omega) oc2 (fun u hu bu => ?_) (fun K H2 y1 y2 y3 y4 => ?_)
      · by_cases e : u = i
        · rw [e]; exact x5
        · obtain ⟨kh, z1, z2⟩ := hk u (by omega) bu
          exact ⟨kh, (x6 u e).trans z1, z2⟩
      · have := q K H2 (x1.trans y1) (x2.trans y2) y3 y4
        rw [x1.oi]
        exact this
/-- the class's output -/
theorem sp_outputOf {t : Nat} (hv : v < c) (ht : t < 201) (oc : OutC I L F c) (q : ∀ J H, OIF I J → OFF F H → OutC J L H c → Kept J v t → Q (.inl (some (.float (OI I v t)))) (G X J L H)) : WP mX6_outputOf 0 (am_ent 4 [.ref 9, .int (nI v), .int (nI t)]) [] (G X I L F) 0 0 Q := by
  refine k_X6_outputOf_0 ⟨fun n => absurd n (by rw [has_lt oc.1 oc.2.1 hv]; decide), fun _ => ⟨fun n => absurd n (by rw [isHour_nI ht]; decide), fun _ => ?_⟩⟩
  exact sp_out19 hv ht (v + 1) 0 I F (by omega) oc (fun u hu => by omega) q
/-- all that is kept of a version and what it rests on is forgotten -/
theorem sp_forget11 (hv : v < c) : ∀ (m i : Nat) (I : Nat → Nat → Int32), i + m = v + 1 → OutC I L F c → (∀ J, OIF I J → OutC J L F c → Q (.inl none) (G X J L F)) →
    WP mX6_forget 11 [some (.ref 9), some (.int (nI v)), some (.int (nI i))] [] (G X I L F) 0 0 Q
  | 0, i, I, hi, oc, q => by
    have hc := oc.1
    exact k_X6_forget_11 ⟨fun _ => q I OIF.refl oc, fun n => absurd ((nI_ltI (a := v) (b := i) (by omega) (by omega)).mpr (by omega)) n⟩
  | m + 1, i, I, hi, oc, q => by
    have hc := oc.1
    have cv : (nI v).toNatClampNeg = v := nI_clamp (by omega)
    have ci : (nI i).toNatClampNeg = i := nI_clamp (by omega)
    refine k_X6_forget_11 ⟨fun n => absurd ((nI_ltI (a := v) (b := i) (by omega) (by omega)).mp n) (by omega), fun _ => ⟨nI_in (by omega) (by decide), fun _ => ⟨nI_in (by omega) (by decide), trivial⟩, fun I2 e => ?_⟩⟩
    rw [nI_1]
    have oif : OIF I I2 := by
      rw [e]
      split
      · exact OIF.refl
      · rw [ci]
        intro o k n1 n2
        exact if_neg (fun z => n2 ⟨i, by omega, z.1, z.2, by rw [oc.2.1]; exact (nI_ltI (by omega) (by omega)).mpr (by omega)⟩)
    have oc2 : OC I2 F c := by
      rw [e]
      split
      · exact oc.2.2.2.2.2.1
      · rename_i nb
        rw [ci]
        have oi : OI (am_u I (19 + 6 * i) 6 0) = OI I := by
          rw [e, if_neg nb, ci] at oif
          exact oif.oi
        intro u hu
        obtain ⟨kh, f1, f2, f3⟩ := oc.2.2.2.2.2.1 u hu
        by_cases ui : u = i
        · rw [ui]
          exact ⟨0, by omega, am_u_eq, fun s hs => by omega⟩
        · refine ⟨kh, f1, by rw [am_u_ne (Or.inl (by omega))]; exact f2, fun s hs => ?_⟩
          rw [oi]; exact f3 s hs
    exact sp_forget11 hv m (i + 1) I2 (by omega) (oif.outc oc oc2 oc.2.2.2.2.2.2) (fun J j1 j2 => q J (oif.trans j1) j2)
theorem sp_forget (hv : v < c) (oc : OutC I L F c) (q : ∀ J, OIF I J → OutC J L F c → Q (.inl none) (G X J L F)) : WP mX6_forget 0 (am_ent 3 [.ref 9, .int (nI v)]) [] (G X I L F) 0 0 Q :=
  k_X6_forget_0 ⟨fun n => absurd n (by rw [has_lt oc.1 oc.2.1 hv]; decide), fun _ => sp_forget11 hv (v + 1) 0 I (by omega) oc q⟩
end OP
