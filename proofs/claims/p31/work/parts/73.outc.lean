/-! own: the class's outputs -/
set_option maxRecDepth 100000
section OU
variable {X : Nat × (Nat × (Nat → Int32))} {I J K : Nat → Nat → Int32} {L : Nat → Nat → Int64} {F H H2 : Nat → Nat → UInt32} {Q : AQ} {c v h : Nat}
/-- the version u is kept as far as the hour t -/
def Kept (I : Nat → Nat → Int32) (u t : Nat) : Prop := ∃ kh : Nat, I (19 + 6 * u) 6 = nI kh ∧ t < kh ∧ kh ≤ 201
theorem kept_val (oc : OC I F c) (hv : v < c) {t : Nat} (k : Kept I v t) : ∀ s, s ≤ t → F (19 + 6 * v + 5) s = OI I v s := by
  obtain ⟨kh, e1, e2, e4⟩ := k
  obtain ⟨kh2, f1, f2, f3⟩ := oc v hv
  have e3 : kh = kh2 := (nI_eq (by omega) (by omega)).mp (e1.symm.trans f2)
  intro s hs
  exact f3 s (by omega)
theorem sp_fill14 {t : Nat} (hc : c ≤ 60) (hvc : v < c) (ht : t < 201) : ∀ (m h : Nat) (I : Nat → Nat → Int32) (F : Nat → Nat → UInt32) (d5 d6 d7 : Option Value), (h + m = 201 ∧ I (19 + 6 * v) 6 = nI h) → I 9 4 = nI c → VC I c → RC I → OC I F c → NF F → (∀ u, u < v → (∃ k, k < 6 ∧ I 1000504 (6 * v + k) = nI u) → Kept I u t) →
    (∀ J H, OIF I J → OFF F H → OC J H c → NF H → Kept J v t → (∀ u, u ≠ v → J (19 + 6 * u) 6 = I (19 + 6 * u) 6) → Q (.inl none) (G X J L H)) →
    WP mX6_fill 14 [some (.ref 9), some (.ref (19 + 6 * v)), some (.int (nI t)), some (.ref 11), some (.int (nI h)), d5, d6, d7] [] (G X I L F) 0 0 Q
  | 0, h, I, F, d5, d6, d7, ⟨hh, e6⟩, h9, vc, rc, oc, nf, hk, q => by
    have hv : isVer (19 + 6 * v) := gi_verN (by omega)
    have e : h = 201 := by omega
    refine k_X6_fill_14 hv ⟨fun n => absurd n (nI_pos (by omega)), fun _ => ⟨fun n => q I F OIF.refl OFF.refl oc nf ⟨h, e6, by omega, by omega⟩ (fun _ _ => rfl), fun n => absurd ((nI_ltI (a := t) (b := h) (by omega) (by omega)).mpr (by omega)) n⟩⟩
  | m + 1, h, I, F, d5, d6, d7, ⟨hh, e6⟩, h9, vc, rc, oc, nf, hk, q => by
    have hv : isVer (19 + 6 * v) := gi_verN (by omega)
    obtain ⟨tx, fc, po, pp⟩ := vc v hvc
    refine k_X6_fill_14 hv ⟨fun n => absurd n (nI_pos (by omega)), fun _ => ⟨fun n => ?_, fun n => ⟨fun n2 => absurd ((nI_leI (a := 201) (by decide) (by omega)).mp n2) (by omega), fun _ => ?_⟩⟩⟩
    · have lt := (nI_ltI (a := t) (b := h) (by omega) (by omega)).mp n
      exact q I F OIF.refl OFF.refl oc nf ⟨h, e6, lt, by omega⟩ (fun _ _ => rfl)
    · have le : h ≤ t := Nat.le_of_not_lt (fun z => n ((nI_ltI (a := t) (b := h) (by omega) (by omega)).mpr z))
      have kv2 : ∀ u, u < v → (∃ k, k < 6 ∧ I 1000504 (6 * v + k) = nI u) → ∀ s, s ≤ h → F (19 + 6 * u + 5) s = OI I u s := fun u hu hx s hs => kept_val oc (by omega) (hk u hu hx) s (by omega)
      refine sp_fill36 (h := h) hv (by omega) 3 0 F _ _ rfl nf (fun H1 a1 a2 a3 n1 => ?_)
      refine sp_fill68 (h := h) hc h9 hvc vc (by omega) kv2 6 0 H1 _ _ rfl n1 a1 (fun H2 d6 d7 b1 b2 b3 b4 n2 => ?_)
      have le0 : nI h ≤ 0 ↔ h = 0 := nI_le0 (by omega)
      have ch : (nI h).toNatClampNeg = h := nI_clamp (by omega)
      have hin1 : ¬ nI h ≤ 0 → vp_in (nI h - 1) 201 ∧ (nI h - 1).toNatClampNeg = h - 1 := fun n => by
        have h1 : h ≠ 0 := fun z => n (le0.mpr z)
        have e : nI h - 1 = nI (h - 1) := by
          have := nI_pred (h - 1)
          rw [show h - 1 + 1 = h by omega] at this
          exact this
        rw [e]
        exact ⟨nI_in (by omega) (by decide), nI_clamp (by omega)⟩
      refine k_X6_fill_68 hv ⟨fun _ => ⟨fun n => ⟨(hin1 n).1, trivial⟩, fun s167 e167 => ?_⟩, fun n => absurd (by decide) n⟩
      have v167 : s167 = if h = 0 then 0 else OI I v (h - 1) := by
        rw [e167]
        by_cases z : h = 0
        · rw [if_pos (le0.mpr z), if_pos z]
        · rw [if_neg (fun n => z (le0.mp n)), if_neg z, (hin1 (fun n => z (le0.mp n))).2, b1 _ _ (by omega)]
          obtain ⟨kh, f1, f2, f3⟩ := oc v hvc
          have : kh = h := (nI_eq (by omega) (by omega)).mp (f2.symm.trans e6)
          exact f3 (h - 1) (by omega)
      have f167 : fin s167 := by
        rw [v167]
        split
        · exact kv_0.fin
        · exact OO_kv.fin
      have nf3 : NF (am_u (am_u H2 11 15 s167) 11 16 (FP.i2f (nI h))) := fun j hj => by
        by_cases z : j = 16
        · rw [z, am_u_eq]; exact fin_i2f _
        · rw [am_u_ne (Or.inr z)]
          by_cases y : j = 15
          · rw [y, am_u_eq]; exact f167
          · rw [am_u_ne (Or.inr y)]; exact n2 j hj
      refine sp_workOut (o := 19 + 6 * v + 1) hv.2.2.2.2.1 tx.len fc.1 fc.2.1 nf3 (fun J1 F4 i1 g1 => ?_)
      have val : hdF (evalR ((am_u (am_u H2 11 15 s167) 11 16 (FP.i2f (nI h))) 11) (rF (rForm 0 (vT (I 1000502) (I 1000503) v)))) = OI I v h := by
        unfold OI
        rw [OO_eq (by omega) po (tx.slots (Or.inl rfl))]
        congr 1
        refine evalR_cong (rule := 0) (fun s hs => ?_) _ (tx.slots (Or.inl rfl))
        rcases hs with ⟨_, j, e, hj⟩ | ⟨n, _⟩
        · rw [e, ename_nI (by omega), ename_nI (by omega)]
          unfold envO
          by_cases j3 : j < 3
          · rw [if_pos j3, am_u_ne (Or.inr (by omega)), am_u_ne (Or.inr (by omega)), b2 j (by omega), a3 j (by omega) j3, rc j j3 h (by omega)]
          rw [if_neg j3]
          by_cases j9 : j < 9
          · have b := (b4 (j - 3) (by omega) (by omega)).1
            rw [show 3 + (j - 3) = j by omega] at b
            rw [if_pos j9, am_u_ne (Or.inr (by omega)), am_u_ne (Or.inr (by omega)), b]
            rfl
          rw [if_neg j9]
          by_cases j15 : j < 15
          · have b := (b4 (j - 9) (by omega) (by omega)).2
            rw [show 9 + (j - 9) = j by omega] at b
            rw [if_pos j15, am_u_ne (Or.inr (by omega)), am_u_ne (Or.inr (by omega)), b]
            cases h with
            | zero => rfl
            | succ h => rfl
          rw [if_neg j15]
          by_cases je : j = 15
          · rw [if_pos je, je, am_u_ne (Or.inr (by omega)), am_u_eq, v167]
            cases h with
            | zero => rfl
            | succ h => rfl
          · have j16 : j = 16 := by omega
            rw [if_neg je, if_pos j16, j16, am_u_eq]
        · exact absurd n (by decide)
      rw [val]
      refine k_X6_fill_208 hv hv.2.2.2.2.2.2 ⟨nI_in (by omega) (by decide), ?_⟩
      rw [ch, nI_1]
      have oif : OIF I (am_u J1 (19 + 6 * v) 6 (nI (h + 1))) := fun o k n m => by
        have : ¬ (o = 19 + 6 * v ∧ k = 6) := fun z => m ⟨v, by omega, z.1, z.2, by rw [h9]; exact (nI_ltI (by omega) (by omega)).mpr hvc⟩
        rw [show am_u J1 (19 + 6 * v) 6 (nI (h + 1)) o k = J1 o k from if_neg this]
        exact i1 o k n
      have offr : OFF F (am_u F4 (19 + 6 * v + 5) h (OI I v h)) := fun o k n m l => by
        rw [am_u_ne (Or.inl (fun z => l ⟨v, by omega, z⟩)), g1 o k m, am_u_ne (Or.inl n), am_u_ne (Or.inl n)]
        exact b1 o k n
      have same6 : ∀ u, u ≠ v → (am_u J1 (19 + 6 * v) 6 (nI (h + 1))) (19 + 6 * u) 6 = I (19 + 6 * u) 6 := fun u hu => by
        rw [am_u_ne (Or.inl (by omega))]; exact i1 _ _ (by omega)
      have eoi := oif.oi
      have oc2 : OC (am_u J1 (19 + 6 * v) 6 (nI (h + 1))) (am_u F4 (19 + 6 * v + 5) h (OI I v h)) c := by
        intro u hu
        obtain ⟨kh, f1, f2, f3⟩ := oc u hu
        by_cases uv : u = v
        · subst uv
          have kk : kh = h := (nI_eq (by omega) (by omega)).mp (f2.symm.trans e6)
          refine ⟨h + 1, by omega, am_u_eq, fun s hs => ?_⟩
          rw [eoi]
          by_cases z : s = h
          · rw [z, am_u_eq]
          · rw [am_u_ne (Or.inr z), g1 _ _ (by omega), am_u_ne (Or.inl (by omega)), am_u_ne (Or.inl (by omega)), b1 _ _ (by omega)]
            exact f3 s (by omega)
        · refine ⟨kh, f1, (same6 u uv).trans f2, fun s hs => ?_⟩
          rw [eoi, am_u_ne (Or.inl (by omega)), g1 _ _ (by omega), am_u_ne (Or.inl (by omega)), am_u_ne (Or.inl (by omega)), b1 _ _ (by omega)]
          exact f3 s hs
      have nf2 : NF (am_u F4 (19 + 6 * v + 5) h (OI I v h)) := fun j hj => by
        rw [am_u_ne (Or.inl (by omega)), g1 11 j (by decide)]; exact nf3 j hj
      refine sp_fill14 hc hvc ht m (h + 1) _ _ _ _ _ ⟨by omega, am_u_eq⟩ (oif.cnt.trans h9) (oif.vc hc vc) (oif.rc rc) oc2 nf2 (fun u hu hx => ?_) (fun J H x1 x2 x3 x4 x5 x6 => q J H (oif.trans x1) (offr.trans x2) x3 x4 x5 (fun u hu => (x6 u hu).trans (same6 u hu)))
      obtain ⟨k, hk6, ek⟩ := hx
      rw [congrFun (oif.big (o := 1000504) (by decide)) _] at ek
      obtain ⟨kh, y1, y2, y3⟩ := hk u hu ⟨k, hk6, ek⟩
      exact ⟨kh, (same6 u (by omega)).trans y1, y2, y3⟩
theorem sp_fill {t : Nat} (hc : c ≤ 60) (hvc : v < c) (ht : t < 201) (h9 : I 9 4 = nI c) (vc : VC I c) (rc : RC I) (oc : OC I F c) (nf : NF F) (hk : ∀ u, u < v → (∃ k, k < 6 ∧ I 1000504 (6 * v + k) = nI u) → Kept I u t)
    (q : ∀ J H, OIF I J → OFF F H → OC J H c → NF H → Kept J v t → (∀ u, u ≠ v → J (19 + 6 * u) 6 = I (19 + 6 * u) 6) → Q (.inl none) (G X J L H)) :
    WP mX6_fill 0 (am_ent 8 [.ref 9, .ref (19 + 6 * v), .int (nI t)]) [] (G X I L F) 0 0 Q := by
  have hv : isVer (19 + 6 * v) := gi_verN (by omega)
  obtain ⟨kh, f1, f2, f3⟩ := oc v hvc
  refine k_X6_fill_0 hv ?_
  rw [f2]
  exact sp_fill14 hc hvc ht (201 - kh) kh I F _ _ _ ⟨by omega, f2⟩ h9 vc rc oc nf hk q
end OU
