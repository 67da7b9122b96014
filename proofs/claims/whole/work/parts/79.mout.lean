/-! own: the model's outputs -/
set_option maxRecDepth 100000
def OutM (I : Nat → Nat → Int32) (F : Nat → Nat → UInt32) (c : Nat) : Prop := c ≤ 60 ∧ VM I c ∧ OM I F c
section MU
variable {X : Nat × (Nat → Int32)} {L : Nat → Nat → Int64} {Q : AQ} {c v h : Nat}
theorem sp_finds12 {n : Nat} (hc : c ≤ 60) (hv : v < c) (hh : h < 201) : ∀ (m i : Nat) (I : Nat → Nat → Int32) (F : Nat → Nat → UInt32), i + m = n → I 498 46 = nI n → n ≤ 40 → n = (vT (I 502) (I 503) v).length → VM I c → (∀ k, k < i → I 537 k = I 503 (40 * v + k)) →
    (∀ u, u < v → (∃ k, k < 6 ∧ I 504 (6 * v + k) = nI u) → ∀ t, t ≤ h → F 509 (201 * u + t) = OI I u t) → (∀ t, t < h → F 509 (201 * v + t) = OI I v t) →
    (∀ J H, MOI I J → MOF F H → J 510 v = nI (h + 1) → (∀ u, u ≠ v → J 510 u = I 510 u) → H 509 (201 * v + h) = OI I v h → (∀ i, i ≠ 201 * v + h → H 509 i = F 509 i) → Q (.inl none) (G X J L H)) →
    WP mX10_finds 12 [some (.ref 498), some (.int (nI v)), some (.int (nI h)), some (.int (nI i))] [] (G X I L F) 0 0 Q
  | 0, i, I, F, hi, e46, h40, hl, wm, cp, hk, ho, q => by
    have e : i = n := by omega
    subst e
    obtain ⟨tx, e502, po, pn⟩ := wm v hv
    have cl : (I 502 v).toNatClampNeg = i := by rw [e502, ← hl, nI_clamp (by omega)]
    have sg : seg (I 537) 0 i = vT (I 502) (I 503) v := by
      unfold vT
      rw [cl]
      exact seg_cong i 0 (40 * v) (fun k hk => by rw [Nat.zero_add]; exact cp k hk)
    obtain ⟨_, R, hr, hg⟩ := tx
    have fe := form_eq hr
    have env := env_ok (by omega) hh po pn hk ho
    rw [fe] at env
    refine k_X10_finds_12 ⟨fun _ => ?_, fun c => absurd (by rw [e46]; exact Int32.le_refl _) c⟩
    refine sp_worth (rule := 0) (R := R) e46 h40 (by rw [sg]; exact hr) hg (Or.inl ⟨rfl, nI_m1 (by omega)⟩) env (fun J H i1 i2 => k_X10_finds_60 ?_)
    have val : hdF (evalR (envO (I 504) (I 507) (prevO (I 502) (I 503) (I 504) (I 507) h) (rowO (I 502) (I 503) (I 504) (I 507) h) v h) (rF (rFin R))) = OI I v h := by
      rw [← fe]
      exact (OO_eq (by omega) po ((wm v hv).1.slots (Or.inl rfl))).symm
    rw [val, show (201 : Int32) = nI 201 from rfl, nI_mul, nI_add, nI_clamp (show 201 * v + h < 2 ^ 31 by omega), nI_clamp (show v < 2 ^ 31 by omega), nI_1]
    refine ⟨nI_in (by omega) (by decide), nI_in (by omega) (by decide), q _ _ ?_ ?_ am_u_eq (fun u hu => ?_) am_u_eq (fun k hk => ?_)⟩
    · exact i1.moi.trans (fun o k a b d e => am_u_ne (Or.inl e))
    · exact i2.mof.trans (fun o k a b => am_u_ne (Or.inl b))
    · rw [am_u_ne (Or.inr hu)]; exact i1 510 u (by omega) (by decide)
    · rw [am_u_ne (Or.inr hk)]; exact i2 509 k (by decide)
  | m + 1, i, I, F, hi, e46, h40, hl, wm, cp, hk, ho, q => by
    have ci : (nI i).toNatClampNeg = i := nI_clamp (by omega)
    refine k_X10_finds_12 ⟨fun c => absurd ((nI_leI (a := n) (b := i) (by omega) (by omega)).mp (by rw [← e46]; exact c)) (by omega), fun _ => ?_⟩
    rw [show (40 : Int32) = nI 40 from rfl, nI_mul, nI_add, nI_clamp (show 40 * v + i < 2 ^ 31 by omega), ci, nI_1]
    refine ⟨nI_in (by omega) (by decide), nI_in (by omega) (by decide), ?_⟩
    have mo : MOI I (am_u I 537 i (I 503 (40 * v + i))) := fun o k a b d e => am_u_ne (Or.inl b)
    have eo := mo.oi
    refine sp_finds12 hc hv hh m (i + 1) _ F (by omega) (by rw [am_u_ne (by omega)]; exact e46) h40 ?_ (mo.vm wm) (fun k hk => ?_) (fun u hu hx t ht => ?_) (fun t ht => ?_) (fun J H a1 a2 a3 a4 a5 a6 => q J H (mo.trans a1) a2 a3 (fun u hu => (a4 u hu).trans (am_u_ne (by omega))) (by rw [eo] at a5; exact a5) a6)
    · rw [mo.row (o := 502) (by decide) (by decide) (by decide) (by decide), mo.row (o := 503) (by decide) (by decide) (by decide) (by decide)]; exact hl
    · by_cases z : k = i
      · rw [z, am_u_eq, am_u_ne (by omega)]
      · rw [am_u_ne (by omega), am_u_ne (by omega)]; exact cp k (by omega)
    · rw [eo]
      obtain ⟨k, k6, ek⟩ := hx
      rw [am_u_ne (by omega)] at ek
      exact hk u hu ⟨k, k6, ek⟩ t ht
    · rw [eo]; exact ho t ht
theorem sp_finds {I : Nat → Nat → Int32} {F : Nat → Nat → UInt32} (hc : c ≤ 60) (hv : v < c) (hh : h < 201) (vm : VM I c) (hk : ∀ u, u < v → (∃ k, k < 6 ∧ I 504 (6 * v + k) = nI u) → ∀ t, t ≤ h → F 509 (201 * u + t) = OI I u t) (ho : ∀ t, t < h → F 509 (201 * v + t) = OI I v t)
    (q : ∀ J H, MOI I J → MOF F H → J 510 v = nI (h + 1) → (∀ u, u ≠ v → J 510 u = I 510 u) → H 509 (201 * v + h) = OI I v h → (∀ i, i ≠ 201 * v + h → H 509 i = F 509 i) → Q (.inl none) (G X J L H)) :
    WP mX10_finds 0 (am_ent 4 [.ref 498, .int (nI v), .int (nI h)]) [] (G X I L F) 0 0 Q := by
  refine k_X10_finds_0 ⟨nI_in (by omega) (by decide), ?_⟩
  rw [nI_clamp (show v < 2 ^ 31 by omega)]
  have mo : MOI I (am_u I 498 46 (I 502 v)) := fun o k a b d e => if_neg (fun z => a ⟨z.1, Or.inl z.2⟩)
  have eo := mo.oi
  refine sp_finds12 (n := (vT (I 502) (I 503) v).length) hc hv hh _ 0 _ F (Nat.zero_add _) (by rw [am_u_eq]; exact (vm v hv).2.1) (vm v hv).1.1 ?_ (mo.vm vm) (fun k hk => by omega) (fun u hu hx t ht => ?_) (fun t ht => ?_) (fun J H a1 a2 a3 a4 a5 a6 => q J H (mo.trans a1) a2 a3 (fun u hu => (a4 u hu).trans (am_u_ne (by omega))) (by rw [eo] at a5; exact a5) a6)
  · rw [mo.row (o := 502) (by decide) (by decide) (by decide) (by decide), mo.row (o := 503) (by decide) (by decide) (by decide) (by decide)]
  · rw [eo]
    obtain ⟨k, k6, ek⟩ := hx
    rw [am_u_ne (by omega)] at ek
    exact hk u hu ⟨k, k6, ek⟩ t ht
  · rw [eo]; exact ho t ht
/-- known as far as behind the hour t -/
def Kn (I : Nat → Nat → Int32) (u t : Nat) : Prop := ∃ kn : Nat, I 510 u = nI kn ∧ t ≤ kn ∧ kn ≤ 201
theorem kn_val {I : Nat → Nat → Int32} {F : Nat → Nat → UInt32} (om : OM I F c) (hv : v < c) {t : Nat} (k : Kn I v t) : ∀ s, s < t → F 509 (201 * v + s) = OI I v s := by
  obtain ⟨kn, e1, e2, e4⟩ := k
  obtain ⟨kn2, f1, f2, f3⟩ := om v hv
  have e3 : kn = kn2 := (nI_eq (by omega) (by omega)).mp (e1.symm.trans f2)
  intro s hs
  exact f3 s (by omega)
theorem lg0 {x : Int64} (h : lg_cmp x 0 = 0) : x = 0 := by
  unfold lg_cmp at h
  split at h
  · exact absurd h (by decide)
  · split at h
    · assumption
    · exact absurd h (by decide)
theorem sp_mo38 {S : Int64} {p : Nat → Int32} (hv : v < c) (hh : h < 201) (hS : ∀ u, lb S u = true ↔ Rch p v u) {t : Nat} (ht : t ≤ h)
    (next : ∀ I F d6, OutM I F c → I 504 = p → (∀ u, u ≤ v → lb S u = true → Kn I u (t + 1)) → ∀ (I0 : Nat → Nat → Int32) (F0 : Nat → Nat → UInt32), MOI I0 I → MOF F0 F → (∀ J H, MOI I0 J → MOF F0 H → OutM J H c → Q (.inl (some (.float (OI I0 v h)))) (G X J L H)) → WP mX10_outOf 23 [some (.ref 498), some (.int (nI v)), some (.int (nI h)), some (.long S), none, some (.int (nI t + 1)), d6] [] (G X I L F) 0 0 Q) :
    ∀ (m k : Nat) (I : Nat → Nat → Int32) (F : Nat → Nat → UInt32), k + m = v + 1 → OutM I F c → I 504 = p → (∀ u, u ≤ v → lb S u = true → Kn I u t) → (∀ u, u < k → lb S u = true → Kn I u (t + 1)) →
      (∀ J H, MOI I J → MOF F H → OutM J H c → Q (.inl (some (.float (OI I v h)))) (G X J L H)) →
      WP mX10_outOf 38 [some (.ref 498), some (.int (nI v)), some (.int (nI h)), some (.long S), none, some (.int (nI t)), some (.int (nI k))] [] (G X I L F) 0 0 Q
  | 0, k, I, F, hk, om, hp, h1, h2, q => by
    have hc := om.1
    exact k_X10_outOf_38 ⟨fun _ => next I F _ om hp (fun u hu b => h2 u (by omega) b) I F MOI.refl MOF.refl q, fun n => absurd ((nI_ltI (a := v) (b := k) (by omega) (by omega)).mpr (by omega)) n⟩
  | m + 1, k, I, F, hk, om, hp, h1, h2, q => by
    have hc := om.1
    have ck : (nI k).toNatClampNeg = k := nI_clamp (by omega)
    have skip : (lb S k = true → Kn I k (t + 1)) → WP mX10_outOf 75 [some (.ref 498), some (.int (nI v)), some (.int (nI h)), some (.long S), none, some (.int (nI t)), some (.int (nI k))] [] (G X I L F) 0 0 Q := fun hx => k_X10_outOf_75 (by
      rw [nI_1]
      exact sp_mo38 hv hh hS ht next m (k + 1) I F (by omega) om hp h1 (fun u hu b => by
        by_cases e : u = k
        · rw [e] at b ⊢; exact hx b
        · exact h2 u (by omega) b) q)
    refine k_X10_outOf_38 ⟨fun n => absurd ((nI_ltI (a := v) (b := k) (by omega) (by omega)).mp n) (by omega), fun _ => ?_⟩
    rw [lc_1 (show k < 64 by omega), ck]
    refine ⟨fun b => ⟨nI_in (by omega) (by decide), fun e => ?_, fun e => ?_⟩, fun b => skip (fun z => absurd z b)⟩
    · have rk := (hS k).mp b
      have vm := om.2.1
      refine sp_finds hc (show k < c by omega) (show t < 201 by omega) vm (fun u hu ⟨j, j6, ej⟩ s hs => kn_val om.2.2 (show u < c by omega) (h2 u hu ((hS u).mpr (rk.snoc (by omega) j6 (by rw [← hp]; exact ej) hu))) s (by omega)) (fun s hs => kn_val om.2.2 (show k < c by omega) (h1 k (by omega) b) s hs) (fun J H a1 a2 a3 a4 a5 a6 => k_X10_outOf_75 ?_)
      rw [nI_1]
      have eo := a1.oi
      have om2 : OutM J H c := by
        refine ⟨hc, a1.vm vm, fun u hu => ?_⟩
        by_cases uk : u = k
        · subst uk
          refine ⟨t + 1, by omega, a3, fun s hs => ?_⟩
          rw [eo]
          by_cases z : s = t
          · rw [z]; exact a5
          · rw [a6 _ (by omega)]
            exact kn_val om.2.2 (show u < c by omega) (h1 u (by omega) b) s (by omega)
        · obtain ⟨kn, f1, f2, f3⟩ := om.2.2 u hu
          refine ⟨kn, f1, (a4 u uk).trans f2, fun s hs => ?_⟩
          rw [eo, a6 _ (by omega)]
          exact f3 s hs
      have kn2 : ∀ u w, u ≤ v → lb S u = true → u ≠ k → Kn I u w → Kn J u w := fun u w hu b2 n ⟨kn, z1, z2⟩ => ⟨kn, (a4 u n).trans z1, z2⟩
      refine sp_mo38 hv hh hS ht next m (k + 1) J H (by omega) om2 ((a1.row (o := 504) (by decide) (by decide) (by decide) (by decide)).trans hp) (fun u hu b2 => ?_) (fun u hu b2 => ?_) (fun J2 H2 y1 y2 y3 => ?_)
      · by_cases e2 : u = k
        · rw [e2]; exact ⟨t + 1, a3, by omega, by omega⟩
        · exact kn2 u t hu b2 e2 (h1 u hu b2)
      · by_cases e2 : u = k
        · rw [e2]; exact ⟨t + 1, a3, by omega, by omega⟩
        · exact kn2 u (t + 1) (by omega) b2 e2 (h2 u (by omega) b2)
      · rw [eo]
        exact q J2 H2 (a1.trans y1) (a2.trans y2) y3
    · obtain ⟨kn, z1, z2, z3⟩ := h1 k (by omega) b
      refine skip (fun _ => ⟨kn, z1, ?_, z3⟩)
      have : kn ≠ t := fun z => e (by rw [z1, z])
      omega
theorem sp_mo23 {S : Int64} {p : Nat → Int32} (hv : v < c) (hh : h < 201) (hS : ∀ u, lb S u = true ↔ Rch p v u) : ∀ (m t : Nat) (I : Nat → Nat → Int32) (F : Nat → Nat → UInt32) (d6 : Option Value), t + m = h + 1 → OutM I F c → I 504 = p → (∀ u, u ≤ v → lb S u = true → Kn I u t) →
    (∀ J H, MOI I J → MOF F H → OutM J H c → Q (.inl (some (.float (OI I v h)))) (G X J L H)) →
    WP mX10_outOf 23 [some (.ref 498), some (.int (nI v)), some (.int (nI h)), some (.long S), none, some (.int (nI t)), d6] [] (G X I L F) 0 0 Q
  | 0, t, I, F, d6, ht, om, hp, h1, q => by
    have hc := om.1
    have bv : lb S v = true := (hS v).mpr Rch.self
    have vv := kn_val om.2.2 hv (h1 v (Nat.le_refl _) bv) h (by omega)
    refine k_X10_outOf_23 ⟨fun _ => ?_, fun n => absurd ((nI_ltI (a := h) (b := t) (by omega) (by omega)).mpr (by omega)) n⟩
    rw [show (201 : Int32) = nI 201 from rfl, nI_mul, nI_add, nI_clamp (show 201 * v + h < 2 ^ 31 by omega), vv]
    exact ⟨nI_in (by omega) (by decide), q I F MOI.refl MOF.refl om⟩
  | m + 1, t, I, F, d6, ht, om, hp, h1, q => by
    have hc := om.1
    have bv : lb S v = true := (hS v).mpr Rch.self
    refine k_X10_outOf_23 ⟨fun n => absurd ((nI_ltI (a := h) (b := t) (by omega) (by omega)).mp n) (by omega), fun _ => ⟨fun n => ?_, fun _ => ?_⟩⟩
    · rw [lg0 n, lb_0] at bv; cases bv
    · refine sp_mo38 (t := t) hv hh hS (by omega) (fun J H d6 a1 a2 a3 I0 F0 b1 b2 b3 => ?_) (v + 1) 0 I F (by omega) om hp h1 (fun u hu => by omega) q
      rw [nI_1]
      refine sp_mo23 hv hh hS m (t + 1) J H d6 (by omega) a1 a2 a3 (fun J2 H2 y1 y2 y3 => ?_)
      rw [b1.oi]
      exact b3 J2 H2 (b1.trans y1) (b2.trans y2) y3
/-- the model's output -/
theorem sp_outOf {I : Nat → Nat → Int32} {F : Nat → Nat → UInt32} (hv : v < c) (hh : h < 201) (om : OutM I F c) (q : ∀ J H, MOI I J → MOF F H → OutM J H c → Q (.inl (some (.float (OI I v h)))) (G X J L H)) : WP mX10_outOf 0 (am_ent 7 [.ref 498, .int (nI v), .int (nI h)]) [] (G X I L F) 0 0 Q := by
  have hc := om.1
  have cv : (nI v).toNatClampNeg = v := nI_clamp (by omega)
  obtain ⟨kn, f1, f2, f3⟩ := om.2.2 v hv
  refine k_X10_outOf_0 ⟨nI_in (by omega) (by decide), ?_⟩
  rw [cv, f2]
  refine ⟨fun _ => ?_, fun n => k_X10_outOf_19 ?_⟩
  · refine sp_closure (show v < 60 by omega) (fun u hu => (om.2.1 u (by omega)).2.2.1) (fun S hS => k_X10_outOf_19 ?_)
    exact sp_mo23 hv hh hS (h + 1) 0 I F _ (by omega) om rfl (fun u hu b => by
      obtain ⟨kn, g1, g2, g3⟩ := om.2.2 u (by omega)
      exact ⟨kn, g2, Nat.zero_le _, g1⟩) q
  · have lt : h < kn := by
      have := fun z => n ((nI_leI (a := kn) (b := h) (by omega) (by omega)).mpr z)
      exact Nat.lt_of_not_le this
    have fin2 : vp_in ((201 * nI v) + nI h) 12060 ∧ (Q (.inl (some (.float (F 509 (Int32.toNatClampNeg ((201 * nI v) + nI h)))))) (G X I L F)) := by
      rw [show (201 : Int32) = nI 201 from rfl, nI_mul, nI_add, nI_clamp (show 201 * v + h < 2 ^ 31 by omega), f3 h lt]
      exact ⟨nI_in (by omega) (by decide), q I F MOI.refl MOF.refl om⟩
    exact k_X10_outOf_23 ⟨fun _ => fin2, fun _ => ⟨fun _ => fin2, fun n => absurd (by decide) n⟩⟩
end MU
