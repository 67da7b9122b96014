/-! own: the model finds an output -/
set_option maxRecDepth 100000
def PinNamed (I : Nat → Nat → Int32) (v : Nat) : Prop := ∀ j, j < 6 → ((1, nI (3 + j)) ∈ rF (rForm 0 (vT (I 502) (I 503) v)) ∨ (1, nI (9 + j)) ∈ rF (rForm 0 (vT (I 502) (I 503) v))) → I 504 (6 * v + j) ≠ -1
def VM (I : Nat → Nat → Int32) (c : Nat) : Prop := ∀ v, v < c → Txt 0 (vT (I 502) (I 503) v) ∧ I 502 v = nI (vT (I 502) (I 503) v).length ∧ PinsOk (I 504) v ∧ PinNamed I v
def OM (I : Nat → Nat → Int32) (F : Nat → Nat → UInt32) (c : Nat) : Prop := ∀ v, v < c → ∃ kn, kn ≤ 201 ∧ I 510 v = nI kn ∧ ∀ h, h < kn → F 509 (201 * v + h) = OI I v h
def MOI (I J : Nat → Nat → Int32) : Prop := ∀ o k, ¬ (o = 498 ∧ (k = 46 ∨ k = 48 ∨ k = 50)) → o ≠ 537 → o ≠ 539 → o ≠ 510 → J o k = I o k
def MOF (F H : Nat → Nat → UInt32) : Prop := ∀ o k, o ≠ 538 → o ≠ 509 → H o k = F o k
section MF2
variable {X : Nat × (Nat → Int32)} {I J K : Nat → Nat → Int32} {L : Nat → Nat → Int64} {F H H2 : Nat → Nat → UInt32} {Q : AQ} {c v h : Nat}
theorem MOI.refl : MOI I I := fun _ _ _ _ _ _ => rfl
theorem MOF.refl : MOF F F := fun _ _ _ _ => rfl
theorem MOI.trans (h1 : MOI I J) (h2 : MOI J K) : MOI I K := fun o k a b c d => (h2 o k a b c d).trans (h1 o k a b c d)
theorem MOF.trans (h1 : MOF F H) (h2 : MOF H H2) : MOF F H2 := fun o k a b => (h2 o k a b).trans (h1 o k a b)
theorem MOI.row (h : MOI I J) {o : Nat} (h1 : o ≠ 498) (h2 : o ≠ 537) (h3 : o ≠ 539) (h4 : o ≠ 510) : J o = I o := funext fun k => h o k (fun n => h1 n.1) h2 h3 h4
theorem MOI.oi (h : MOI I J) : OI J = OI I := OI_cong (h.row (by decide) (by decide) (by decide) (by decide)) (h.row (by decide) (by decide) (by decide) (by decide)) (h.row (by decide) (by decide) (by decide) (by decide)) (h.row (by decide) (by decide) (by decide) (by decide))
theorem MOI.vm (h : MOI I J) (z : VM I c) : VM J c := by
  intro v hv
  have z := z v hv
  unfold PinNamed at z ⊢
  rw [h.row (o := 502) (by decide) (by decide) (by decide) (by decide), h.row (o := 503) (by decide) (by decide) (by decide) (by decide), h.row (o := 504) (by decide) (by decide) (by decide) (by decide)]
  exact z
theorem MIF.moi (h : MIF I J) : MOI I J := fun o k a _ c _ => h o k (fun n => a ⟨n.1, by rcases n.2 with e | e; exact Or.inr (Or.inl e); exact Or.inr (Or.inr e)⟩) c
theorem MFF.mof (h : MFF F H) : MOF F H := fun o k a _ => h o k a
theorem nI_mul (a b : Nat) : nI a * nI b = nI (a * b) := (Int32.ofNat_mul a b).symm
section NMD
variable {ver hour fig : Int32}
theorem fn_104 (nv : ¬ ver = -1) : f_X10_named ver hour 104 fig J H = FP.i2f hour := by
  unfold f_X10_named
  simp only [if_true, if_neg nv, if_pos (show (104 : Int32) = 104 from rfl)]
theorem pn_104 : p_X10_named ver hour 104 fig J := ⟨fun _ n => absurd rfl n, trivial⟩
theorem fn_103 (nv : ¬ ver = -1) : f_X10_named ver hour 103 fig J H = FP.i2f (J 507 (Int32.toNatClampNeg ((201 * fig) + hour))) := by
  unfold f_X10_named
  simp only [if_true, if_neg nv, if_neg (show ¬ (103 : Int32) = 104 by decide), if_pos (show (103 : Int32) = 103 from rfl)]
theorem pn_103 (h : vp_in ((201 * fig) + hour) 603) : p_X10_named ver hour 103 fig J := ⟨fun _ _ => ⟨fun _ => ⟨h, trivial⟩, fun n => absurd rfl n⟩, trivial⟩
theorem fn_112 (nv : ¬ ver = -1) : f_X10_named ver hour 112 fig J H = if 0 ≤ hour - 1 then H 509 (Int32.toNatClampNeg (201 * ver + (hour - 1))) else 0 := by
  unfold f_X10_named
  simp only [if_true, if_neg nv, if_neg (show ¬ (112 : Int32) = 104 by decide), if_neg (show ¬ (112 : Int32) = 103 by decide), if_neg (show ¬ (112 : Int32) = 109 by decide), if_pos (show (112 : Int32) = 112 from rfl)]
theorem pn_112 (h : 0 ≤ hour - 1 → vp_in (201 * ver + (hour - 1)) 12060) : p_X10_named ver hour 112 fig J := by
  refine ⟨fun _ _ => ⟨fun n => absurd n (by decide), fun _ => ⟨fun n => absurd rfl n, fun n => ?_, trivial⟩⟩, trivial⟩
  rw [if_neg (show ¬ (112 : Int32) = 109 by decide)] at n ⊢
  rw [if_pos (show (112 : Int32) = 112 from rfl)]
  exact ⟨h n, trivial⟩
theorem fn_109 (nv : ¬ ver = -1) : f_X10_named ver hour 109 fig J H = if 0 ≤ hour then H 509 (Int32.toNatClampNeg (201 * (J 504 (Int32.toNatClampNeg ((6 * ver) + fig))) + hour)) else 0 := by
  unfold f_X10_named
  simp only [if_true, if_neg nv, if_neg (show ¬ (109 : Int32) = 104 by decide), if_neg (show ¬ (109 : Int32) = 103 by decide), if_pos (show (109 : Int32) = 109 from rfl), if_neg (show ¬ (109 : Int32) = 112 by decide)]
theorem pn_109 (h0 : vp_in ((6 * ver) + fig) 360) (h : vp_in (201 * (J 504 (Int32.toNatClampNeg ((6 * ver) + fig))) + hour) 12060) : p_X10_named ver hour 109 fig J := by
  refine ⟨fun _ _ => ⟨fun n => absurd n (by decide), fun _ => ⟨fun _ => ⟨h0, trivial⟩, fun n => ?_, trivial⟩⟩, trivial⟩
  rw [if_pos (show (109 : Int32) = 109 from rfl)] at n ⊢
  rw [if_neg (show ¬ (109 : Int32) = 112 by decide)]
  exact ⟨h, trivial⟩
theorem fn_113 (nv : ¬ ver = -1) : f_X10_named ver hour 113 fig J H = if 0 ≤ hour - 1 then H 509 (Int32.toNatClampNeg (201 * (J 504 (Int32.toNatClampNeg ((6 * ver) + fig))) + (hour - 1))) else 0 := by
  unfold f_X10_named
  simp only [if_true, if_neg nv, if_neg (show ¬ (113 : Int32) = 104 by decide), if_neg (show ¬ (113 : Int32) = 103 by decide), if_neg (show ¬ (113 : Int32) = 109 by decide), if_neg (show ¬ (113 : Int32) = 112 by decide)]
theorem pn_113 (h0 : vp_in ((6 * ver) + fig) 360) (h : 0 ≤ hour - 1 → vp_in (201 * (J 504 (Int32.toNatClampNeg ((6 * ver) + fig))) + (hour - 1)) 12060) : p_X10_named ver hour 113 fig J := by
  refine ⟨fun _ _ => ⟨fun n => absurd n (by decide), fun _ => ⟨fun _ => ⟨h0, trivial⟩, fun n => ?_, trivial⟩⟩, trivial⟩
  rw [if_neg (show ¬ (113 : Int32) = 109 by decide)] at n ⊢
  rw [if_neg (show ¬ (113 : Int32) = 112 by decide)]
  exact ⟨h n, trivial⟩
end NMD
theorem env_ok (hv : v < 60) (hh : h < 201) (po : PinsOk (I 504) v) (pn : PinNamed I v) (hk : ∀ u, u < v → (∃ k, k < 6 ∧ I 504 (6 * v + k) = nI u) → ∀ t, t ≤ h → F 509 (201 * u + t) = OI I u t) (ho : ∀ t, t < h → F 509 (201 * v + t) = OI I v t) :
    EnvOk I F (envO (I 504) (I 507) (prevO (I 502) (I 503) (I 504) (I 507) h) (rowO (I 502) (I 503) (I 504) (I 507) h) v h) 0 (nI v) (nI h) (rF (rForm 0 (vT (I 502) (I 503) v))) := by
  intro J H i1 i2 ch fig slot no mem
  have j504 : ∀ k, J 504 k = I 504 k := fun k => i1 504 k (by omega) (by omega)
  have j507 : ∀ k, J 507 k = I 507 k := fun k => i1 507 k (by omega) (by omega)
  have f509 : ∀ k, H 509 k = F 509 k := fun k => i2 509 k (by decide)
  have nv : ¬ nI v = -1 := nI_m1 (by omega)
  have hm1 : h ≠ 0 → nI h - 1 = nI (h - 1) := fun z => by
    have := nI_pred (h - 1)
    rw [show h - 1 + 1 = h by omega] at this
    exact this
  have prv : ∀ u, h ≠ 0 → prevO (I 502) (I 503) (I 504) (I 507) h u = OI I u (h - 1) := fun u z => by
    cases h with
    | zero => exact absurd rfl z
    | succ h => rfl
  have neg : h = 0 → ¬ (0 : Int32) ≤ nI h - 1 := fun z => by rw [z]; decide
  have pos : h ≠ 0 → (0 : Int32) ≤ nI h - 1 := fun z => by rw [hm1 z]; exact nI_pos' (by omega)
  have e6 : ∀ g, g < 6 → (6 * nI v + nI g).toNatClampNeg = 6 * v + g ∧ vp_in (6 * nI v + nI g) 360 := fun g g6 => by
    rw [show (6 : Int32) = nI 6 from rfl, nI_mul, nI_add, nI_clamp (by omega)]
    exact ⟨rfl, nI_in (by omega) (by decide)⟩
  have e201 : ∀ u t, u < 60 → t < 201 → (201 * nI u + nI t).toNatClampNeg = 201 * u + t ∧ vp_in (201 * nI u + nI t) 12060 := fun u t hu ht => by
    rw [show (201 : Int32) = nI 201 from rfl, nI_mul, nI_add, nI_clamp (by omega)]
    exact ⟨rfl, nI_in (by omega) (by decide)⟩
  rcases no with ⟨a, b, d⟩ | ⟨_, a, b, d⟩ | ⟨r, _⟩ | ⟨_, ge, no⟩
  · subst a b d
    refine ⟨pn_104, ?_, ?_⟩
    · rw [fn_104 nv]; exact (fin_i2f _).nn
    · rw [fn_104 nv, show (16 : Int32) = nI 16 from rfl, ename_nI (by decide)]
      rfl
  · subst a b d
    have val : f_X10_named (nI v) (nI h) 112 0 J H = if h = 0 then 0 else OI I v (h - 1) := by
      rw [fn_112 nv]
      by_cases z : h = 0
      · rw [if_neg (neg z), if_pos z]
      · rw [if_pos (pos z), if_neg z, hm1 z, (e201 v (h - 1) hv (by omega)).1, f509, ho (h - 1) (by omega)]
    refine ⟨pn_112 (fun n => ?_), ?_, ?_⟩
    · have z : h ≠ 0 := fun z => neg z n
      rw [hm1 z]
      exact (e201 v (h - 1) hv (by omega)).2
    · rw [val]; split
      · exact nn_0
      · exact OO_kv.nn
    · rw [val, show (15 : Int32) = nI 15 from rfl, ename_nI (by decide)]
      show _ = if h = 0 then 0 else prevO (I 502) (I 503) (I 504) (I 507) h v
      by_cases z : h = 0
      · rw [if_pos z, if_pos z]
      · rw [if_neg z, if_neg z, prv v z]
  · exact absurd r (by decide)
  · obtain ⟨g, hg, eg⟩ := nI_of (Int32.not_lt.mpr ge)
    rcases no with ⟨a, lt, d⟩ | ⟨a, lt, d⟩ | ⟨a, lt, d⟩ <;> subst a eg
    · have g3 : g < 3 := (nI_ltI (b := 3) hg (by decide)).mp lt
      refine ⟨pn_103 ?_, ?_, ?_⟩
      · rw [show (201 : Int32) = nI 201 from rfl, nI_mul, nI_add]; exact nI_in (by omega) (by decide)
      · rw [fn_103 nv]; exact (fin_i2f _).nn
      · rw [fn_103 nv, d, Int32.zero_add, ename_nI (by omega), show (201 : Int32) = nI 201 from rfl, nI_mul, nI_add, nI_clamp (by omega), j507]
        unfold envO
        rw [if_pos g3]
    · have g6 : g < 6 := (nI_ltI (b := 6) hg (by decide)).mp lt
      have d2 : slot = nI (3 + g) := d.trans (nI_add 3 g)
      rw [d2] at mem
      have np := pn g g6 (Or.inl mem)
      rcases po g g6 with e | ⟨u, hu, e⟩
      · exact absurd e np
      have val : f_X10_named (nI v) (nI h) 109 (nI g) J H = OI I u h := by
        rw [fn_109 nv, if_pos (nI_pos' (by omega)), (e6 g g6).1, j504, e, (e201 u h (by omega) hh).1, f509, hk u hu ⟨g, g6, e⟩ h (Nat.le_refl _)]
      refine ⟨pn_109 (e6 g g6).2 ?_, ?_, ?_⟩
      · rw [(e6 g g6).1, j504, e]; exact (e201 u h (by omega) hh).2
      · rw [val]; exact OO_kv.nn
      · rw [val, d2, ename_nI (by omega)]
        unfold envO
        rw [if_neg (by omega), if_pos (by omega), show 3 + g - 3 = g by omega, if_neg np, e, nI_clamp (by omega)]
        rfl
    · have g6 : g < 6 := (nI_ltI (b := 6) hg (by decide)).mp lt
      have d2 : slot = nI (9 + g) := d.trans (nI_add 9 g)
      rw [d2] at mem
      have np := pn g g6 (Or.inr mem)
      rcases po g g6 with e | ⟨u, hu, e⟩
      · exact absurd e np
      have val : f_X10_named (nI v) (nI h) 113 (nI g) J H = if h = 0 then 0 else OI I u (h - 1) := by
        rw [fn_113 nv]
        by_cases z : h = 0
        · rw [if_neg (neg z), if_pos z]
        · rw [if_pos (pos z), if_neg z, hm1 z, (e6 g g6).1, j504, e, (e201 u (h - 1) (by omega) (by omega)).1, f509, hk u hu ⟨g, g6, e⟩ (h - 1) (by omega)]
      refine ⟨pn_113 (e6 g g6).2 (fun n => ?_), ?_, ?_⟩
      · have z : h ≠ 0 := fun z => neg z n
        rw [(e6 g g6).1, j504, e, hm1 z]
        exact (e201 u (h - 1) (by omega) (by omega)).2
      · rw [val]; split
        · exact nn_0
        · exact OO_kv.nn
      · rw [val, d2, ename_nI (by omega)]
        unfold envO
        rw [if_neg (show ¬ 9 + g < 3 by omega), if_neg (show ¬ 9 + g < 9 by omega), if_pos (show 9 + g < 15 by omega), show 9 + g - 9 = g by omega, if_neg np, e, nI_clamp (by omega)]
        by_cases z : h = 0
        · rw [if_pos z, if_pos z]
        · rw [if_neg z, if_neg z, prv u z]
end MF2
