/-! own: no -0 out of sums; a dam's hour -/
set_option maxRecDepth 100000
/-- the sign's bit is clear -/
def pz (a : UInt32) : Prop := a.toNat < 2 ^ 31
section PZ
variable {a b : UInt32} {n k : Nat}
theorem pz_sgn (h : nn a) : FP.Core.sgn (FP.Core.val32 a) = false ↔ pz a := by
  rw [FP.Core.sgn_bits32 h, decide_eq_false_iff_not]
  unfold pz
  omega
theorem add_pz (ha : fin a) (hb : fin b) (h : 0 ≤ zv a + zv b) (ns : pz a ∨ pz b) : pz (FP.fadd a b) := by
  have ha0 := ha
  have hb0 := hb
  refine (pz_sgn (nn_add ha.nn hb)).mp ?_
  obtain ⟨s, c, q, ea⟩ := ha
  obtain ⟨t, d, r, eb⟩ := hb
  have fa := FP.Core.val32_fits a
  have fb := FP.Core.val32_fits b
  rw [ea] at fa
  rw [eb] at fb
  obtain ⟨sg, m, e, h1, h2, h3⟩ := FP.Core.sum_units fa fb
  have e1 : FP.Core.sgn (FP.Core.val32 (FP.fadd a b)) = sg := by
    have z : FP.Core.val32 (FP.fadd a b) = FP.Core.round FP.Core.b32 (FP.Core.exactSum (FP.Core.val32 a) (FP.Core.val32 b)) := FP.Core.val32_fadd a b
    rw [z, ea, eb, h1]
    exact FP.Core.sgn_roundRatio _ _ _ _ _
  rw [e1]
  cases sg with
  | false => rfl
  | true =>
    exfalso
    have hz : zv a + zv b = - (FP.Core.inUnits m e FP.Core.b32.qmin : Int) := by
      unfold zv
      rw [ea, eb, ← h3]
      rfl
    have m0 : FP.Core.inUnits m e FP.Core.b32.qmin = 0 := by omega
    have m1 : m = 0 := by
      unfold FP.Core.inUnits at m0
      rcases Nat.mul_eq_zero.mp m0 with h | h
      · exact h
      · exact absurd h (Nat.ne_of_gt (Nat.two_pow_pos _))
    injection h1 with i1 i2 i3
    rw [m1] at i2
    have u0 : FP.Core.sumUnits s c q t d r (min q r) = 0 := Int.natAbs_eq_zero.mp i2
    rw [u0] at i1
    have st : (s && t) = true := i1
    obtain ⟨s1, t1⟩ := (Bool.and_eq_true _ _).mp st |> fun x => x
    rcases ns with ns | ns
    · have x := (pz_sgn ha0.nn).mpr ns
      rw [ea] at x
      have x2 : s = false := x
      rw [x2] at s1; cases s1
    · have x := (pz_sgn hb0.nn).mpr ns
      rw [eb] at x
      have x2 : t = false := x
      rw [x2] at t1; cases t1
theorem sub_pz (ha : fin a) (hb : fin b) (h : zv b ≤ zv a) (ns : pz a) : pz (FP.fsub a b) := by
  rw [fsub_fadd]
  exact add_pz ha (fin_fneg hb) (by rw [zv_fneg]; omega) (Or.inl ns)
theorem pz_0 : pz 0 := by unfold pz; decide
theorem pz_z (h : pz a) (h0 : fk a = 0) : a = 0 := by
  rcases fk_z h0 with e | e
  · exact e
  · rw [e] at h
    exact absurd h (by unfold pz; decide)
theorem pz_fk (h : pz a) : 0 ≤ fk a := by
  have h2 : a.toNat < 2 ^ 31 := h
  rw [fk_def, if_neg (by omega)]
  omega
theorem kv_pz (h : kv a) (h0 : 0 ≤ fk a) : pz a := by
  have e1 := a.toNat_lt
  unfold pz
  rw [fk_def] at h0
  have h3 := h.2.2
  rw [fk_def] at h3
  by_cases c : 2 ^ 31 ≤ a.toNat
  · rw [if_pos c] at h0 h3
    have : a = 0 := h3 (by omega)
    rw [this]; decide
  · omega
/-- a dam's water in an hour: what has, flows, is left, spills, stays, is below -/
def fHas (lev inf : UInt32) : UInt32 := FP.fadd lev inf
def fFlow (has ask : UInt32) : UInt32 := if 0 ≤ Op.cmpValue (FP.fcmp ask 0) .g then (if Op.cmpValue (FP.fcmp ask has) .l ≤ 0 then ask else has) else 0
def fSpill (left cap : UInt32) : UInt32 := if Op.cmpValue (FP.fcmp left cap) .l ≤ 0 then 0 else FP.fsub left cap
/-- all of a dam's hour is a number, not -0, and in bounds -/
theorem flow_ok {lev inf ask cap : UInt32} (hl : up n lev) (pl : pz lev) (hn : n + 1 < 202) (hi : kv inf) (hi0 : 0 ≤ fk inf) (ha : kv ask) (hc : fin cap) (hc0 : 0 ≤ zv cap) :
    nn (fHas lev inf) ∧ nn (FP.fsub (fHas lev inf) (fFlow (fHas lev inf) ask)) ∧
    (¬ Op.cmpValue (FP.fcmp (FP.fsub (fHas lev inf) (fFlow (fHas lev inf) ask)) cap) .l ≤ 0 → nn (FP.fsub (FP.fsub (fHas lev inf) (fFlow (fHas lev inf) ask)) cap)) ∧
    (up (n + 1) (FP.fsub (FP.fsub (fHas lev inf) (fFlow (fHas lev inf) ask)) (fSpill (FP.fsub (fHas lev inf) (fFlow (fHas lev inf) ask)) cap)) ∧ pz (FP.fsub (FP.fsub (fHas lev inf) (fFlow (fHas lev inf) ask)) (fSpill (FP.fsub (fHas lev inf) (fFlow (fHas lev inf) ask)) cap))) ∧
    (up (2 * n + 2) (FP.fadd (fFlow (fHas lev inf) ask) (fSpill (FP.fsub (fHas lev inf) (fFlow (fHas lev inf) ask)) cap)) ∧ pz (FP.fadd (fFlow (fHas lev inf) ask) (fSpill (FP.fsub (fHas lev inf) (fFlow (fHas lev inf) ask)) cap))) := by
  have ui := up_kv hi hi0
  have uh : up (n + 1) (fHas lev inf) := up_add hl ui (by omega)
  have ph : pz (fHas lev inf) := add_pz (hl.fin (by omega)) hi.fin (by have := hl.2.1; have := ui.2.1; omega) (Or.inl pl)
  generalize fHas lev inf = has at uh ph ⊢
  have uf : up (n + 1) (fFlow has ask) ∧ pz (fFlow has ask) ∧ zv (fFlow has ask) ≤ zv has := by
    unfold fFlow
    by_cases c : 0 ≤ Op.cmpValue (FP.fcmp ask 0) .g
    · rw [if_pos c]
      have a0 : 0 ≤ fk ask := by have := (fc_ge ha.nn nn_0).mp c; rw [fk_zero] at this; exact this
      by_cases c2 : Op.cmpValue (FP.fcmp ask has) .l ≤ 0
      · rw [if_pos c2]
        exact ⟨(up_kv ha a0).mono (by omega), kv_pz ha a0, (zv_le ha.nn uh.1).mp ((fc_le ha.nn uh.1).mp c2)⟩
      · rw [if_neg c2]
        exact ⟨uh, ph, Int.le_refl _⟩
    · rw [if_neg c]
      exact ⟨up_0, pz_0, by rw [zv_0]; exact uh.2.1⟩
  generalize fFlow has ask = fl at uf ⊢
  obtain ⟨uf, pf, lf⟩ := uf
  have ff := uf.fin (show n + 1 < 410 by omega)
  obtain ⟨ul, ll⟩ := up_sub uh (by omega) ff uf.2.1 lf
  have pL : pz (FP.fsub has fl) := sub_pz (uh.fin (by omega)) ff lf ph
  generalize FP.fsub has fl = left at ul ll pL ⊢
  have fL := ul.fin (show n + 1 < 410 by omega)
  have us : (¬ Op.cmpValue (FP.fcmp left cap) .l ≤ 0 → nn (FP.fsub left cap)) ∧ up (n + 1) (fSpill left cap) ∧ pz (fSpill left cap) ∧ zv (fSpill left cap) ≤ zv left := by
    unfold fSpill
    by_cases c : Op.cmpValue (FP.fcmp left cap) .l ≤ 0
    · rw [if_pos c]
      exact ⟨fun h => absurd c h, up_0, pz_0, by rw [zv_0]; exact ul.2.1⟩
    · rw [if_neg c]
      have gt : ¬ fk left ≤ fk cap := fun h => c ((fc_le ul.1 hc.nn).mpr h)
      have zl : zv cap ≤ zv left := (zv_le hc.nn ul.1).mp (by omega)
      obtain ⟨u2, l2⟩ := up_sub ul (by omega) hc hc0 zl
      exact ⟨fun _ => u2.1, u2, sub_pz fL hc zl pL, l2⟩
  generalize fSpill left cap = sp at us ⊢
  obtain ⟨q1, usp, ps, ls⟩ := us
  have fs := usp.fin (show n + 1 < 410 by omega)
  obtain ⟨uv, _⟩ := up_sub ul (by omega) fs usp.2.1 ls
  refine ⟨uh.1, ul.1, q1, ⟨uv, sub_pz fL fs ls pL⟩, ?_, ?_⟩
  · have z := up_add uf usp (by omega)
    rw [show n + 1 + (n + 1) = 2 * n + 2 by omega] at z
    exact z
  · exact add_pz ff fs (by have := uf.2.1; have := usp.2.1; omega) (Or.inl pf)
end PZ
