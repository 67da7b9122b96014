/-! own: a dam's hour in the model: its floats -/
set_option maxRecDepth 100000
section FW
variable {X : Nat × (Nat → Int32)} {I J K : Nat → Nat → Int32} {L : Nat → Nat → Int64} {F H : Nat → Nat → UInt32} {Q : AQ} {c d t0 cap : Nat} {s : AS} {lev inf ask : UInt32}
/-- what is asked of the floats of a dam's hour -/
theorem fl_tree {x y : Int32} {R : UInt32 → UInt32 → Prop} (hx : vp_in x 3) (hy : vp_in y 603) (hl : up t0 lev) (pl : pz lev) (ht : t0 < 200) (hi : kv inf) (hi0 : 0 ≤ fk inf) (ha : kv ask) (hc : cap ≤ 100000) (q : R (fLev lev inf ask (FP.i2f (nI cap))) (fBel lev inf ask (FP.i2f (nI cap)))) :
    vf_n32 (FP.fadd lev inf) ∧ (∀ s : UInt32, s = (if 0 ≤ (Op.cmpValue (FP.fcmp ask 0) .g) then (if (Op.cmpValue (FP.fcmp ask (FP.fadd lev inf)) .l) ≤ 0 then ask else (FP.fadd lev inf) : UInt32) else 0 : UInt32) → (vf_n32 (FP.fsub (FP.fadd lev inf) s) ∧ (vp_in x 3 ∧ (((¬ (Op.cmpValue (FP.fcmp (FP.fsub (FP.fadd lev inf) s) (FP.i2f (nI cap))) .l) ≤ 0 → vp_in x 3 ∧ (vf_n32 (FP.fsub (FP.fsub (FP.fadd lev inf) s) (FP.i2f (nI cap))) ∧ (True)))) ∧ (∀ s2 : UInt32, s2 = (if (Op.cmpValue (FP.fcmp (FP.fsub (FP.fadd lev inf) s) (FP.i2f (nI cap))) .l) ≤ 0 then 0 else (FP.fsub (FP.fsub (FP.fadd lev inf) s) (FP.i2f (nI cap))) : UInt32) → (vf_n32 (FP.fsub (FP.fsub (FP.fadd lev inf) s) s2) ∧ (vp_in x 3 ∧ (vf_n32 (FP.fadd s s2) ∧ (vp_in y 603 ∧ R (FP.fsub (FP.fsub (FP.fadd lev inf) s) s2) (FP.fadd s s2)))))))))) := by
  obtain ⟨h1, h2, h3, ⟨h4, h5⟩, h6, h7⟩ := flow_ok hl pl (show t0 + 1 < 202 by omega) hi hi0 ha (cap_ok (cap := cap)) (cap_zv hc)
  refine ⟨nn_vf.mpr h1, fun s es => ?_⟩
  have e1 : s = fFlow (fHas lev inf) ask := es
  subst e1
  refine ⟨nn_vf.mpr h2, hx, fun n => ⟨hx, nn_vf.mpr (h3 n), trivial⟩, fun s2 es2 => ?_⟩
  have e2 : s2 = fSpill (FP.fsub (fHas lev inf) (fFlow (fHas lev inf) ask)) (FP.i2f (nI cap)) := es2
  subst e2
  exact ⟨nn_vf.mpr h4.1, hx, nn_vf.mpr h6.1, hy, q⟩
/-- what comes of it in the model -/
theorem sp_fl114 {x2 : Int32} (hd : d < 3) (hl : up t0 (F 520 d)) (pl : pz (F 520 d)) (ht : t0 < 200) (e1 : I 498 1 = nI t0) (hi : kv inf) (hi0 : 0 ≤ fk inf) (ha : kv ask) (ec : I 519 d = nI cap) (hc : cap ≤ 100000)
    (q : Q (.inl none) (G X I L (am_u (am_u F 520 d (fLev (F 520 d) inf ask (FP.i2f (nI cap)))) 525 (201 * d + t0) (fBel (F 520 d) inf ask (FP.i2f (nI cap)))))) :
    WP mX10_flows 114 [some (.ref 498), some (.int (nI d)), some (.int x2), some (.float inf), none, none, none, none, none] [.float ask] (G X I L F) 0 0 Q := by
  have ei : (201 : Int32) * nI d + nI t0 = nI (201 * d + t0) := by rw [show (201 : Int32) = nI 201 from rfl, nI_mul, nI_add]
  have hin : vp_in (nI d) 3 := nI_in hd (by decide)
  refine k_X10_flows_114 ⟨hin, ?_⟩
  rw [nI_clamp (show d < 2 ^ 31 by omega), ec, e1, ei, nI_clamp (show 201 * d + t0 < 2 ^ 31 by omega)]
  exact fl_tree (R := fun a b => Q (.inl none) (G X I L (am_u (am_u F 520 d a) 525 (201 * d + t0) b))) hin (nI_in (by omega) (by decide)) hl pl ht hi hi0 ha hc q
end FW
