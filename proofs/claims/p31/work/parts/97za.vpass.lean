/-! own: hours that pass, on a state that neither side holds -/
set_option maxRecDepth 100000
def vOut (s : AS) (I0 : Nat → Nat → Int32) (d t : Nat) : UInt32 := if aL s (I0 1000518 d).toNatClampNeg = -1 then 0 else OI I0 (aL s (I0 1000518 d).toNatClampNeg).toNatClampNeg t
def vPk (I0 : Nat → Nat → Int32) (F0 : Nat → Nat → UInt32) (d : Nat) : UInt32 := if I0 1000524 d = -1 then 0 else if f_X9_reasonAgainst (I0 1000524 d) I0 = 0 then F0 1000514 (I0 1000524 d).toNatClampNeg else 0
def vTx (I0 : Nat → Nat → Int32) (d : Nat) : List Int32 := seg (I0 1000523) (40 * d) (I0 1000522 d).toNatClampNeg
def vAsk (s : AS) (I0 : Nat → Nat → Int32) (F0 : Nat → Nat → UInt32) (lev : UInt32) (d t : Nat) : UInt32 := if I0 1000521 d = 0 then 0 else hdF (evalR (rnm (FP.i2f (nI t)) lev (fInf (vOut s I0 d t)) (vPk I0 F0 d)) (rF (rForm 1 (vTx I0 d))))
def vLev (s : AS) (I0 : Nat → Nat → Int32) (F0 : Nat → Nat → UInt32) (lev : UInt32) (d t : Nat) : UInt32 := fLev lev (fInf (vOut s I0 d t)) (vAsk s I0 F0 lev d t) (FP.i2f (I0 1000519 d))
def vBel (s : AS) (I0 : Nat → Nat → Int32) (F0 : Nat → Nat → UInt32) (lev : UInt32) (d t : Nat) : UInt32 := fBel lev (fInf (vOut s I0 d t)) (vAsk s I0 F0 lev d t) (FP.i2f (I0 1000519 d))
/-- a dam's hour -/
def vDam (s : AS) (I0 : Nat → Nat → Int32) (F0 : Nat → Nat → UInt32) (d t : Nat) (B : Nat → Nat → UInt32) : Nat → Nat → UInt32 := if I0 1000517 d = 0 then B else am_u (am_u B 1000520 d (vLev s I0 F0 (B 1000520 d) d t)) 1000525 (201 * d + t) (vBel s I0 F0 (B 1000520 d) d t)
def vDs (s : AS) (I0 : Nat → Nat → Int32) (F0 : Nat → Nat → UInt32) (t : Nat) (B : Nat → Nat → UInt32) : Nat → Nat → Nat → UInt32
  | 0 => B
  | n + 1 => vDam s I0 F0 n t (vDs s I0 F0 t B n)
/-- a siren that rings is judged -/
def vSI (A : Nat → Nat → Int32) (B : Nat → Nat → UInt32) (x t : Nat) : Nat → Nat → Int32 := if A 1000535 x = 0 then mjI A B x (A 1000532 x).toNatClampNeg (A 1000533 x).toNatClampNeg t else A
def vSF (A : Nat → Nat → Int32) (B : Nat → Nat → UInt32) (x t : Nat) : Nat → Nat → UInt32 := if A 1000535 x = 0 then mjF A B (A 1000532 x).toNatClampNeg (A 1000533 x).toNatClampNeg t else B
def vSs (A : Nat → Nat → Int32) (B : Nat → Nat → UInt32) (t : Nat) : Nat → (Nat → Nat → Int32) × (Nat → Nat → UInt32)
  | 0 => (A, B)
  | n + 1 => (vSI (vSs A B t n).1 (vSs A B t n).2 n t, vSF (vSs A B t n).1 (vSs A B t n).2 n t)
/-- an hour, and hours -/
def vHr (s : AS) (I0 : Nat → Nat → Int32) (F0 : Nat → Nat → UInt32) (sc t : Nat) (p : (Nat → Nat → Int32) × (Nat → Nat → UInt32)) : (Nat → Nat → Int32) × (Nat → Nat → UInt32) := vSs p.1 (vDs s I0 F0 t p.2 3) t sc
def vHs (s : AS) (I0 : Nat → Nat → Int32) (F0 : Nat → Nat → UInt32) (sc t : Nat) : Nat → (Nat → Nat → Int32) × (Nat → Nat → UInt32)
  | 0 => (I0, F0)
  | n + 1 => vHr s I0 F0 sc (t + n) (vHs s I0 F0 sc t n)
/-- what stays of the state -/
def VAf (I0 A : Nat → Nat → Int32) : Prop := ∀ o, o ≠ 1000531 → o ≠ 1000535 → A o = I0 o
/-- the floats of the state; the first dams have passed the hour -/
def VBk (B : Nat → Nat → UInt32) (t j : Nat) : Prop := ∀ d, d < 3 → DamF B (if d < j then t + 1 else t) d
section VP
variable {I I0 A J : Nat → Nat → Int32} {F F0 B : Nat → Nat → UInt32} {s : AS} {d t x sc j n r rc T o : Nat} {L : Nat → Nat → Int64}
theorem am_u_self {α : Type} {f : Nat → Nat → α} {o k : Nat} : am_u f o k (f o k) = f := by
  funext a b
  unfold am_u
  split
  · rename_i h; rw [h.1, h.2]
  · rfl
theorem VAf.refl : VAf I0 I0 := fun _ _ _ => rfl
theorem mjI_f {A : Nat → Nat → Int32} {B : Nat → Nat → UInt32} (h : VAf I0 A) : VAf I0 (mjI A B x d r t) := fun o a b => by
  rw [← h o a b]
  unfold mjI
  split
  · split
    · split
      · rfl
      · exact am_u_row b
    · rw [am_u_row a, am_u_row b]
  · exact am_u_row b
theorem vSI_f (h : VAf I0 A) : VAf I0 (vSI A B x t) := by
  unfold vSI
  split
  · exact mjI_f h
  · exact h
theorem vSs_f (h : VAf I0 A) : ∀ n, VAf I0 (vSs A B t n).1
  | 0 => h
  | n + 1 => vSI_f (vSs_f h n)
theorem vHs_f : ∀ n, VAf I0 (vHs s I0 F0 sc t n).1
  | 0 => VAf.refl
  | n + 1 => vSs_f (vHs_f n) sc
theorem vOut_kv : kv (vOut s I0 d t) := by
  unfold vOut
  split
  · exact kv_0
  · exact OO_kv
theorem vPk_kv {c : Nat} (rr : RunR I0 F0 c T rc) (h : I0 1000524 d = -1 ∨ ∃ r, r < rc ∧ I0 1000524 d = nI r) : kv (vPk I0 F0 d) := by
  have h40 := rr.1
  unfold vPk
  rcases h with e | ⟨r, hr, e⟩
  · rw [if_pos e]; exact kv_0
  · rw [e, if_neg (nI_m1 (by omega)), nI_clamp (by omega)]
    split
    · obtain ⟨v, a, b, _, _, _, _, _, _, _, _, _, _, k, _⟩ := rr.2.2.2 r hr
      exact k
    · exact kv_0
theorem vAsk_kv {lev : UInt32} : kv (vAsk s I0 F0 lev d t) := by
  unfold vAsk
  split
  · exact kv_0
  · exact evalR_kv
/-- the floats of a dam's hour -/
theorem v_ok {lev : UInt32} (hl : up t lev) (pl : pz lev) (ht : t < 201) (ds : DamS I0 rc d) (hb : I0 1000517 d ≠ 0) : up (t + 1) (vLev s I0 F0 lev d t) ∧ pz (vLev s I0 F0 lev d t) ∧ fin (vBel s I0 F0 lev d t) ∧ pz (vBel s I0 F0 lev d t) := by
  obtain ⟨mo, cap, _, hc, _, _, _, ec⟩ := ds.2.1 hb
  have io := fInf_ok (vOut_kv (s := s) (I0 := I0) (d := d) (t := t))
  have h := (let_ok (I := fun _ _ => nI cap) (F := fun _ _ => lev) (o := 0) hl pl (show t + 1 < 202 by omega) io.1 io.2 (vAsk_kv (s := s) (I0 := I0) (F0 := F0) (lev := lev) (d := d) (t := t)) rfl hc).2.2
  unfold vLev vBel
  rw [ec]
  exact h
theorem vDam_o (h : o ≠ 1000520) (h2 : o ≠ 1000525) : vDam s I0 F0 d t B o = B o := by
  unfold vDam
  split
  · rfl
  · rw [am_u_row h2, am_u_row h]
theorem vDam_lev (hb : I0 1000517 d ≠ 0) : vDam s I0 F0 d t B 1000520 d = vLev s I0 F0 (B 1000520 d) d t := by
  unfold vDam
  rw [if_neg hb, am_u_ne (by omega), am_u_eq]
theorem vDam_bel (hb : I0 1000517 d ≠ 0) : vDam s I0 F0 d t B 1000525 (201 * d + t) = vBel s I0 F0 (B 1000520 d) d t := by
  unfold vDam
  rw [if_neg hb, am_u_eq]
theorem vDam_lev_ne {e : Nat} (h : e ≠ d) : vDam s I0 F0 d t B 1000520 e = B 1000520 e := by
  unfold vDam
  split
  · rfl
  · rw [am_u_ne (by omega), am_u_ne (by omega)]
theorem vDam_bel_ne {k : Nat} (h : k ≠ 201 * d + t) : vDam s I0 F0 d t B 1000525 k = B 1000525 k := by
  unfold vDam
  split
  · rfl
  · rw [am_u_ne (by omega), am_u_ne (by omega)]
theorem VBk.dam (hd : d < 3) (ht : t < 201) (ds : DamS I0 rc d) (z : VBk B t d) : VBk (vDam s I0 F0 d t B) t (d + 1) := fun e he => by
  obtain ⟨a, b, c, f⟩ := z e he
  by_cases hb : I0 1000517 d = 0
  · have eq : vDam s I0 F0 d t B = B := if_pos hb
    rw [eq]
    refine ⟨?_, b, c, f⟩
    by_cases h : e < d
    · rw [if_pos h] at a; rw [if_pos (by omega)]; exact a
    · rw [if_neg h] at a
      split
      · exact a.mono (by omega)
      · exact a
  · by_cases ed : e = d
    · subst ed
      rw [if_neg (Nat.lt_irrefl e)] at a
      obtain ⟨v1, v2, v3, v4⟩ := v_ok (s := s) (F0 := F0) a b ht ds hb
      refine ⟨?_, ?_, ?_, fun k hk => ?_⟩
      · rw [vDam_lev hb, if_pos (Nat.lt_succ_self e)]; exact v1
      · rw [vDam_lev hb]; exact v2
      · rw [vDam_o (by decide) (by decide)]; exact c
      · by_cases kt : k = t
        · subst kt; rw [vDam_bel hb]; exact ⟨v3, v4⟩
        · rw [vDam_bel_ne (by omega)]; exact f k hk
    · refine ⟨?_, ?_, ?_, fun k hk => ?_⟩
      · rw [vDam_lev_ne ed]
        by_cases h : e < d
        · rw [if_pos h] at a; rw [if_pos (by omega)]; exact a
        · rw [if_neg h] at a; rw [if_neg (by omega)]; exact a
      · rw [vDam_lev_ne ed]; exact b
      · rw [vDam_o (by decide) (by decide)]; exact c
      · rw [vDam_bel_ne (by omega)]; exact f k hk
theorem VBk.ds (ht : t < 201) (ds : ∀ d, d < 3 → DamS I0 rc d) (z : VBk B t 0) : ∀ j, j ≤ 3 → VBk (vDs s I0 F0 t B j) t j
  | 0, _ => z
  | j + 1, h => VBk.dam (by omega) ht (ds j (by omega)) (VBk.ds ht ds z j (by omega))
/-- a siren judged leaves floats as they must be -/
theorem vSF_ok (hd : ∀ x, x < sc → ∃ d, d < 3 ∧ I0 1000532 x = nI d) (ha : VAf I0 A) (hx : x < sc) (z : VBk B t j) : VBk (vSF A B x t) t j := by
  obtain ⟨d, d3, ed⟩ := hd x hx
  unfold vSF
  split
  · have e : (A 1000532 x).toNatClampNeg = d := by rw [ha 1000532 (by decide) (by decide), ed, nI_clamp (by omega)]
    rw [e]
    have tr := (z d d3).2.2.1
    have key : ∀ y, TrOk y → VBk (am_u B 1000530 d y) t j := fun y hy e he => by
      obtain ⟨a, b, c, f⟩ := z e he
      refine ⟨by rw [am_u_ne (by omega)]; exact a, by rw [am_u_ne (by omega)]; exact b, ?_, fun k hk => by rw [am_u_ne (by omega)]; exact f k hk⟩
      by_cases h : e = d
      · rw [h, am_u_eq]; exact hy
      · rw [am_u_ne (by omega)]; exact c
    unfold mjF
    split
    · split
      · split
        · exact z
        · exact key _ (tr.mul tr_075)
      · exact key _ tr.rise
    · exact key _ (tr.mul tr_09)
  · exact z
theorem vSs_ok (hd : ∀ x, x < sc → ∃ d, d < 3 ∧ I0 1000532 x = nI d) (ha : VAf I0 A) (z : VBk B t j) : ∀ n, n ≤ sc → VBk (vSs A B t n).2 t j
  | 0, _ => z
  | n + 1, h => vSF_ok hd (vSs_f ha n) (by omega) (vSs_ok hd ha z n (by omega))
theorem VBk.next (z : VBk B t 3) : VBk B (t + 1) 0 := fun d hd => by
  have := z d hd
  rw [if_pos hd] at this
  rw [if_neg (Nat.not_lt_zero d)]
  exact this
theorem vHs_ok (hd : ∀ x, x < sc → ∃ d, d < 3 ∧ I0 1000532 x = nI d) (ds : ∀ d, d < 3 → DamS I0 rc d) (z : VBk F0 t 0) : ∀ n, t + n ≤ 201 → VBk (vHs s I0 F0 sc t n).2 (t + n) 0
  | 0, _ => z
  | n + 1, h => VBk.next (vSs_ok hd (vHs_f n) (VBk.ds (by omega) ds (vHs_ok hd ds z n (by omega)) 3 (Nat.le_refl 3)) sc (Nat.le_refl sc))
/-- why a run does not stand hangs on these cells -/
theorem rs_eq (h7 : J 0 7 = I 0 7) (h9 : J 9 4 = I 9 4) (h14 : ∀ k, J 14 k = I 14 k) (hv : ∀ v, v < 60 → J (19 + 6 * v) 3 = I (19 + 6 * v) 3) (h0 : J (383 + r) 0 = I (383 + r) 0) (h5 : J (383 + r) 5 = I (383 + r) 5) (hr : r < 2 ^ 31) : f_X9_reasonAgainst (nI r) J = f_X9_reasonAgainst (nI r) I ∧ f_X9_isRun (nI r) J = f_X9_isRun (nI r) I := by
  have l : ∀ y, f_X6_isLatest y J = f_X6_isLatest y I := fun y => by
    unfold f_X6_isLatest f_X6_latestOf
    have e : f_X6_has y J = f_X6_has y I := by unfold f_X6_has; rw [h9]
    rw [e]
    by_cases hh : f_X6_has y I = 0
    · rw [if_pos hh, if_pos hh]
    · rw [if_neg hh, if_neg hh, hv _ (vp_lt (gd_X6_has hh)), show J 14 = I 14 from funext h14]
  have r1 : f_X9_isRun (nI r) J = f_X9_isRun (nI r) I := by unfold f_X9_isRun; rw [h7]
  refine ⟨?_, r1⟩
  unfold f_X9_reasonAgainst
  rw [r1, nI_clamp hr, h0, h5, l]
end VP
