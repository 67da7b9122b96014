/-! own: a dam's hour, in the class -/
set_option maxRecDepth 100000
def fLeft (lev inf ask : UInt32) : UInt32 := FP.fsub (fHas lev inf) (fFlow (fHas lev inf) ask)
def fLev (lev inf ask cap : UInt32) : UInt32 := FP.fsub (fLeft lev inf ask) (fSpill (fLeft lev inf ask) cap)
def fBel (lev inf ask cap : UInt32) : UInt32 := FP.fadd (fFlow (fHas lev inf) ask) (fSpill (fLeft lev inf ask) cap)
def fInf (x : UInt32) : UInt32 := if 0 ≤ Op.cmpValue (FP.fcmp x 0) .g then x else 0
section PA
variable {X : Nat × (Nat × (Nat → Int32))} {I J K : Nat → Nat → Int32} {L : Nat → Nat → Int64} {F H : Nat → Nat → UInt32} {Q : AQ} {c d t0 cap : Nat} {s : AS} {inf ask : UInt32}
theorem fInf_ok {x : UInt32} (h : kv x) : kv (fInf x) ∧ 0 ≤ fk (fInf x) := by
  unfold fInf
  by_cases a : 0 ≤ Op.cmpValue (FP.fcmp x 0) .g
  · rw [if_pos a]
    have := (fc_ge h.nn nn_0).mp a
    rw [fk_zero] at this
    exact ⟨h, this⟩
  · rw [if_neg a]
    exact ⟨kv_0, by rw [fk_zero]; exact Int.le_refl 0⟩
theorem cap_ok : fin (FP.i2f (nI cap)) := fin_i2f _
theorem cap_zv (h : cap ≤ 100000) : 0 ≤ zv (FP.i2f (nI cap)) := by
  have e : FP.Core.sgn (FP.Core.val32 (FP.i2f (nI cap))) = false := by
    have z : FP.Core.val32 (FP.i2f (nI cap)) = FP.Core.round FP.Core.b32 (FP.Core.ofInt (nI cap).toInt) := FP.Core.val32_i2f _
    rw [z, nI_toInt (by omega)]
    unfold FP.Core.ofInt
    show FP.Core.sgn (FP.Core.roundRatio _ _ _ _ _) = false
    rw [FP.Core.sgn_roundRatio]
    exact decide_eq_false (by omega)
  unfold zv FP.Core.zval
  rw [e]
  exact Int.natCast_nonneg _
theorem let_ok {o : Nat} (hl : up t0 (F o 5)) (pl : pz (F o 5)) (ht : t0 + 1 < 202) (hi : kv inf) (hi0 : 0 ≤ fk inf) (ha : kv ask) (ec : I o 4 = nI cap) (hc : cap ≤ 100000) :
    p_X0_letThrough o (nI t0) inf ask I F ∧ fF_X0_letThrough o (nI t0) inf ask I F = am_u (am_u F o 5 (fLev (F o 5) inf ask (FP.i2f (nI cap)))) (o + 4) t0 (fBel (F o 5) inf ask (FP.i2f (nI cap))) ∧ up (t0 + 1) (fLev (F o 5) inf ask (FP.i2f (nI cap))) ∧ pz (fLev (F o 5) inf ask (FP.i2f (nI cap))) ∧ fin (fBel (F o 5) inf ask (FP.i2f (nI cap))) ∧ pz (fBel (F o 5) inf ask (FP.i2f (nI cap))) := by
  obtain ⟨h1, h2, h3, ⟨h4, h5⟩, h6, h7⟩ := flow_ok hl pl ht hi hi0 ha (cap_ok (cap := cap)) (cap_zv hc)
  refine ⟨?_, ?_, h4, h5, h6.fin (by omega), h7⟩
  · unfold p_X0_letThrough
    rw [ec]
    exact ⟨nn_vf.mpr h1, nn_vf.mpr h2, fun n => ⟨nn_vf.mpr (h3 n), trivial⟩, nn_vf.mpr h4.1, fun _ => ⟨nn_vf.mpr h6.1, trivial⟩, trivial⟩
  · unfold fF_X0_letThrough
    rw [ec, isHour_nI (show t0 < 201 by omega), if_neg (show ¬ (1 : Int32) = 0 by decide), nI_clamp (show t0 < 2 ^ 31 by omega)]
    rfl
end PA
section PB
variable {X : Nat × (Nat × (Nat → Int32))} {I J K : Nat → Nat → Int32} {L : Nat → Nat → Int64} {F H : Nat → Nat → UInt32} {Q : AQ} {c d t0 cap mo rc l : Nat} {s : AS}
/-- what a dam's hour may change in the class -/
def PHF (d t0 : Nat) (F H : Nat → Nat → UInt32) : Prop := ∀ o k, o ≠ 11 → o ≠ 12 → ¬ (∃ v, v < 60 ∧ o = 19 + 6 * v + 5) → ¬ (o = 423 + 5 * d ∧ k = 5) → ¬ (o = 427 + 5 * d ∧ k = t0) → H o k = F o k
theorem OutC.f (h : ∀ o k, 19 ≤ o → o < 379 → H o k = F o k) (nf : NF H) (z : OutC I L F c) : OutC I L H c := by
  obtain ⟨a, b, d, e, f, g, _⟩ := z
  refine ⟨a, b, d, e, f, fun v hv => ?_, nf⟩
  obtain ⟨kh, h1, h2, h3⟩ := g v hv
  exact ⟨kh, h1, h2, fun t ht => (h _ t (by omega) (by omega)).trans (h3 t ht)⟩
theorem evalR_kv {nm : Nat → UInt32} {f : FM} : kv (hdF (evalR nm f)) := hd_kv (evalR_kvs f)
/-- what comes of it: the hour's last part -/
theorem sp_cph164 {x2 x6 : Int32} {y3 inf y5 ask : UInt32} (hd : d < 3) (hl : up t0 (F (423 + 5 * d) 5)) (pl : pz (F (423 + 5 * d) 5)) (ht : t0 < 200) (e9 : I 0 9 = nI t0) (hi : kv inf) (hi0 : 0 ≤ fk inf) (ha : kv ask) (ec : I (423 + 5 * d) 4 = nI cap) (hc : cap ≤ 100000)
    (q : Q (.inl none) (G X I L (am_u (am_u F (423 + 5 * d) 5 (fLev (F (423 + 5 * d) 5) inf ask (FP.i2f (nI cap)))) (427 + 5 * d) t0 (fBel (F (423 + 5 * d) 5) inf ask (FP.i2f (nI cap)))))) :
    WP mX9_passHourAt 164 [some (.ref 0), some (.ref (423 + 5 * d)), some (.int x2), some (.float y3), some (.float inf), some (.float y5), some (.int x6), some (.ref 11)] [.float ask] (G X I L F) 0 0 Q := by
  obtain ⟨p, e, _⟩ := let_ok (o := 423 + 5 * d) (I := I) hl pl (by omega) hi hi0 ha ec hc
  refine k_X9_passHourAt_164 (gi_damN hd) ?_
  rw [e9]
  refine ⟨p, ?_⟩
  rw [e, show 423 + 5 * d + 4 = 427 + 5 * d by omega]
  exact q
/-- the rest of a dam's hour, the output known -/
theorem sp_cph33 {x2 : Int32} {out pk : UInt32} (hd : d < 3) (hl : up t0 (F (423 + 5 * d) 5)) (pl : pz (F (423 + 5 * d) 5)) (ht : t0 < 200) (e9 : I 0 9 = nI t0) (ho : kv out) (ec : I (423 + 5 * d) 4 = nI cap) (hc : cap ≤ 100000) (oc : OutC I L F c)
    (hr : rc ≤ 40) (e7 : I 0 7 = nI rc) (hg : I (423 + 5 * d) 7 = -1 ∨ ∃ r, r < rc ∧ I (423 + 5 * d) 7 = nI r)
    (hpk : kv pk) (epk : pk = if f_X9_isRun (I (423 + 5 * d) 7) I = 0 then 0 else if f_X9_reasonAgainst (I (423 + 5 * d) 7) I = 0 then F (383 + (I (423 + 5 * d) 7).toNatClampNeg) 3 else 0)
    {t : List Int32} (hru : I (423 + 5 * d) 6 ≠ 0 → Txt 1 t ∧ FC I (423 + 5 * d + 1) (rForm 1 t)) {ask : UInt32}
    (eask : ask = if I (423 + 5 * d) 6 = 0 then 0 else hdF (evalR (rnm (FP.i2f (nI t0)) (F (423 + 5 * d) 5) (fInf out) pk) (rF (rForm 1 t))))
    (q : ∀ J H, IFr I J → PHF d t0 F H → OutC J L H c → H (423 + 5 * d) 5 = fLev (F (423 + 5 * d) 5) (fInf out) ask (FP.i2f (nI cap)) → H (427 + 5 * d) t0 = fBel (F (423 + 5 * d) 5) (fInf out) ask (FP.i2f (nI cap)) → Q (.inl none) (G X J L H)) :
    WP mX9_passHourAt 33 [some (.ref 0), some (.ref (423 + 5 * d)), some (.int x2), none, none, none, none, none] [.float out] (G X I L F) 0 0 Q := by
  have io := fInf_ok ho
  have dm : isDam (423 + 5 * d) := gi_damN hd
  refine k_X9_passHourAt_33 dm (fun inf einf => ?_)
  have ei : inf = fInf out := einf
  rw [ei]
  rw [e9]
  refine ⟨fun e6 => ?_, fun e6 x ex => ⟨fun nx => ⟨?_, trivial⟩, fun y ey => ?_⟩⟩
  · rw [if_pos e6] at eask
    subst eask
    obtain ⟨p, e, _⟩ := let_ok (o := 423 + 5 * d) (I := I) hl pl (by omega) io.1 io.2 kv_0 ec hc
    refine ⟨p, ?_⟩
    rw [e]
    refine q _ _ (fun _ _ _ => rfl) (fun o k a b d1 e1 f1 => ?_) (oc.f (fun o k a b => ?_) (fun j hj => ?_)) ?_ ?_
    · rw [am_u_ne (by omega), am_u_ne (by omega)]
    · rw [am_u_ne (by omega), am_u_ne (by omega)]
    · rw [am_u_ne (by omega), am_u_ne (by omega)]; exact oc.2.2.2.2.2.2 j hj
    · rw [am_u_ne (by omega), am_u_eq]
    · rw [show 423 + 5 * d + 4 = 427 + 5 * d by omega, am_u_eq]
  · rcases hg with g | ⟨r, hr2, g⟩
    · exact absurd (show x = 0 by rw [ex, g]; exact if_pos (by unfold f_X9_isRun; rfl)) nx
    · rw [g]; exact nI_in (by omega) (by decide)
  · have ey2 : y = pk := by
      rw [ey, ex, epk]
      by_cases c1 : f_X9_isRun (I (423 + 5 * d) 7) I = 0
      · rw [if_pos c1, if_pos rfl, if_pos c1]
      · rw [if_neg c1, if_neg c1]
        by_cases c2 : f_X9_reasonAgainst (I (423 + 5 * d) 7) I = 0
        · rw [if_pos c2, if_neg (show ¬ (1 : Int32) = 0 by decide), if_pos c2]
        · rw [if_neg c2, if_pos rfl, if_neg c2]
    rw [ey2]
    rw [if_neg e6] at eask
    obtain ⟨tx, fc⟩ := hru e6
    generalize hF : am_u (am_u (am_u (am_u F 11 17 (F (423 + 5 * d) 5)) 11 18 (fInf out)) 11 19 pk) 11 16 (FP.i2f (nI t0)) = F1
    have fr : ∀ o k, o ≠ 11 → F1 o k = F o k := fun o k a => by
      rw [← hF, am_u_ne (Or.inl a), am_u_ne (Or.inl a), am_u_ne (Or.inl a), am_u_ne (Or.inl a)]
    have f16 : F1 11 16 = FP.i2f (nI t0) := by rw [← hF, am_u_eq]
    have f19 : F1 11 19 = pk := by rw [← hF, am_u_ne (by omega), am_u_eq]
    have f18 : F1 11 18 = fInf out := by rw [← hF, am_u_ne (by omega), am_u_ne (by omega), am_u_eq]
    have f17 : F1 11 17 = F (423 + 5 * d) 5 := by rw [← hF, am_u_ne (by omega), am_u_ne (by omega), am_u_ne (by omega), am_u_eq]
    have nf : NF F1 := fun j hj => by
      by_cases j16 : j = 16
      · rw [j16, f16]; exact fin_i2f _
      by_cases j17 : j = 17
      · rw [j17, f17]; exact hl.fin (by omega)
      by_cases j18 : j = 18
      · rw [j18, f18]; exact io.1.fin
      by_cases j19 : j = 19
      · rw [j19, f19]; exact hpk.fin
      rw [← hF, am_u_ne (by omega), am_u_ne (by omega), am_u_ne (by omega), am_u_ne (by omega)]
      exact oc.2.2.2.2.2.2 j hj
    have oc1 : OutC I L F1 c := oc.f (fun o k a b => fr o k (by omega)) nf

    have ev : hdF (evalR (F1 11) (rF (rForm 1 t))) = ask := by
      rw [eask]
      congr 1
      refine evalR_cong (rule := 1) (fun x hx => ?_) _ (tx.slots (Or.inr rfl))
      rcases hx with ⟨n, _⟩ | ⟨_, j, e, j1, j2⟩
      · exact absurd n (by decide)
      · rw [e, ename_nI j2, ename_nI j2]
        have jj : j = 16 ∨ j = 17 ∨ j = 18 ∨ j = 19 := by omega
        rcases jj with e | e | e | e <;> subst e
        · rw [f16]; rfl
        · rw [f17]; rfl
        · rw [f18]; rfl
        · rw [f19]; rfl
    refine sp_workOut (o := 423 + 5 * d + 1) (f := rF (rForm 1 t)) dm.2.2.2.1 tx.len fc.1 fc.2.1 nf (fun J H i1 i2 => ?_)
    rw [ev]
    have j9 : J 0 9 = nI t0 := (i1 0 9 (by omega)).trans e9
    have jc : J (423 + 5 * d) 4 = nI cap := (i1 _ 4 (by omega)).trans ec
    have h5 : H (423 + 5 * d) 5 = F (423 + 5 * d) 5 := (i2 _ 5 (by omega)).trans (fr _ 5 (by omega))
    have oi : OIF I J := fun o k a _ => i1 o k a
    refine sp_cph164 hd (by rw [h5]; exact hl) (by rw [h5]; exact pl) ht j9 io.1 io.2 (by rw [eask]; exact evalR_kv) jc hc ?_
    rw [h5]
    have nfH : NF H := fun j hj => by rw [i2 11 j (by decide)]; exact nf j hj
    have ocH : OutC J L H c := oi.outc oc1 (fun v hv => by
      obtain ⟨kh, a1, a2, a3⟩ := oc1.2.2.2.2.2.1 v hv
      have := oc1.1
      refine ⟨kh, a1, (i1 _ 6 (by omega)).trans a2, fun t ht => ?_⟩
      rw [i2 _ t (by omega), a3 t ht, oi.oi]) nfH
    refine q J _ i1 (fun o k a b d1 e1 f1 => ?_) (ocH.f (fun o k a b => ?_) (fun j hj => ?_)) ?_ ?_
    · rw [am_u_ne (by omega), am_u_ne (by omega), i2 o k b, fr o k a]
    · rw [am_u_ne (by omega), am_u_ne (by omega)]
    · rw [am_u_ne (by omega), am_u_ne (by omega)]; exact nfH j hj
    · rw [am_u_ne (by omega), am_u_eq]
    · rw [am_u_eq]
end PB
