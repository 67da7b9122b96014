/-! own: a dam's hour, in the class, from its beginning -/
set_option maxRecDepth 100000
/-- what a dam's hour may change in the class -/
def PHFF (d t0 : Nat) (F H : Nat → Nat → UInt32) : Prop := ∀ o k, o ≠ 11 → o ≠ 12 → ¬ (∃ v, v < 60 ∧ o = 19 + 6 * v + 5) → ¬ (o = 423 + 5 * d ∧ k = 5) → ¬ (o = 427 + 5 * d ∧ k = t0) → H o k = F o k
section PC
variable {X : Nat × (Nat × (Nat → Int32))} {I J K : Nat → Nat → Int32} {L : Nat → Nat → Int64} {F H : Nat → Nat → UInt32} {Q : AQ} {c d t0 cap mo rc l : Nat} {s : AS}
theorem oif_reason {x : Int32} (h : OIF I J) : f_X9_reasonAgainst x J = f_X9_reasonAgainst x I ∧ f_X9_isRun x J = f_X9_isRun x I := by
  have r : f_X9_isRun x J = f_X9_isRun x I := by
    unfold f_X9_isRun
    rw [h 0 7 (by omega) (fun ⟨v, _, h, _⟩ => by omega)]
  refine ⟨?_, r⟩
  unfold f_X9_reasonAgainst
  rw [r, h (383 + x.toNatClampNeg) 0 (by omega) (fun ⟨v, _, h, _⟩ => by omega), h (383 + x.toNatClampNeg) 5 (by omega) (fun ⟨v, _, h, _⟩ => by omega)]
  have l : ∀ y, f_X6_isLatest y J = f_X6_isLatest y I := fun y => by
    unfold f_X6_isLatest f_X6_has f_X6_latestOf
    rw [h 9 4 (by omega) (fun ⟨v, _, h, _⟩ => by omega), h (19 + 6 * y.toNatClampNeg) 3 (by omega) (fun ⟨v, _, _, h, _⟩ => by omega), h 14 _ (by omega) (fun ⟨v, _, h, _⟩ => by omega)]
  rw [l]
/-- a dam's hour, in the class -/
theorem sp_cpassHour (w : WA s) (z : CA I L s) (hd : d < 3) (hl : up t0 (F (423 + 5 * d) 5)) (pl : pz (F (423 + 5 * d) 5)) (ht : t0 < 200) (e9 : I 0 9 = nI t0) (hmo : mo < 6) (em : I (423 + 5 * d) 3 = nI mo) (ec : I (423 + 5 * d) 4 = nI cap) (hc : cap ≤ 100000) (oc : OutC I L F (aC s))
    (hr : rc ≤ 40) (e7 : I 0 7 = nI rc) (hg : I (423 + 5 * d) 7 = -1 ∨ ∃ r, r < rc ∧ I (423 + 5 * d) 7 = nI r) {out pk : UInt32} (eo : out = if aL s mo = -1 then 0 else OI I (aL s mo).toNatClampNeg t0)
    (hpk : kv pk) (epk : pk = if f_X9_isRun (I (423 + 5 * d) 7) I = 0 then 0 else if f_X9_reasonAgainst (I (423 + 5 * d) 7) I = 0 then F (383 + (I (423 + 5 * d) 7).toNatClampNeg) 3 else 0)
    {t : List Int32} (hru : I (423 + 5 * d) 6 ≠ 0 → Txt 1 t ∧ FC I (423 + 5 * d + 1) (rForm 1 t)) {ask : UInt32}
    (eask : ask = if I (423 + 5 * d) 6 = 0 then 0 else hdF (evalR (rnm (FP.i2f (nI t0)) (F (423 + 5 * d) 5) (fInf out) pk) (rF (rForm 1 t))))
    (q : ∀ J H, OIF I J → PHF d t0 F H → OutC J L H (aC s) → H (423 + 5 * d) 5 = fLev (F (423 + 5 * d) 5) (fInf out) ask (FP.i2f (nI cap)) → H (427 + 5 * d) t0 = fBel (F (423 + 5 * d) 5) (fInf out) ask (FP.i2f (nI cap)) → Q (.inl none) (G X J L H)) :
    WP mX9_passHourAt 0 (am_ent 8 [.ref 0, .ref (423 + 5 * d)]) [] (G X I L F) 0 0 Q := by
  have hcc := w.1
  refine k_X9_passHourAt_0 (gi_damN hd) ?_
  rw [em, lat_v hmo, z.2.2 mo hmo, e9]
  refine ⟨fun e => ?_, fun e => ?_⟩
  · rw [if_pos e] at eo
    subst eo
    exact sp_cph33 hd hl pl ht e9 kv_0 ec hc oc hr e7 hg hpk epk hru eask (fun J H a b => q J H (fun o k x _ => a o k x) b)
  · rw [if_neg e] at eo
    obtain ⟨v, hv, ev, e2⟩ := lat_lt w hmo e
    rw [e2] at eo
    rw [ev]
    refine sp_outputOf hv (show t0 < 201 by omega) oc (fun J H i1 i2 oc2 _ => ?_)
    rw [← eo]
    have fr : ∀ k, J (423 + 5 * d) k = I (423 + 5 * d) k := fun k => i1 _ k (by omega) (fun ⟨v, _, h, _⟩ => by omega)
    have h5 : H (423 + 5 * d) 5 = F (423 + 5 * d) 5 := i2 _ 5 (by omega) (by omega) (fun ⟨v, _, h⟩ => by omega)
    refine sp_cph33 (x2 := nI v) (pk := pk) (ask := ask) (t := t) hd (by rw [h5]; exact hl) (by rw [h5]; exact pl) ht ((i1 0 9 (by omega) (fun ⟨v, _, h, _⟩ => by omega)).trans e9) (by rw [eo]; exact OO_kv) ((fr 4).trans ec) hc oc2 hr ((i1 0 7 (by omega) (fun ⟨v, _, h, _⟩ => by omega)).trans e7) (by rw [fr 7]; exact hg) hpk ?_ (fun n => ?_) ?_ (fun J2 H2 a b d1 e1 f1 => ?_)
    · rw [fr 7, (oif_reason i1).1, (oif_reason i1).2, i2 (383 + (I (423 + 5 * d) 7).toNatClampNeg) 3 (by omega) (by omega) (fun ⟨v, _, h⟩ => by omega)]
      exact epk
    · obtain ⟨tx, fc⟩ := hru (by rw [← fr 6]; exact n)
      exact ⟨tx, FC_fr (fun o k h => i1 o k (by omega) (fun ⟨v, _, h, _⟩ => by omega)) fc⟩
    · rw [fr 6, h5]; exact eask
    · rw [h5] at e1 f1
      exact q J2 H2 (fun o k x y => (a o k x).trans (i1 o k x y)) (fun o k x y x2 x3 x4 => (b o k x y x2 x3 x4).trans (i2 o k x y x2)) d1 e1 f1
end PC
