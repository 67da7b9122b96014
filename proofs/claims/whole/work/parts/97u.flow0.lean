/-! own: a dam's hour in the model, from its beginning -/
set_option maxRecDepth 100000
section FY
variable {X : Nat × (Nat → Int32)} {I J K : Nat → Nat → Int32} {L : Nat → Nat → Int64} {F H : Nat → Nat → UInt32} {Q : AQ} {c d t0 cap mo rc l T : Nat} {s : AS} {out pk ask : UInt32}
theorem mo_reason {x : Int32} (h : MOI I J) : f_X9_reasonAgainst x J = f_X9_reasonAgainst x I ∨ 100 ≤ x.toNatClampNeg := by
  by_cases b : 100 ≤ x.toNatClampNeg
  · exact Or.inr b
  · left
    have g : ∀ o k, o < 498 → J o k = I o k := fun o k a => h o k (by omega) (by omega) (by omega) (by omega)
    have l : ∀ y, f_X6_isLatest y J = f_X6_isLatest y I := fun y => by
      unfold f_X6_isLatest f_X6_latestOf
      have e : f_X6_has y J = f_X6_has y I := by unfold f_X6_has; rw [g 9 4 (by omega)]
      rw [e]
      by_cases hh : f_X6_has y I = 0
      · rw [if_pos hh, if_pos hh]
      · rw [if_neg hh, if_neg hh]
        have lt : y.toNatClampNeg < 60 := by
          unfold f_X6_has at hh
          by_cases a : y < 0
          · exact absurd (if_pos a) hh
          · rw [if_neg a] at hh
            by_cases b2 : I 9 4 ≤ y
            · exact absurd (if_pos b2) hh
            · rw [if_neg b2] at hh
              by_cases b3 : 60 ≤ y
              · exact absurd (if_pos b3) hh
              · obtain ⟨k, hk, e⟩ := nI_of a
                subst e
                rw [nI_clamp hk]
                exact Nat.lt_of_not_le fun n => b3 ((nI_leI (a := 60) (by decide) hk).mpr n)
        rw [g (19 + 6 * y.toNatClampNeg) 3 (by omega), show J 14 = I 14 from funext fun k => g 14 k (by omega)]
    unfold f_X9_reasonAgainst f_X9_isRun
    rw [g 0 7 (by omega), g (383 + x.toNatClampNeg) 0 (by omega), g (383 + x.toNatClampNeg) 5 (by omega), l]
/-- a dam's hour, in the model -/
theorem sp_mflows (w : WA s) (z : CA I L s) (z2 : MA I s) (om : OutM I F (aC s)) (rr : RunR I F (aC s) T rc) (hd : d < 3) (hl : up t0 (F 520 d)) (pl : pz (F 520 d)) (ht : t0 < 200) (e1 : I 498 1 = nI t0) (hmo : mo < 6) (em : I 518 d = nI mo) (eo : out = if aL s mo = -1 then 0 else OI I (aL s mo).toNatClampNeg t0) (ec : I 519 d = nI cap) (hc : cap ≤ 100000) (hg : I 524 d = -1 ∨ ∃ r, r < rc ∧ I 524 d = nI r)
    (hpk : kv pk) (epk : pk = if I 524 d = -1 then 0 else if f_X9_reasonAgainst (I 524 d) I = 0 then F 514 (I 524 d).toNatClampNeg else 0)
    (hru : I 521 d ≠ 0 → l ≤ 40 ∧ I 522 d = nI l ∧ Txt 1 (seg (I 523) (40 * d) l)) (eask : ask = if I 521 d = 0 then 0 else hdF (evalR (rnm (FP.i2f (nI t0)) (F 520 d) (fInf out) pk) (rF (rForm 1 (seg (I 523) (40 * d) l)))))
    (q : ∀ J H, MOI I J → PMF d t0 F H → OutM J H (aC s) → H 520 d = fLev (F 520 d) (fInf out) ask (FP.i2f (nI cap)) → H 525 (201 * d + t0) = fBel (F 520 d) (fInf out) ask (FP.i2f (nI cap)) → Q (.inl none) (G X J L H)) :
    WP mX10_flows 0 (am_ent 9 [.ref 498, .int (nI d)]) [] (G X I L F) 0 0 Q := by
  have hcc := w.1
  have ext : ∀ {J0 J : Nat → Nat → Int32} {H0 H : Nat → Nat → UInt32}, AIF J0 J → H 509 = H0 509 → OutM J0 H0 (aC s) → OutM J H (aC s) := fun a b o =>
    OutM.ext (funext fun k => a 502 k (by omega) (by decide) (by decide)) (funext fun k => a 503 k (by omega) (by decide) (by decide)) (funext fun k => a 504 k (by omega) (by decide) (by decide)) (funext fun k => a 507 k (by omega) (by decide) (by decide)) (funext fun k => a 510 k (by omega) (by decide) (by decide)) b o
  refine k_X10_flows_0 ⟨nI_in hd (by decide), ?_⟩
  rw [nI_clamp (show d < 2 ^ 31 by omega), em, nI_clamp (show mo < 2 ^ 31 by omega), z2.2.2 mo hmo, e1]
  refine ⟨nI_in hmo (by decide), fun e => ?_, fun e => ?_⟩
  · rw [if_pos e] at eo
    subst eo
    exact sp_fl30 w z z2 rr hd hl pl ht e1 kv_0 ec hc hg hpk epk hru eask (fun J H a b c1 d1 f1 => q J H (fun o k x1 x2 x3 _ => a o k x1 x2 x3) b (ext a c1 om) d1 f1)
  · rw [if_neg e] at eo
    obtain ⟨v, hv, ev, e2⟩ := lat_lt w hmo e
    rw [e2] at eo
    rw [ev]
    refine sp_outOf hv (show t0 < 201 by omega) om (fun J H i1 i2 om2 => ?_)
    rw [← eo]
    have g : ∀ o k, o ≠ 498 → o ≠ 537 → o ≠ 539 → o ≠ 510 → J o k = I o k := fun o k a b c d => i1 o k (fun n => a n.1) b c d
    have row : ∀ o, o ≠ 498 → o ≠ 537 → o ≠ 539 → o ≠ 510 → J o = I o := fun o a b c d => funext fun k => g o k a b c d
    have h520 : H 520 d = F 520 d := i2 520 d (by decide) (by decide)
    have rr2 : RunR J H (aC s) T rc := ⟨rr.1, (g 0 7 (by omega) (by omega) (by omega) (by omega)).trans rr.2.1, (i1 498 17 (by omega) (by decide) (by decide) (by decide)).trans rr.2.2.1, fun r hr => by
      have := rr.1
      exact (rr.2.2.2 r hr).fr (fun k => g _ k (by omega) (by omega) (by omega) (by omega)) (fun o h => row o (by omega) (by omega) (by omega) (by omega)) (i2 _ 3 (by omega) (by omega)) (funext fun k => i2 514 k (by decide) (by decide))⟩
    have zJ : CA J L s := z.hi (fun o k a b => g o k (by omega) (by omega) (by omega) (by omega)) hcc
    refine sp_fl30 (x2 := nI v) (pk := pk) (ask := ask) (l := l) w zJ (z2.mo i1) rr2 hd (by rw [h520]; exact hl) (by rw [h520]; exact pl) ht ((i1 498 1 (by omega) (by decide) (by decide) (by decide)).trans e1) (by rw [eo]; exact OO_kv) ((g 519 d (by decide) (by decide) (by decide) (by decide)).trans ec) hc (by rw [g 524 d (by decide) (by decide) (by decide) (by decide)]; exact hg) hpk ?_ (fun n => ?_) ?_ (fun J2 H2 a b c1 d1 f1 => ?_)
    · rw [g 524 d (by decide) (by decide) (by decide) (by decide)]
      rcases hg with hg | ⟨r, hr, eg⟩
      · rw [if_pos hg] at epk; rw [if_pos hg]; exact epk
      · have r40 := rr.1
        have me : f_X9_reasonAgainst (I 524 d) J = f_X9_reasonAgainst (I 524 d) I := by
          rcases mo_reason (x := I 524 d) i1 with h | h
          · exact h
          · rw [eg, nI_clamp (by omega)] at h; omega
        rw [me, i2 514 _ (by decide) (by decide)]
        exact epk
    · rw [row 523 (by decide) (by decide) (by decide) (by decide), g 522 d (by decide) (by decide) (by decide) (by decide)]
      exact hru (by rw [← g 521 d (by decide) (by decide) (by decide) (by decide)]; exact n)
    · rw [row 523 (by decide) (by decide) (by decide) (by decide), g 521 d (by decide) (by decide) (by decide) (by decide), h520]
      exact eask
    · rw [h520] at d1 f1
      exact q J2 H2 (fun o k x1 x2 x3 x4 => (a o k x1 x2 x3).trans (i1 o k x1 x2 x3 x4)) (fun o k x1 x2 x3 x4 x5 => (b o k x1 x2 x3 x4 x5).trans (i2 o k x1 x2)) (ext a c1 om2) d1 f1
end FY
