/-! own: a dam's hour in the model -/
set_option maxRecDepth 100000
def PMF (d t0 : Nat) (F H : Nat → Nat → UInt32) : Prop := ∀ o k, o ≠ 538 → o ≠ 509 → ¬ (o = 498 ∧ 51 ≤ k ∧ k ≤ 53) → ¬ (o = 520 ∧ k = d) → ¬ (o = 525 ∧ k = 201 * d + t0) → H o k = F o k
section FX
variable {X : Nat × (Nat → Int32)} {I J K : Nat → Nat → Int32} {L : Nat → Nat → Int64} {F H : Nat → Nat → UInt32} {Q : AQ} {c d t0 cap mo rc l T : Nat} {s : AS} {out pk ask : UInt32}
theorem sp_fl30 {x2 : Int32} (w : WA s) (z : CA I L s) (z2 : MA I s) (rr : RunR I F (aC s) T rc) (hd : d < 3) (hl : up t0 (F 520 d)) (pl : pz (F 520 d)) (ht : t0 < 200) (e1 : I 498 1 = nI t0) (ho : kv out) (ec : I 519 d = nI cap) (hc : cap ≤ 100000) (hg : I 524 d = -1 ∨ ∃ r, r < rc ∧ I 524 d = nI r)
    (hpk : kv pk) (epk : pk = if I 524 d = -1 then 0 else if f_X9_reasonAgainst (I 524 d) I = 0 then F 514 (I 524 d).toNatClampNeg else 0)
    (hru : I 521 d ≠ 0 → l ≤ 40 ∧ I 522 d = nI l ∧ Txt 1 (seg (I 523) (40 * d) l)) (eask : ask = if I 521 d = 0 then 0 else hdF (evalR (rnm (FP.i2f (nI t0)) (F 520 d) (fInf out) pk) (rF (rForm 1 (seg (I 523) (40 * d) l)))))
    (q : ∀ J H, AIF I J → PMF d t0 F H → H 509 = F 509 → H 520 d = fLev (F 520 d) (fInf out) ask (FP.i2f (nI cap)) → H 525 (201 * d + t0) = fBel (F 520 d) (fInf out) ask (FP.i2f (nI cap)) → Q (.inl none) (G X J L H)) :
    WP mX10_flows 30 [some (.ref 498), some (.int (nI d)), some (.int x2), none, none, none, none, none, none] [.float out] (G X I L F) 0 0 Q := by
  have io := fInf_ok ho
  have hin : vp_in (nI d) 3 := nI_in hd (by decide)
  have ei : (201 : Int32) * nI d + nI t0 = nI (201 * d + t0) := by rw [show (201 : Int32) = nI 201 from rfl, nI_mul, nI_add]
  have hy : vp_in (nI (201 * d + t0)) 603 := nI_in (by omega) (by decide)
  have hka : kv ask := by
    rw [eask]
    split
    · exact kv_0
    · exact evalR_kv
  -- the end, the rule's answer known, on whatever the cells of the rule hold
  have fin1 : ∀ (F1 : Nat → Nat → UInt32), (∀ o k, ¬ (o = 498 ∧ 51 ≤ k ∧ k ≤ 53) → F1 o k = F o k) → I 521 d = 0 → Q (.inl none) (G X I L (am_u (am_u F1 520 d (fLev (F 520 d) (fInf out) ask (FP.i2f (nI cap)))) 525 (201 * d + t0) (fBel (F 520 d) (fInf out) ask (FP.i2f (nI cap))))) := fun F1 f1 _ =>
    q I _ (fun _ _ _ _ _ => rfl) (fun o k a b c d e => by rw [am_u_ne (by omega), am_u_ne (by omega)]; exact f1 o k c) (funext fun k => by rw [am_u_ne (by omega), am_u_ne (by omega)]; exact f1 509 k (by omega)) (by rw [am_u_ne (by omega), am_u_eq]) am_u_eq
  have fin2 : ∀ (F1 : Nat → Nat → UInt32), (∀ o k, ¬ (o = 498 ∧ 51 ≤ k ∧ k ≤ 53) → F1 o k = F o k) → F1 498 51 = F 520 d → F1 498 52 = fInf out → F1 498 53 = pk → I 521 d ≠ 0 → WP mX10_asked 0 (am_ent 3 [.ref 498, .int (nI d)]) [] (G X I L F1) 0 0 (am_kq mX10_flows 111 [some (.ref 498), some (.int (nI d)), some (.int x2), some (.float (fInf out)), none, none, none, none, none] [] (0 + am_bc mX10_asked) (0 + am_bs mX10_asked) Q) := fun F1 f1 a1 a2 a3 e6 => by
    obtain ⟨l40, e522, tx⟩ := hru e6
    rw [if_neg e6] at eask
    refine sp_asked hd l40 e522 tx e1 (by rw [a1]; exact hl.1) (by rw [a2]; exact io.1.nn) (by rw [a3]; exact hpk.nn) (fun J H i1 i2 => ?_)
    rw [a1, a2, a3, ← eask]
    have h520 : H 520 d = F 520 d := (i2 520 d (by decide)).trans (f1 520 d (by omega))
    refine sp_fl114 hd (by rw [h520]; exact hl) (by rw [h520]; exact pl) ht ((i1 498 1 (by omega) (by decide) (by decide)).trans e1) io.1 io.2 hka ((i1 519 d (by omega) (by decide) (by decide)).trans ec) hc ?_
    rw [h520]
    exact q J _ i1 (fun o k a b c d e => by rw [am_u_ne (by omega), am_u_ne (by omega), i2 o k a]; exact f1 o k c) (funext fun k => by rw [am_u_ne (by omega), am_u_ne (by omega), i2 509 k (by decide)]; exact f1 509 k (by omega)) (by rw [am_u_ne (by omega), am_u_eq]) am_u_eq
  refine k_X10_flows_30 (fun inf einf => ?_)
  have e3 : inf = fInf out := einf
  subst e3
  rw [nI_clamp (show d < 2 ^ 31 by omega), ec, e1, ei, nI_clamp (show 201 * d + t0 < 2 ^ 31 by omega)]
  refine ⟨hin, hin, fun g => ⟨hin, fun e6 => ⟨hin, ?_⟩, fun e6 => ?_⟩, fun g => ⟨hin, ?_⟩⟩
  · rw [if_pos e6] at eask
    subst eask
    exact fl_tree (R := fun a b => Q (.inl none) (G X I L (am_u (am_u (am_u (am_u (am_u F 498 51 (F 520 d)) 498 52 (fInf out)) 498 53 0) 520 d a) 525 (201 * d + t0) b))) hin hy hl pl ht io.1 io.2 kv_0 hc (fin1 _ (fun o k a => by rw [am_u_ne (by omega), am_u_ne (by omega), am_u_ne (by omega)]) e6)
  · rw [if_pos g] at epk
    exact fin2 _ (fun o k a => by rw [am_u_ne (by omega), am_u_ne (by omega), am_u_ne (by omega)]) (by rw [am_u_ne (by omega), am_u_ne (by omega), am_u_eq]) (by rw [am_u_ne (by omega), am_u_eq]) (by rw [am_u_eq, epk]) e6
  · rcases hg with hg | ⟨r, hr, eg⟩
    · exact absurd hg g
    rw [if_neg g, eg] at epk
    rw [eg]
    obtain ⟨r40, r7, r17, ru⟩ := rr
    have rr2 : RunR I (am_u (am_u F 498 51 (F 520 d)) 498 52 (fInf out)) (aC s) T rc := ⟨r40, r7, r17, fun r hr => (ru r hr).fr (fun _ => rfl) (fun _ _ => rfl) (by rw [am_u_ne (by omega), am_u_ne (by omega)]) (funext fun k => by rw [am_u_ne (by omega), am_u_ne (by omega)])⟩
    refine sp_whySame w z z2 rr2 hr (k_X10_flows_79 ?_)
    rw [nI_clamp (show d < 2 ^ 31 by omega), eg, nI_clamp (show r < 2 ^ 31 by omega), ec, e1, ei, nI_clamp (show 201 * d + t0 < 2 ^ 31 by omega)]
    refine ⟨fun _ => ⟨hin, nI_in (by omega) (by decide), trivial⟩, fun y ey => ?_⟩
    have ey2 : y = pk := by
      rw [ey, epk, nI_clamp (show r < 2 ^ 31 by omega), am_u_ne (by omega), am_u_ne (by omega)]
    subst ey2
    have f520 : am_u (am_u F 498 51 (F 520 d)) 498 52 (fInf out) 520 d = F 520 d := by rw [am_u_ne (by omega), am_u_ne (by omega)]
    rw [f520]
    refine ⟨hin, fun e6 => ⟨hin, ?_⟩, fun e6 => ?_⟩
    · rw [if_pos e6] at eask
      subst eask
      exact fl_tree (R := fun a b => Q (.inl none) (G X I L (am_u (am_u (am_u (am_u (am_u F 498 51 (F 520 d)) 498 52 (fInf out)) 498 53 y) 520 d a) 525 (201 * d + t0) b))) hin hy hl pl ht io.1 io.2 kv_0 hc (fin1 _ (fun o k a => by rw [am_u_ne (by omega), am_u_ne (by omega), am_u_ne (by omega)]) e6)
    · exact fin2 _ (fun o k a => by rw [am_u_ne (by omega), am_u_ne (by omega), am_u_ne (by omega)]) (by rw [am_u_ne (by omega), am_u_ne (by omega), am_u_eq]) (by rw [am_u_ne (by omega), am_u_eq]) am_u_eq e6
end FX
