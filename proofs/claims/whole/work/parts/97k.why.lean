/-! own: why a run does not stand, both sides -/
set_option maxRecDepth 100000
/-- one run, in class and model -/
def Run1 (I : Nat → Nat → Int32) (F : Nat → Nat → UInt32) (c T r : Nat) : Prop := ∃ v a b, v < c ∧ a ≤ b ∧ b < 201 ∧ I (383 + r) 0 = nI v ∧ I 511 r = nI v ∧ I (383 + r) 1 = nI a ∧ I 512 r = nI a ∧ I (383 + r) 2 = nI b ∧ I 513 r = nI b ∧ F (383 + r) 3 = F 514 r ∧ kv (F 514 r) ∧ I (383 + r) 4 = I 515 r ∧ (∃ M, M ≤ T ∧ I 516 r = nI M) ∧ (I (383 + r) 5 ≠ 0 ↔ RP I r (GU I v))
def RunR (I : Nat → Nat → Int32) (F : Nat → Nat → UInt32) (c T rc : Nat) : Prop := rc ≤ 40 ∧ I 0 7 = nI rc ∧ I 498 17 = nI rc ∧ ∀ r, r < rc → Run1 I F c T r
/-- the model's tellings -/
def TelR (I : Nat → Nat → Int32) (T : Nat) : Prop := I 498 14 = nI T ∧ ∀ k, k < 603 → ∃ M, M ≤ T ∧ I 508 k = nI M
section WY
variable {X : Nat × (Nat → Int32)} {I J K : Nat → Nat → Int32} {L M : Nat → Nat → Int64} {F H : Nat → Nat → UInt32} {Q : AQ} {c m r T rc : Nat} {s : AS}
theorem isRun9 (hr : rc ≤ 40) (e : I 0 7 = nI rc) (h : r < rc) : f_X9_isRun (nI r) I = 1 := by
  unfold f_X9_isRun
  rw [if_neg (nI_pos (by omega)), e, if_neg (fun n => by have := (nI_leI (a := rc) (b := r) (by omega) (by omega)).mp n; omega), if_neg (show ¬ (40 : Int32) ≤ nI r from fun n => by have := (nI_leI (a := 40) (b := r) (by decide) (by omega)).mp n; omega)]
theorem isRun10 (hr : rc ≤ 40) (e : I 498 17 = nI rc) (h : r < rc) : f_X10_isRun (nI r) I = 1 := by
  unfold f_X10_isRun f_X10_isIn
  have e2 : nI rc - 1 = nI (rc - 1) := by
    have := nI_1 (a := rc - 1)
    rw [show rc - 1 + 1 = rc by omega] at this
    rw [← this, Int32.add_sub_cancel]
  rw [if_neg (nI_pos (by omega)), e, e2, if_neg (fun n => by have := (nI_ltI (a := rc - 1) (b := r) (by omega) (by omega)).mp n; omega)]
theorem reason_v {v mo : Nat} (w : WA s) (z : CA I L s) (hr : rc ≤ 40) (e7 : I 0 7 = nI rc) (h : r < rc) (hv : v < aC s) (ev : I (383 + r) 0 = nI v) (hmo : mo < 6) (emo : aM s v = nI mo) :
    f_X9_reasonAgainst (nI r) I = if aL s mo = nI v then (if I (383 + r) 5 = 0 then 0 else 2) else 1 := by
  unfold f_X9_reasonAgainst f_X6_isLatest
  rw [isRun9 hr e7 h, if_neg (show ¬ (1 : Int32) = 0 by decide), nI_clamp (show r < 2 ^ 31 by omega), ev, has_lt w.1 z.1 hv, if_neg (show ¬ (1 : Int32) = 0 by decide), nI_clamp (show v < 2 ^ 31 by have := w.1; omega), (z.2.1 v hv).2.2.1, emo, lat_v hmo, z.2.2 mo hmo]
  by_cases e : aL s mo = nI v
  · rw [if_pos e, if_pos e, if_neg (show ¬ (1 : Int32) = 0 by decide)]
  · rw [if_neg e, if_neg e, if_pos rfl]
/-- the model finds what the class finds -/
theorem sp_whySame (w : WA s) (z : CA I L s) (z2 : MA I s) (rr : RunR I F (aC s) T rc) (h : r < rc) (q : Q (.inl (some (.int (f_X9_reasonAgainst (nI r) I)))) (G X I L F)) : WP mX10_whyOf 0 (am_ent 7 [.ref 498, .int (nI r)]) [] (G X I L F) 0 0 Q := by
  obtain ⟨hr, e7, e17, ru⟩ := rr
  obtain ⟨v, a, b, hv, hab, hb, e0, e511, _, _, _, _, _, _, _, _, st⟩ := ru r h
  obtain ⟨mo, hmo, emo⟩ := (w.2.1 v hv).2.2
  have rv := reason_v w z hr e7 h hv e0 hmo emo
  refine sp_whyOf w.1 (by omega) hv (z2.vm w) e511 (((z2.2.1 v hv).2.2.2).trans emo) hmo (fun x h1 h2 h3 => ?_)
  rw [z2.2.2 mo hmo] at h1 h2 h3
  have e : x = f_X9_reasonAgainst (nI r) I := by
    rw [rv]
    by_cases c1 : aL s mo = nI v
    · rw [if_pos c1]
      by_cases c2 : I (383 + r) 5 = 0
      · rw [if_pos c2]; exact h3 c1 (fun n => st.mpr n c2)
      · rw [if_neg c2]; exact h2 c1 (st.mp c2)
    · rw [if_neg c1]; exact h1 c1
  rw [e]
  exact q
/-- whether a run is good for a dam: both sides -/
theorem sp_isForSame {d : Nat} (w : WA s) (z : CA I L s) (z2 : MA I s) (rr : RunR I F (aC s) T rc) (h : r < rc) (hd : d < 3) (em : I (423 + 5 * d) 3 = I 518 d) (q : Q (.inl (some (.int (f_X9_isGoodFor (nI r) (423 + 5 * d) I)))) (G X I L F)) : WP mX10_isFor 0 (am_ent 3 [.ref 498, .int (nI d), .int (nI r)]) [] (G X I L F) 0 0 Q := by
  have rr2 := rr
  obtain ⟨hr, e7, e17, ru⟩ := rr
  obtain ⟨v, a, b, hv, hab, hb, e0, e511, _⟩ := ru r h
  obtain ⟨mo, hmo, emo⟩ := (w.2.1 v hv).2.2
  have hc := w.1
  refine k_X10_isFor_0 (sp_whySame w z z2 rr2 h (k_X10_isFor_5 ?_))
  rw [nI_clamp (show r < 2 ^ 31 by omega), nI_clamp (show d < 2 ^ 31 by omega), e511, nI_clamp (show v < 2 ^ 31 by omega)]
  have e : f_X9_isGoodFor (nI r) (423 + 5 * d) I = if f_X9_reasonAgainst (nI r) I = 0 then (if I 501 v = I 518 d then 1 else 0) else 0 := by
    unfold f_X9_isGoodFor f_X6_modelOf
    rw [isRun9 hr e7 h, if_neg (show ¬ (1 : Int32) = 0 by decide), nI_clamp (show r < 2 ^ 31 by omega), e0, has_lt w.1 z.1 hv, if_neg (show ¬ (1 : Int32) = 0 by decide), nI_clamp (show v < 2 ^ 31 by omega), (z.2.1 v hv).2.2.1, (z2.2.1 v hv).2.2.2, em]
  refine ⟨fun _ => ⟨nI_in (by omega) (by decide), nI_in (by omega) (by decide), nI_in hd (by decide), trivial⟩, fun x ex => ⟨?_, ?_⟩⟩
  · rw [ex]
    split
    · split
      · exact Or.inr rfl
      · exact Or.inl rfl
    · exact Or.inl rfl
  · rw [ex, ← e]
    exact q
end WY
