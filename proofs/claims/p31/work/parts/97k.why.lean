/-! own: why a run does not stand, both sides -/
set_option maxRecDepth 100000
/-- one run, in class and model -/
def Run1 (I : Nat → Nat → Int32) (F : Nat → Nat → UInt32) (c T r : Nat) : Prop := ∃ v a b, v < c ∧ a ≤ b ∧ b < 201 ∧ I (383 + r) 0 = nI v ∧ I 1000511 r = nI v ∧ I (383 + r) 1 = nI a ∧ I 1000512 r = nI a ∧ I (383 + r) 2 = nI b ∧ I 1000513 r = nI b ∧ F (383 + r) 3 = F 1000514 r ∧ kv (F 1000514 r) ∧ I (383 + r) 4 = I 1000515 r ∧ (∃ M, M ≤ T ∧ I 1000516 r = nI M) ∧ (I (383 + r) 5 ≠ 0 ↔ RP I r (GU I v))
def RunR (I : Nat → Nat → Int32) (F : Nat → Nat → UInt32) (c T rc : Nat) : Prop := rc ≤ 40 ∧ I 0 7 = nI rc ∧ I 1000498 17 = nI rc ∧ ∀ r, r < rc → Run1 I F c T r
/-- the model's tellings -/
def TelR (I : Nat → Nat → Int32) (T : Nat) : Prop := I 1000498 14 = nI T ∧ ∀ k, k < 603 → ∃ M, M ≤ T ∧ I 1000508 k = nI M
section WY
variable {X : Nat × (Nat × (Nat → Int32))} {I J K : Nat → Nat → Int32} {L M : Nat → Nat → Int64} {F H : Nat → Nat → UInt32} {Q : AQ} {c m r T rc : Nat} {s : AS}
theorem isRun9 (hr : rc ≤ 40) (e : I 0 7 = nI rc) (h : r < rc) : f_X9_isRun (nI r) I = 1 := by
  unfold f_X9_isRun
  rw [if_neg (nI_pos (by omega)), e, if_neg (fun n => by have := (nI_leI (a := rc) (b := r) (by omega) (by omega)).mp n; omega), if_neg (show ¬ (40 : Int32) ≤ nI r from fun n => by have := (nI_leI (a := 40) (b := r) (by decide) (by omega)).mp n; omega)]
theorem reason_v {v mo : Nat} (w : WA s) (z : CA I L s) (hr : rc ≤ 40) (e7 : I 0 7 = nI rc) (h : r < rc) (hv : v < aC s) (ev : I (383 + r) 0 = nI v) (hmo : mo < 6) (emo : aM s v = nI mo) :
    f_X9_reasonAgainst (nI r) I = if aL s mo = nI v then (if I (383 + r) 5 = 0 then 0 else 2) else 1 := by
  unfold f_X9_reasonAgainst f_X6_isLatest
  rw [isRun9 hr e7 h, if_neg (show ¬ (1 : Int32) = 0 by decide), nI_clamp (show r < 2 ^ 31 by omega), ev, has_lt w.1 z.1 hv, if_neg (show ¬ (1 : Int32) = 0 by decide), nI_clamp (show v < 2 ^ 31 by have := w.1; omega), (z.2.1 v hv).2.2.1, emo, lat_v hmo, z.2.2 mo hmo]
  by_cases e : aL s mo = nI v
  · rw [if_pos e, if_pos e, if_neg (show ¬ (1 : Int32) = 0 by decide)]
  · rw [if_neg e, if_neg e, if_pos rfl]
end WY
