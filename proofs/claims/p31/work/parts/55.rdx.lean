/-! own: reading a whole text -/
set_option maxRecDepth 100000
/-- cells of a row from the i-th on, m of them -/
def seg (g : Nat → Int32) : Nat → Nat → List Int32
  | _, 0 => []
  | i, m + 1 => g i :: seg g (i + 1) m
theorem seg_len {g : Nat → Int32} : ∀ (m i : Nat), (seg g i m).length = m
  | 0, _ => rfl
  | m + 1, i => by show (seg g (i + 1) m).length + 1 = m + 1; rw [seg_len m]
theorem seg_cong {g h : Nat → Int32} : ∀ (m i j : Nat), (∀ k, k < m → g (i + k) = h (j + k)) → seg g i m = seg h j m
  | 0, _, _, _ => rfl
  | m + 1, i, j, z => by
    show g i :: seg g (i + 1) m = h j :: seg h (j + 1) m
    rw [show g i = h j from z 0 (by omega), seg_cong m (i + 1) (j + 1) (fun k hk => by
      have := z (k + 1) (by omega)
      rw [show i + 1 + k = i + (k + 1) by omega, show j + 1 + k = j + (k + 1) by omega]; exact this)]
def rEndv (n : Nat) (r : RS) : Int32 := if rS (rFin r) = 6 then (if (rH (rFin r)).length = 0 then -1 else nI n) else nI n
/-- the fault of a text: -1, or the place -/
def rFault (rule : Int32) (t : List Int32) : Int32 := match rRun rule t 0 r0 with
  | .inl i => nI i
  | .inr r => rEndv t.length r
def rForm (rule : Int32) (t : List Int32) : RS := match rRun rule t 0 r0 with
  | .inl _ => r0
  | .inr r => rFin r
theorem nI_m1 {k : Nat} (h : k < 2 ^ 31) : nI k ≠ -1 := fun c => by
  have e := congrArg Int32.toInt c
  rw [nI_toInt h, show (-1 : Int32).toInt = -1 from by decide] at e
  omega
theorem rRun_lt {rule : Int32} : ∀ {l : List Int32} {i k : Nat} {r : RS}, rRun rule l i r = .inl k → k < i + l.length
  | [], i, k, r, h => by cases h
  | ch :: l, i, k, r, h => by
    unfold rRun at h
    simp only [List.length_cons]
    split at h
    · cases h; omega
    · have := rRun_lt h; omega
section RX
variable {X : Nat × (Nat × (Nat → Int32))} {I : Nat → Nat → Int32} {L : Nat → Nat → Int64} {F : Nat → Nat → UInt32} {Q : AQ} {rule : Int32}
theorem sp_read24 {n : Nat} (hn : I 1 1 = nI n) (h40 : n ≤ 40) : ∀ (m i : Nat) (r : RS) (J : Nat → Nat → Int32), i + m = n → Rd J rule r → RdFr I J → rSz r ≤ i →
    (∀ k J2, rRun rule (seg (I 2) i m) i r = .inl k → RdFr I J2 → Q (.inl (some (.int (nI k)))) (G X J2 L F)) →
    (∀ r2 J2, rRun rule (seg (I 2) i m) i r = .inr r2 → Rd J2 rule (rFin r2) → RdFr I J2 → Q (.inl (some (.int (rEndv n r2)))) (G X J2 L F)) →
    WP mX3_read 24 [some (.ref 3), some (.ref 1), some (.int rule), some (.int (nI i))] [] (G X J L F) 0 0 Q
  | 0, i, r, J, hi, z, fr, hs, q1, q2 => by
    have e1 : J 1 1 = nI n := (fr 1 1 (by omega)).trans hn
    have hp : (rF r).length + (rH r).length + rPend r ≤ i := hs
    have a := rEnd_Rd z (fun e => by omega)
    have es := rEnd_sz (r := r)
    refine k_X3_read_24 ⟨fun _ => ?_, fun c => absurd (by rw [e1, nI_leI (by omega) (by omega)]; omega) c⟩
    refine sp_settle a.1 (by omega) (fun J2 hJ fr2 => k_X3_read_71 (fun s e => ?_))
    rw [show J2 3 4 = rS (rFin r) from hJ.2.2.2.2.1, show J2 3 3 = nI (rH (rFin r)).length from hJ.1, (fr2 1 1 (by omega)).trans ((a.2 1 1 (by omega)).trans e1)] at e
    have e2 : s = rEndv n r := by
      rw [e]
      unfold rEndv
      have ll := rSet_sz (s := 1) (r := rEnd r)
      have lz : (nI (rH (rFin r)).length = 0) ↔ (rH (rFin r)).length = 0 := nI_eq (b := 0) (by unfold rFin; omega) (by decide)
      by_cases c : (rH (rFin r)).length = 0
      · rw [if_pos c, if_pos (lz.mpr c)]
      · rw [if_neg c, if_neg (fun y => c (lz.mp y))]
    rw [e2]
    exact q2 r J2 rfl hJ (fr.trans (a.2.trans fr2))
  | m + 1, i, r, J, hi, z, fr, hs, q1, q2 => by
    have e1 : J 1 1 = nI n := (fr 1 1 (by omega)).trans hn
    have ci : (nI i).toNatClampNeg = i := nI_clamp (by omega)
    refine k_X3_read_24 ⟨fun c => absurd ((nI_leI (a := n) (b := i) (by omega) (by omega)).mp (by rw [← e1]; exact c)) (by omega), fun _ => ⟨fun c => absurd ((nI_leI (a := 40) (by decide) (by omega)).mp c) (by omega), fun _ => ⟨nI_in (by omega) (by decide), ?_⟩⟩⟩
    rw [ci, show J 2 i = I 2 i from fr 2 i (by omega)]
    refine sp_takes z (by omega) (fun v J2 h => k_X3_read_51 ?_)
    have u : rRun rule (seg (I 2) i (m + 1)) i r = match rStep rule (I 2 i) r with
      | none => .inl i
      | some r2 => rRun rule (seg (I 2) (i + 1) m) (i + 1) r2 := rfl
    cases hr : rStep rule (I 2 i) r with
    | none =>
      rw [hr] at h u
      have h0 := h.2 rfl
      rw [h0.1]
      exact ⟨fun _ => q1 i J2 u (fr.trans h0.2), fun c => absurd rfl c⟩
    | some r2 =>
      have sz := step_sz hr
      rw [hr] at h u
      have h1 := h.1 r2 rfl
      rw [h1.1]
      refine ⟨fun c => absurd c (by decide), fun _ => ?_⟩
      rw [nI_1]
      exact sp_read24 hn h40 m (i + 1) r2 J2 (by omega) h1.2.1 (fr.trans h1.2.2) (by omega) (fun k J3 e f => q1 k J3 (u.trans e) f) (fun r3 J3 e f g => q2 r3 J3 (u.trans e) f g)
theorem sp_read {n : Nat} (hn : I 1 1 = nI n) (h40 : n ≤ 40) (hr : rule = 0 ∨ rule = 1) (q : ∀ J, RdFr I J → (rFault rule (seg (I 2) 0 n) = -1 → Rd J rule (rForm rule (seg (I 2) 0 n))) → Q (.inl (some (.int (rFault rule (seg (I 2) 0 n))))) (G X J L F)) : WP mX3_read 0 (am_ent 4 [.ref 3, .ref 1, .int rule]) [] (G X I L F) 0 0 Q := by
  refine k_X3_read_0 ⟨hr, ?_⟩
  have z : Rd (am_u (am_u (am_u (fI_X2_clear 4 I) 3 3 0) 3 4 0) 3 5 rule) rule r0 := by
    unfold fI_X2_clear
    refine ⟨?_, trivial, ?_, trivial, ?_, am_u_eq, nst (by decide) (by decide) (by decide), fun c => absurd c (by decide), ?_, ?_⟩
    · rw [am_u_ne (by omega), am_u_ne (by omega), am_u_eq]; rfl
    · rw [am_u_ne (by omega), am_u_ne (by omega), am_u_ne (by omega), am_u_ne (by omega), am_u_ne (by omega), am_u_eq]; rfl
    · rw [am_u_ne (by omega), am_u_eq]; rfl
    · rw [am_u_ne (by omega), am_u_ne (by omega), am_u_ne (by omega), am_u_ne (by omega), am_u_eq]; rfl
    · rw [am_u_ne (by omega), am_u_ne (by omega), am_u_ne (by omega), am_u_eq]; rfl
  have fr : RdFr I (am_u (am_u (am_u (fI_X2_clear 4 I) 3 3 0) 3 4 0) 3 5 rule) := by
    unfold fI_X2_clear
    exact RdFr_u (by decide) (by decide) (RdFr_u (by decide) (by decide) (RdFr_u (by decide) (by decide) (RdFr_u (by decide) (by decide) (RdFr_u (by decide) (by decide) (RdFr_u (by decide) (by decide) RdFr.refl)))))
  refine sp_read24 hn h40 n 0 r0 _ (by omega) z fr (Nat.le_refl _) (fun k J e f => ?_) (fun r2 J e f g => ?_)
  · have e1 : rFault rule (seg (I 2) 0 n) = nI k := by unfold rFault; rw [e]
    have e2 := q J f
    rw [e1] at e2
    have lt := rRun_lt e
    rw [seg_len] at lt
    exact e2 (fun c => absurd c (nI_m1 (by omega)))
  · have e1 : rFault rule (seg (I 2) 0 n) = rEndv n r2 := by unfold rFault; rw [e]; show rEndv (seg (I 2) 0 n).length r2 = _; rw [seg_len]
    have e3 : rForm rule (seg (I 2) 0 n) = rFin r2 := by unfold rForm; rw [e]
    have e2 := q J g
    rw [e1, e3] at e2
    exact e2 (fun _ => f)
end RX
