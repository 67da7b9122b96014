/-! own: publish and retire of the model -/
set_option maxRecDepth 100000
/-- what is laid while a call is judged -/
def MPF (I J : Nat → Nat → Int32) : Prop := ∀ o k, o ≠ 500 → o ≠ 506 → ¬ (o = 498 ∧ k = 0) → J o k = I o k
def retA (m : Nat) (s : AS) : AS := (aC s, aT s, aP s, (fun k => if k = m then -1 else aL s k), aM s)
section PY
variable {X : Nat × (Nat → Int32)} {I J K : Nat → Nat → Int32} {L : Nat → Nat → Int64} {F : Nat → Nat → UInt32} {Q : AQ} {c m k : Nat} {s zf : AS} {t : List Int32} {f lat : Nat → Bool}
theorem MPF.refl : MPF I I := fun _ _ _ _ _ => rfl
theorem MPF.f5 (h : MPF I J) (g : Fr1 500 J K) : MPF I K := fun o k a b d => (g o k a).trans (h o k a b d)
theorem MPF.f6 (h : MPF I J) (g : Fr1 506 J K) : MPF I K := fun o k a b d => (g o k b).trans (h o k a b d)
theorem MPF.th {x : Int32} (h : MPF I J) : MPF I (am_u J 498 0 x) := fun o k a b d => (am_u_ne (by by_cases e : o = 498; exact Or.inr (fun n => d ⟨e, n⟩); exact Or.inl e)).trans (h o k a b d)
theorem MPF.ma (h : MPF I J) (z : MA I s) : MA J s := by
  have e : ∀ o, o ≠ 500 → o ≠ 506 → o ≠ 498 → J o = I o := fun o a b d => funext fun k => h o k a b (fun n => d n.1)
  refine ⟨(h 498 5 (by decide) (by decide) (by decide)).trans z.1, ?_, fun k hk => ?_⟩
  · unfold MAv
    rw [e 502 (by decide) (by decide) (by decide), e 503 (by decide) (by decide) (by decide), e 504 (by decide) (by decide) (by decide), e 501 (by decide) (by decide) (by decide)]
    exact z.2.1
  · rw [e 505 (by decide) (by decide) (by decide)]; exact z.2.2 k hk
theorem MPF.dr (h : MPF I J) : J 499 = I 499 ∧ J 498 2 = I 498 2 := ⟨funext fun k => h 499 k (by decide) (by decide) (fun n => absurd n.1 (by decide)), h 498 2 (by decide) (by decide) (by decide)⟩
theorem isM10 (hm : m < 6) : f_X10_isModel (nI m) = 1 := by
  unfold f_X10_isModel f_X10_isIn
  rw [if_neg (fun n => by have := (nI_ltI (a := m) (b := 0) (by omega) (by decide)).mp n; omega), if_neg (fun n => by have := (nI_ltI (a := 5) (b := m) (by decide) (by omega)).mp n; omega)]
theorem holds_0 : f_X10_holds 0 = 1 := rfl
/-- the model publishes -/
theorem sp_mpublish {l : Nat} (w : WA s) (fr : Frsh s) (z : MA I s) (hl : l ≤ 40) (e2 : I 498 2 = nI l) (hm : m < 6) (hla : ∀ k, k < 6 → (lat k = true ↔ aL s k ≠ -1)) (hf : ∀ k, k < 6 → (f k = true ↔ RT (aN s) k m))
    (q1 : ¬ Txt 0 (seg (I 499) 0 l) → ∀ K, MPF I K → K 498 0 = 2 → Q (.inl (some (.int 0))) (G X K L F))
    (q2 : Txt 0 (seg (I 499) 0 l) → ¬ (cnB (msk 0 (seg (I 499) 0 l)) lat f m 6 = true ∧ aC s + 1 + cntB f 6 ≤ 60) → ∀ K, MPF I K → K 498 0 = 3 → Q (.inl (some (.int 0))) (G X K L F))
    (q3 : Txt 0 (seg (I 499) 0 l) → cnB (msk 0 (seg (I 499) 0 l)) lat f m 6 = true → aC s + 1 + cntB f 6 ≤ 60 → ∀ n zf, n ≤ 5 → BindR n (entA m (seg (I 499) 0 l) s) zf → WA zf → Frsh zf → aC zf = aC s + 1 + n → ∀ J K, MPF I J → J 498 0 = 0 → PG (aC s) J K zf → Q (.inl (some (.int (nI (aC s))))) (G X K L F)) :
    WP mX10_publish 0 (am_ent 8 [.ref 498, .int (nI m)]) [] (G X I L F) 0 0 Q := by
  have hc := w.1
  refine k_X10_publish_0 ⟨fun n => absurd n (by rw [isM10 hm]; decide), fun _ => sp_faultOf e2 hl (fun J1 f5 => k_X10_publish_14 (fun s15 e15 => ?_))⟩
  rw [← fault_eq (Or.inl rfl)] at e15
  have p1 : MPF I J1 := MPF.refl.f5 f5
  have slen : (seg (I 499) 0 l).length ≤ 40 := by rw [seg_len]; exact hl
  by_cases tx : Txt 0 (seg (I 499) 0 l)
  · rw [if_pos ((txt_fault slen).mpr tx)] at e15
    refine ⟨fun n => absurd n (by rw [e15]; decide), fun _ => ?_⟩
    have d1 := p1.dr
    have z1 := p1.ma z
    have hf1 : ∀ (J : Nat → Nat → Int32), MA J s → ∀ k, k < 6 → (f k = true ↔ RT (NM J) k m) := fun J zJ k hk => (hf k hk).trans (RT_congr (fun x hx => (zJ.nm w hx).symm) hk)
    refine sp_canName (n := l) (lat := lat) (f := f) hc (z1.vm w) (z1.lo w) (by rw [d1.1]; exact tx) (d1.2.trans e2) hm (hf1 _ z1) (fun k hk => by rw [z1.2.2 k hk]; exact hla k hk) (fun J2 f6 => k_X10_publish_33 ?_)
    rw [d1.1]
    have p2 : MPF I J2 := p1.f6 f6
    by_cases cn : cnB (msk 0 (seg (I 499) 0 l)) lat f m 6 = true
    · rw [if_pos cn]
      refine ⟨fun n => absurd n (by decide), fun _ => ?_⟩
      have z2 := p2.ma z
      refine sp_resting (f := f) hc (z2.vm w) (z2.lo w) hm (hf1 _ z2) (fun J3 f7 => k_X10_publish_47 (fun s50 e50 s62 e62 => ?_))
      have p3 : MPF I J3 := p2.f6 f7
      have cl := cntB_le f 6
      rw [z2.1, nI_1, nI_add] at e50
      have lt : (60 : Int32) < nI (aC s + 1 + cntB f 6) ↔ 60 < aC s + 1 + cntB f 6 := nI_ltI (a := 60) (by decide) (by omega)
      rw [isM10 hm, if_neg (show ¬ (1 : Int32) = 0 by decide), e15, if_neg (show ¬ (1 : Int32) = 0 by decide)] at e62
      by_cases le : aC s + 1 + cntB f 6 ≤ 60
      · rw [if_neg (fun n => by have := lt.mp n; omega)] at e50
        rw [e50, if_neg (show ¬ (1 : Int32) = 0 by decide)] at e62
        rw [e62]
        refine ⟨fun n => absurd n (by decide), fun _ => ?_⟩
        have p4 : MPF I (fI_X10_holds 0 J3) := p3.th
        have z4 := p4.ma z
        obtain ⟨w1, n, zf, h1, h2, h3, h4, h5⟩ := publish_ex w fr hm tx hla hf cn le
        have d4 := p4.dr
        rw [z4.1, nI_clamp (show aC s < 2 ^ 31 by omega)]
        have := h3.1
        exact ⟨nI_in (by omega) (by decide), sp_pubOk (l := l) (n := n) (zf := zf) w hm (by rw [d4.1]; exact tx) (d4.2.trans e2) z4 (by rw [d4.1]; exact w1) (by rw [d4.1]; exact h2) (by omega) (fun K g => q3 tx cn le n zf h1 h2 h3 h4 h5 _ K p4 am_u_eq g)⟩
      · rw [if_pos (lt.mpr (by omega))] at e50
        rw [e50, if_pos rfl] at e62
        rw [e62]
        exact ⟨fun _ => q2 tx (fun n => le n.2) _ p3.th am_u_eq, fun n => absurd rfl n⟩
    · rw [if_neg cn]
      refine ⟨fun _ s62 e62 => ?_, fun n => absurd rfl n⟩
      rw [isM10 hm, if_neg (show ¬ (1 : Int32) = 0 by decide), e15, if_neg (show ¬ (1 : Int32) = 0 by decide)] at e62
      rw [e62]
      exact ⟨fun _ => q2 tx (fun n => cn n.1) _ p2.th am_u_eq, fun n => absurd rfl n⟩
  · rw [if_neg (fun n => tx ((txt_fault slen).mp n))] at e15
    refine ⟨fun _ s62 e62 => ?_, fun n => absurd e15 n⟩
    rw [isM10 hm, if_neg (show ¬ (1 : Int32) = 0 by decide)] at e62
    rw [e62]
    exact ⟨fun _ => q1 tx _ p1.th am_u_eq, fun n => absurd rfl n⟩
theorem retA_ok (w : WA s) (fr : Frsh s) (hm : m < 6) (no : ∀ k, k < 6 → ¬ RT (aN s) k m) : WA (retA m s) ∧ Frsh (retA m s) := by
  have eL : ∀ k, k ≠ m → aL (retA m s) k = aL s k := fun k h => if_neg h
  refine ⟨⟨w.1, w.2.1, fun k hk => ?_⟩, fun k hk h => ?_⟩
  · by_cases e : k = m
    · exact Or.inl (if_pos e)
    · rw [eL k e]; exact w.2.2 k hk
  · obtain ⟨v, hv, ev, j, hj, h1, h2⟩ := h
    by_cases e : k = m
    · have : aL (retA m s) k = -1 := if_pos e
      have hc := w.1
      have hv2 : v < aC s := hv
      exact nI_m1 (by omega) (ev.symm.trans this)
    · rw [eL k e] at ev
      have h1 : aP s v j ≠ -1 := h1
      by_cases jm : j = m
      · subst jm
        have z : aL s k ≠ -1 := fun n => by have hc := w.1; have hv2 : v < aC s := hv; exact nI_m1 (by omega) (ev.symm.trans n)
        refine no k hk (RT.one ?_)
        have hc := w.1
        have hv2 : v < aC s := hv
        have e3 : aN s k = msk 0 (aT s v) := by unfold aN; rw [if_neg z, ev, nI_clamp (by omega)]
        rw [e3]
        exact (((w.2.1 v hv).2.1 j hj).2).mp h1
      · have h2 : aP s v j ≠ aL (retA m s) j := h2
        rw [eL j jm] at h2
        exact fr k hk ⟨v, hv, ev, j, hj, h1, h2⟩
theorem cntB_0 (h : ∀ k, k < 6 → f k = false) : cntB f 6 = 0 := by
  have : cntB f 6 ≤ cntB (fun _ => false) 6 := cntB_mono 6 (fun k hk u => by rw [h k hk] at u; cases u)
  exact Nat.le_zero.mp this
theorem cntB_pos {k : Nat} (hk : k < 6) (h : f k = true) : 0 < cntB f 6 := by
  have := cntB_lt (f := fun _ => false) (g := f) h rfl 6 hk (fun _ _ n => by cases n)
  omega
/-- the model retires -/
theorem sp_mretire (w : WA s) (z : MA I s) (hm : m < 6) (hf : ∀ k, k < 6 → (f k = true ↔ RT (aN s) k m))
    (q1 : (aL s m = -1 ∨ ∃ k, k < 6 ∧ f k = true) → ∀ K, MPF I K → K 498 0 = 2 → Q (.inl (some (.int 0))) (G X K L F))
    (q2 : aL s m ≠ -1 → (∀ k, k < 6 → f k = false) → ∀ J, MPF I J → J 498 0 = 0 → MA (am_u J 505 m (-1)) (retA m s) → Q (.inl (some (.int (aL s m)))) (G X (am_u J 505 m (-1)) L F)) :
    WP mX10_retire 0 (am_ent 4 [.ref 498, .int (nI m)]) [] (G X I L F) 0 0 Q := by
  have hc := w.1
  have cm : (nI m).toNatClampNeg = m := nI_clamp (by omega)
  refine k_X10_retire_0 ⟨fun n => absurd n (by rw [isM10 hm]; decide), fun _ => ?_⟩
  rw [cm, z.2.2 m hm]
  refine ⟨fun e => ⟨fun _ => q1 (Or.inl e) _ MPF.refl.th am_u_eq, fun n => absurd rfl n⟩, fun e => ?_⟩
  refine sp_resting (f := f) hc (z.vm w) (z.lo w) hm (fun k hk => (hf k hk).trans (RT_congr (fun x hx => (z.nm w hx).symm) hk)) (fun J f6 => k_X10_retire_29 (fun s29 e29 => ?_))
  have cl := cntB_le f 6
  have p : MPF I J := MPF.refl.f6 f6
  have hin : vp_in (nI m) 6 := nI_in hm (by decide)
  by_cases c0 : cntB f 6 = 0
  · rw [if_pos ((nI_le0 (by omega)).mpr c0)] at e29
    rw [e29]
    refine ⟨fun n => absurd n (by decide), fun _ => ⟨hin, hin, ?_⟩⟩
    have p2 : MPF I (fI_X10_holds 0 J) := p.th
    have z2 := p2.ma z
    rw [cm, z2.2.2 m hm]
    refine q2 e (fun k hk => Bool.eq_false_iff.mpr (fun n => by have := cntB_pos hk n; omega)) _ p2 am_u_eq ⟨(am_u_ne (Or.inl (by decide))).trans z2.1, ?_, fun k hk => ?_⟩
    · intro v hv
      obtain ⟨a, b, d, g⟩ := z2.2.1 v hv
      have e2 : am_u (fI_X10_holds 0 J) 505 m (-1) 502 = fI_X10_holds 0 J 502 := funext fun k => am_u_ne (Or.inl (by decide))
      have e3 : am_u (fI_X10_holds 0 J) 505 m (-1) 503 = fI_X10_holds 0 J 503 := funext fun k => am_u_ne (Or.inl (by decide))
      rw [e2, e3]
      exact ⟨a, b, fun k hk => (am_u_ne (Or.inl (by decide))).trans (d k hk), (am_u_ne (Or.inl (by decide))).trans g⟩
    · show _ = if k = m then -1 else aL s k
      by_cases km : k = m
      · rw [if_pos km, km, am_u_eq]
      · rw [if_neg km, am_u_ne (Or.inr km)]; exact z2.2.2 k hk
  · rw [if_neg (fun n => c0 ((nI_le0 (by omega)).mp n))] at e29
    rw [e29]
    have ex : ∃ k, k < 6 ∧ f k = true := by
      by_cases h : ∃ k, k < 6 ∧ f k = true
      · exact h
      · exact absurd (cntB_0 (fun k hk => Bool.eq_false_iff.mpr (fun n => h ⟨k, hk, n⟩))) c0
    exact ⟨fun _ => q1 (Or.inr ex) _ p.th am_u_eq, fun n => absurd rfl n⟩
end PY
