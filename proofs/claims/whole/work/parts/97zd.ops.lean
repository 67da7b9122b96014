/-! own: calls that ask, both sides -/
set_option maxRecDepth 100000
def plA (e : Nat) : Nat := if e = 0 then 1 else 0
def plB (e : Nat) : Nat := if e = 1 then 1 else if e = 2 then 2 else 0
def plC (e : Nat) : Nat := if e < 3 then e + 1 else 0
def plD (e : Nat) : Nat := if e = 0 then 1 else if e = 2 then 2 else 0
def plE (e : Nat) : Nat := if e = 0 then 1 else if e = 1 then 2 else 0
/-- the model answers v and the invariant stands -/
def AnsV (X : Nat × (Nat → Int32)) (N y : Nat) (ent : List (Option Value)) (v : Int32) (I : Nat → Nat → Int32) (L : Nat → Nat → Int64) (F : Nat → Nat → UInt32) : Prop := ∀ Q : AQ, (∀ J H, Inv N J L H → J 498 0 = 0 → Q (.inl (some (.int v))) (G X J L H)) → WP y 0 ent [] (G X I L F) 0 0 Q
/-- the model throws its exception e -/
def AnsE (X : Nat × (Nat → Int32)) (N y : Nat) (ent : List (Option Value)) (e : Nat) (I : Nat → Nat → Int32) (L : Nat → Nat → Int64) (F : Nat → Nat → UInt32) : Prop := ∀ Q : AQ, (∀ b J H, Inv N J L H → J 498 0 = nI e → Q (.inl (some (.int b))) (G X J L H)) → WP y 0 ent [] (G X I L F) 0 0 Q
/-- the same, of a call that answers nothing -/
def AnsN (X : Nat × (Nat → Int32)) (N y : Nat) (ent : List (Option Value)) (e : Nat) (I : Nat → Nat → Int32) (L : Nat → Nat → Int64) (F : Nat → Nat → UInt32) : Prop := ∀ Q : AQ, (∀ J H, Inv N J L H → J 498 0 = nI e → Q (.inl none) (G X J L H)) → WP y 0 ent [] (G X I L F) 0 0 Q
/-- the class's call and then the model's agree -/
def OpV (X : Nat × (Nat → Int32)) (N : Nat) (pl : Nat → Nat) (cls : AQ → Prop) (y : Nat) (ent : List (Option Value)) : Prop := ∀ Q : AQ, (∀ v J M H, (∀ z, AnsV X N y ent v J (am_u M 540 0 z) H) → Q (.inl (some (.int v))) (G X J M H)) → (∀ e J M H, pl e ≠ 0 → AnsE X N y ent (pl e) J M H → Q (.inr e) (G X J M H)) → cls Q
def OpN (X : Nat × (Nat → Int32)) (N : Nat) (pl : Nat → Nat) (cls : AQ → Prop) (y : Nat) (ent : List (Option Value)) : Prop := ∀ Q : AQ, (∀ J M H, AnsN X N y ent 0 J M H → Q (.inl none) (G X J M H)) → (∀ e J M H, pl e ≠ 0 → AnsN X N y ent (pl e) J M H → Q (.inr e) (G X J M H)) → cls Q
section RG
variable {I : Nat → Nat → Int32} {x : Int32} {c rc sc t n : Nat}
theorem m9_1 (i : InN x 6) : f_X9_isModel x = 1 := by
  obtain ⟨k, hk, e⟩ := i
  rw [e]; exact isM9 hk
theorem m9_0 (i : ¬ InN x 6) : f_X9_isModel x = 0 := by
  unfold f_X9_isModel
  by_cases a : x < 0
  · rw [if_pos a]
  · rw [if_neg a]
    by_cases b : 6 ≤ x
    · rw [if_pos b]
    · exact absurd ((inN_lt (n := 6) (by decide)).mp ⟨a, Int32.not_le.mp b⟩) i
theorem m10_1 (i : InN x 6) : f_X10_isModel x = 1 := isIn_1 (n := 5) (by decide) i
theorem m10_0 (i : ¬ InN x 6) : f_X10_isModel x = 0 := isIn_0 (n := 5) (by decide) i
theorem d9_1 (i : InN x 3) : f_X9_isDam x = 1 := by
  obtain ⟨k, hk, e⟩ := i
  rw [e]; exact isDm hk
theorem d9_0 (i : ¬ InN x 3) : f_X9_isDam x = 0 := by
  unfold f_X9_isDam
  by_cases a : x < 0
  · rw [if_pos a]
  · rw [if_neg a]
    by_cases b : 3 ≤ x
    · rw [if_pos b]
    · exact absurd ((inN_lt (n := 3) (by decide)).mp ⟨a, Int32.not_le.mp b⟩) i
theorem d10_1 (i : InN x 3) : f_X10_isDam x = 1 := isIn_1 (n := 2) (by decide) i
theorem d10_0 (i : ¬ InN x 3) : f_X10_isDam x = 0 := isIn_0 (n := 2) (by decide) i
theorem isInS_1 (hn : n < 2147483648) (i : InN x n) : f_X10_isIn x 0 (nI n - 1) = 1 := by
  cases n with
  | zero => obtain ⟨k, hk, _⟩ := i; omega
  | succ m =>
    rw [show nI (m + 1) - 1 = nI m by rw [← nI_1, Int32.add_sub_cancel]]
    exact isIn_1 (by omega) i
theorem isInS_0 (hn : n < 2147483648) (i : ¬ InN x n) : f_X10_isIn x 0 (nI n - 1) = 0 := by
  cases n with
  | zero =>
    unfold f_X10_isIn
    by_cases a : x < 0
    · rw [if_pos a]
    · rw [if_neg a, if_pos]
      exact Int32.lt_of_lt_of_le (show nI 0 - 1 < 0 by decide) (Int32.not_lt.mp a)
  | succ m =>
    rw [show nI (m + 1) - 1 = nI m by rw [← nI_1, Int32.add_sub_cancel]]
    exact isIn_0 (by omega) i
theorem tri_0 {m : Nat} (hn : n < 2147483648) (i : ¬ InN x n) : (if x < 0 then (0 : Int32) else (if nI n ≤ x then 0 else (if nI m ≤ x then 0 else 1))) = 0 := by
  by_cases a : x < 0
  · rw [if_pos a]
  · rw [if_neg a]
    by_cases b : nI n ≤ x
    · rw [if_pos b]
    · exact absurd ((inN_lt hn).mp ⟨a, Int32.not_le.mp b⟩) i
theorem tri_1 {m : Nat} (hm : m < 2147483648) (h : n ≤ m) (i : InN x n) : (if x < 0 then (0 : Int32) else (if nI n ≤ x then 0 else (if nI m ≤ x then 0 else 1))) = 1 := by
  obtain ⟨k, hk, e⟩ := i
  subst e
  rw [if_neg (nI_pos (by omega)), if_neg (fun z => by have := (nI_leI (by omega) (by omega)).mp z; omega), if_neg (fun z => by have := (nI_leI (by omega) (by omega)).mp z; omega)]
theorem r9_1 (hr : rc ≤ 40) (e : I 0 7 = nI rc) (i : InN x rc) : f_X9_isRun x I = 1 := by
  unfold f_X9_isRun; rw [e]; exact tri_1 (m := 40) (by decide) hr i
theorem r9_0 (hr : rc ≤ 40) (e : I 0 7 = nI rc) (i : ¬ InN x rc) : f_X9_isRun x I = 0 := by
  unfold f_X9_isRun; rw [e]; exact tri_0 (m := 40) (by omega) i
theorem r10_1 (hr : rc ≤ 40) (e : I 498 17 = nI rc) (i : InN x rc) : f_X10_isRun x I = 1 := by
  unfold f_X10_isRun; rw [e]; exact isInS_1 (by omega) i
theorem r10_0 (hr : rc ≤ 40) (e : I 498 17 = nI rc) (i : ¬ InN x rc) : f_X10_isRun x I = 0 := by
  unfold f_X10_isRun; rw [e]; exact isInS_0 (by omega) i
theorem v9_1 (hr : c ≤ 60) (e : I 9 4 = nI c) (i : InN x c) : f_X6_has x I = 1 := by
  unfold f_X6_has; rw [e]; exact tri_1 (m := 60) (by decide) hr i
theorem v9_0 (hr : c ≤ 60) (e : I 9 4 = nI c) (i : ¬ InN x c) : f_X6_has x I = 0 := by
  unfold f_X6_has; rw [e]; exact tri_0 (m := 60) (by omega) i
theorem v10_1 (hr : c ≤ 60) (e : I 498 5 = nI c) (i : InN x c) : f_X10_isVersion x I = 1 := by
  unfold f_X10_isVersion; rw [e]; exact isInS_1 (by omega) i
theorem v10_0 (hr : c ≤ 60) (e : I 498 5 = nI c) (i : ¬ InN x c) : f_X10_isVersion x I = 0 := by
  unfold f_X10_isVersion; rw [e]; exact isInS_0 (by omega) i
theorem s9_1 (hr : sc ≤ 60) (e : I 0 8 = nI sc) (i : InN x sc) : f_X9_isSiren x I = 1 := by
  unfold f_X9_isSiren; rw [e]; exact tri_1 (m := 60) (by decide) hr i
theorem s9_0 (hr : sc ≤ 60) (e : I 0 8 = nI sc) (i : ¬ InN x sc) : f_X9_isSiren x I = 0 := by
  unfold f_X9_isSiren; rw [e]; exact tri_0 (m := 60) (by omega) i
theorem hol_0 {p : Int32} (h : p ≠ 0) : f_X10_holds p = 0 := if_neg h
theorem hol_1 : f_X10_holds 0 = 1 := if_pos rfl
theorem n10 : ¬ (1 : Int32) = 0 := by decide
theorem bits0 : f_Jxf58ca_floatToIntBits_5c35a 0 = UInt32.toInt32 0 := ftib nn_0
end RG
section OA
variable {X : Nat × (Nat → Int32)} {I J : Nat → Nat → Int32} {L M : Nat → Nat → Int64} {F H : Nat → Nat → UInt32} {N : Nat} {p0 p1 p2 p3 : Int32}
theorem Inv.thr2 {y : Int32} {z : Int64} (iv : Inv N I L F) : Inv (N + 1) (am_u I 498 0 y) (am_u L 540 0 z) F := (iv.thr.l540).up (by omega)
theorem Inv.thr1 {y : Int32} (iv : Inv N I L F) : Inv (N + 1) (am_u I 498 0 y) L F := iv.thr.up (by omega)
theorem op_latest (iv : Inv N I L F) : OpV X (N + 1) plA (fun Q => WP mX9_latest 0 (am_ent 2 [.ref 0, .int p0]) [] (G X I L F) 0 0 Q) mX10_latest (am_ent 2 [.ref 498, .int p0]) := by
  intro Q qv qe
  have iv0 := iv
  obtain ⟨s, T, rc, sc, t, n, vi, _⟩ := iv
  by_cases i : InN p0 6
  · refine k_X9_latest_0 ⟨fun a => absurd a (by rw [m9_1 i]; exact n10), fun _ => qv _ _ _ _ (fun z Q2 q => ?_)⟩
    have i2 := i
    obtain ⟨k, hk, e⟩ := i2
    have ev : f_X6_latestOf p0 I = I 505 k := by rw [e, lat_v hk, vi.1.2.2.1.2.2 k hk, vi.1.2.2.2.2.2 k hk]
    refine s_X10_latest ?_ ?_
    · unfold p_X10_latest
      rw [m10_1 i, if_neg n10]
      exact ⟨fun _ => ⟨by rw [e]; exact nI_in hk (by decide), trivial⟩, trivial⟩
    · unfold f_X10_latest fI_X10_latest fI_X10_holds
      rw [m10_1 i, if_neg n10, hol_1, if_neg n10, e, nI_clamp (by omega), am_u_ne (by omega)]
      rw [ev] at q
      exact q _ _ iv0.thr2 am_u_eq
  · refine k_X9_latest_0 ⟨fun _ => qe 0 _ _ _ (by decide) (fun Q2 q => ?_), fun a => absurd (m9_0 i) a⟩
    refine s_X10_latest ?_ ?_
    · unfold p_X10_latest
      rw [m10_0 i, if_pos rfl, hol_0 (by decide)]
      exact ⟨fun a => absurd rfl a, trivial⟩
    · unfold f_X10_latest fI_X10_latest fI_X10_holds
      rw [m10_0 i, if_pos rfl]
      exact q _ _ _ iv0.thr1 am_u_eq
theorem op_pin (iv : Inv N I L F) : OpV X (N + 1) plA (fun Q => WP mX9_pin 0 (am_ent 3 [.ref 0, .int p0, .int p1]) [] (G X I L F) 0 0 Q) mX10_pin (am_ent 3 [.ref 498, .int p0, .int p1]) := by
  intro Q qv qe
  have iv0 := iv
  obtain ⟨s, T, rc, sc, t, n, vi, _⟩ := iv
  have hc := vi.1.1.1
  have c9 := vi.1.2.2.1.1
  have c10 := vi.1.2.2.2.1
  by_cases i : InN p0 (aC s) ∧ InN p1 6
  · obtain ⟨i, j⟩ := i
    refine k_X9_pin_0 ⟨fun a => absurd a (by rw [v9_1 hc c9 i]; exact n10), fun _ => ⟨fun a => absurd a (by rw [m9_1 j]; exact n10), fun _ => qv _ _ _ _ (fun z Q2 q => ?_)⟩⟩
    obtain ⟨v, hv, e⟩ := i
    obtain ⟨k, hk, e2⟩ := j
    have ix : (6 : Int32) * p0 + p1 = nI (6 * v + k) := by rw [e, e2, show (6 : Int32) = nI 6 from rfl, nI_mul, nI_add]
    have ev : f_X6_pinOf p0 p1 I = I 504 (6 * v + k) := by
      unfold f_X6_pinOf
      rw [v9_1 hc c9 ⟨v, hv, e⟩, if_neg n10, m9_1 ⟨k, hk, e2⟩, if_neg n10, e, e2, nI_clamp (show v < 2 ^ 31 by omega), nI_clamp (show k < 2 ^ 31 by omega), (vi.1.2.2.1.2.1 v hv).2.1 k hk, (vi.1.2.2.2.2.1 v hv).2.2.1 k hk]
    refine s_X10_pin ?_ ?_
    · unfold p_X10_pin
      rw [ix]
      exact ⟨fun _ => ⟨nI_in (by omega) (by decide), trivial⟩, trivial⟩
    · unfold f_X10_pin fI_X10_pin fI_X10_holds
      rw [v10_1 hc c10 ⟨v, hv, e⟩, if_neg n10, m10_1 ⟨k, hk, e2⟩, if_neg n10, hol_1, if_neg n10, ix, nI_clamp (show 6 * v + k < 2 ^ 31 by omega), am_u_ne (by omega), ← ev]
      exact q _ _ iv0.thr2 am_u_eq
  · have md : ∀ Q2 : AQ, (∀ b J H, Inv (N + 1) J L H → J 498 0 = nI 1 → Q2 (.inl (some (.int b))) (G X J L H)) → WP mX10_pin 0 (am_ent 3 [.ref 498, .int p0, .int p1]) [] (G X I L F) 0 0 Q2 := fun Q2 q => by
      have pz : (if f_X10_isVersion p0 I = 0 then (1 : Int32) else (if f_X10_isModel p1 = 0 then 1 else 0)) = 1 := by
        by_cases a : InN p0 (aC s)
        · rw [v10_1 hc c10 a, if_neg n10, m10_0 (fun b => i ⟨a, b⟩), if_pos rfl]
        · rw [v10_0 hc c10 a, if_pos rfl]
      refine s_X10_pin ?_ ?_
      · unfold p_X10_pin
        rw [pz, hol_0 (by decide)]
        exact ⟨fun a => absurd rfl a, trivial⟩
      · unfold f_X10_pin fI_X10_pin fI_X10_holds
        rw [pz]
        exact q _ _ _ iv0.thr1 am_u_eq
    refine k_X9_pin_0 ⟨fun _ => qe 0 _ _ _ (by decide) md, fun a => ⟨fun _ => qe 0 _ _ _ (by decide) md, fun b => absurd ⟨?_, ?_⟩ i⟩⟩
    · exact Classical.byContradiction fun h => a (v9_0 hc c9 h)
    · exact Classical.byContradiction fun h => b (m9_0 h)
theorem op_why (iv : Inv N I L F) : OpV X (N + 1) plA (fun Q => WP mX9_why 0 (am_ent 2 [.ref 0, .int p0]) [] (G X I L F) 0 0 Q) mX10_why (am_ent 2 [.ref 498, .int p0]) := by
  intro Q qv qe
  have iv0 := iv
  obtain ⟨s, T, rc, sc, t, n, vi, dr, nw, rr, _⟩ := iv
  have h40 := rr.1
  by_cases i : InN p0 rc
  · refine k_X9_why_0 ⟨fun a => absurd a (by rw [r9_1 h40 rr.2.1 i]; exact n10), fun _ => qv _ _ _ _ (fun z Q2 q => k_X10_why_0 (fun y ey => ?_))⟩
    rw [r10_1 h40 rr.2.2.1 i, if_neg n10] at ey
    subst ey
    refine ⟨fun a => absurd a (by rw [hol_1]; exact n10), fun _ => ?_⟩
    unfold fI_X10_holds
    obtain ⟨r, hr, e⟩ := i
    subst e
    have rs : f_X9_reasonAgainst (nI r) (am_u I 498 0 0) = f_X9_reasonAgainst (nI r) I := (rs_eq (am_u_ne (by omega)) (am_u_ne (by omega)) (fun k => am_u_ne (by omega)) (fun v hv => am_u_ne (by omega)) (am_u_ne (by omega)) (am_u_ne (by omega)) (by omega)).1
    refine sp_whySame (F := F) vi.1.1 ((vi.1.2.2.1.hi (fun o k a b => am_u_ne (by omega)) vi.1.1.1).lo (fun o k _ _ _ => Or.inl rfl) (fun o k a b => am_u_ne (by omega)) (fun _ _ _ _ _ => rfl) vi.1.1.1) (vi.1.2.2.2.fr (am_u_ne (by omega)) (fun o a b => am_u_row (by omega))) (rr.fr (am_u_ne (by omega)) (am_u_ne (by omega)) (fun o k a b => am_u_ne (by omega)) (fun o h => am_u_row (by omega)) (fun _ _ _ _ => rfl) rfl) hr (k_X10_why_25 ?_)
    rw [rs]
    exact q _ _ iv0.thr2 am_u_eq
  · refine k_X9_why_0 ⟨fun _ => qe 0 _ _ _ (by decide) (fun Q2 q => k_X10_why_0 (fun y ey => ?_)), fun a => absurd (r9_0 h40 rr.2.1 i) a⟩
    rw [r10_0 h40 rr.2.2.1 i, if_pos rfl] at ey
    subst ey
    exact ⟨fun _ => q _ _ _ iv0.thr1 am_u_eq, fun a => absurd (hol_0 (by decide)) a⟩
theorem op_peakHour (iv : Inv N I L F) : OpV X (N + 1) plA (fun Q => WP mX9_peakHour 0 (am_ent 2 [.ref 0, .int p0]) [] (G X I L F) 0 0 Q) mX10_peakHour (am_ent 2 [.ref 498, .int p0]) := by
  intro Q qv qe
  have iv0 := iv
  obtain ⟨s, T, rc, sc, t, n, vi, dr, nw, rr, _⟩ := iv
  have h40 := rr.1
  by_cases i : InN p0 rc
  · refine k_X9_peakHour_0 ⟨fun a => absurd a (by rw [r9_1 h40 rr.2.1 i]; exact n10), fun _ => qv _ _ _ _ (fun z Q2 q => ?_)⟩
    have i2 := i
    obtain ⟨r, hr, e⟩ := i2
    obtain ⟨v, a, b, _, _, _, _, _, _, _, _, _, _, _, ph, _⟩ := rr.2.2.2 r hr
    refine s_X10_peakHour ?_ ?_
    · unfold p_X10_peakHour
      exact ⟨fun _ => ⟨by rw [e]; exact nI_in (by omega) (by decide), trivial⟩, trivial⟩
    · unfold f_X10_peakHour fI_X10_peakHour fI_X10_holds
      rw [r10_1 h40 rr.2.2.1 i, if_neg n10, hol_1, if_neg n10, e, nI_clamp (show r < 2 ^ 31 by omega), am_u_ne (by omega)]
      rw [e, nI_clamp (show r < 2 ^ 31 by omega), ph] at q
      exact q _ _ iv0.thr2 am_u_eq
  · refine k_X9_peakHour_0 ⟨fun _ => qe 0 _ _ _ (by decide) (fun Q2 q => ?_), fun a => absurd (r9_0 h40 rr.2.1 i) a⟩
    refine s_X10_peakHour ?_ ?_
    · unfold p_X10_peakHour
      rw [r10_0 h40 rr.2.2.1 i, if_pos rfl, hol_0 (by decide)]
      exact ⟨fun a => absurd rfl a, trivial⟩
    · unfold f_X10_peakHour fI_X10_peakHour fI_X10_holds
      rw [r10_0 h40 rr.2.2.1 i, if_pos rfl]
      exact q _ _ _ iv0.thr1 am_u_eq
theorem op_peak (iv : Inv N I L F) : OpV X (N + 1) plA (fun Q => WP mX9_peak 0 (am_ent 2 [.ref 0, .int p0]) [] (G X I L F) 0 0 Q) mX10_peak (am_ent 2 [.ref 498, .int p0]) := by
  intro Q qv qe
  have iv0 := iv
  obtain ⟨s, T, rc, sc, t, n, vi, dr, nw, rr, _⟩ := iv
  have h40 := rr.1
  by_cases i : InN p0 rc
  · have i2 := i
    obtain ⟨r, hr, e⟩ := i2
    obtain ⟨v, a, b, _, _, _, _, _, _, _, _, _, pe, kp, _⟩ := rr.2.2.2 r hr
    have ev : F (383 + Int32.toNatClampNeg p0) 3 = F 514 r := by rw [e, nI_clamp (show r < 2 ^ 31 by omega), pe]
    refine k_X9_peak_0 ⟨fun a => absurd a (by rw [r9_1 h40 rr.2.1 i]; exact n10), fun _ => ?_⟩
    rw [ev]
    refine sp_bitsOf kp.fin kp.2.2 (k_X9_peak_30 (qv _ _ _ _ (fun z Q2 q => ?_)))
    refine s_X10_peak ?_ ?_
    · unfold p_X10_peak
      exact ⟨fun _ => ⟨by rw [e]; exact nI_in (by omega) (by decide), trivial⟩, trivial⟩
    · unfold f_X10_peak fI_X10_peak fI_X10_holds
      rw [r10_1 h40 rr.2.2.1 i, if_neg n10, hol_1, if_neg n10, e, nI_clamp (show r < 2 ^ 31 by omega), ftib kp.nn]
      exact q _ _ iv0.thr2 am_u_eq
  · refine k_X9_peak_0 ⟨fun _ => qe 0 _ _ _ (by decide) (fun Q2 q => ?_), fun a => absurd (r9_0 h40 rr.2.1 i) a⟩
    refine s_X10_peak ?_ ?_
    · unfold p_X10_peak
      rw [r10_0 h40 rr.2.2.1 i, if_pos rfl, hol_0 (by decide)]
      exact ⟨fun a => absurd rfl a, trivial⟩
    · unfold f_X10_peak fI_X10_peak fI_X10_holds
      rw [r10_0 h40 rr.2.2.1 i, if_pos rfl]
      exact q _ _ _ iv0.thr1 am_u_eq
theorem op_level (iv : Inv N I L F) : OpV X (N + 1) plA (fun Q => WP mX9_level 0 (am_ent 2 [.ref 0, .int p0]) [] (G X I L F) 0 0 Q) mX10_level (am_ent 2 [.ref 498, .int p0]) := by
  intro Q qv qe
  have iv0 := iv
  obtain ⟨s, T, rc, sc, t, n, vi, dr, nw, rr, _, da, _⟩ := iv
  by_cases i : InN p0 3
  · have i2 := i
    obtain ⟨d, hd, e⟩ := i2
    obtain ⟨_, ⟨d5, _⟩, lu, lp, _⟩ := da d hd
    have ev : F (423 + 5 * Int32.toNatClampNeg p0) 5 = F 520 d := by rw [e, nI_clamp (show d < 2 ^ 31 by omega), d5]
    have ht := nw.1
    have lf := lu.fin (by omega)
    refine k_X9_level_0 ⟨fun a => absurd a (by rw [d9_1 i]; exact n10), fun _ => ?_⟩
    rw [ev]
    refine sp_bitsOf lf (pz_z lp) (k_X9_level_30 (qv _ _ _ _ (fun z Q2 q => ?_)))
    refine s_X10_level ?_ ?_
    · unfold p_X10_level
      exact ⟨fun _ => ⟨by rw [e]; exact nI_in hd (by decide), trivial⟩, trivial⟩
    · unfold f_X10_level fI_X10_level fI_X10_holds
      rw [d10_1 i, if_neg n10, hol_1, if_neg n10, e, nI_clamp (show d < 2 ^ 31 by omega), ftib lf.nn]
      exact q _ _ iv0.thr2 am_u_eq
  · refine k_X9_level_0 ⟨fun _ => qe 0 _ _ _ (by decide) (fun Q2 q => ?_), fun a => absurd (d9_0 i) a⟩
    refine s_X10_level ?_ ?_
    · unfold p_X10_level
      rw [d10_0 i, if_pos rfl, hol_0 (by decide)]
      exact ⟨fun a => absurd rfl a, trivial⟩
    · unfold f_X10_level fI_X10_level fI_X10_holds
      rw [d10_0 i, if_pos rfl]
      exact q _ _ _ iv0.thr1 am_u_eq
theorem op_trust (iv : Inv N I L F) : OpV X (N + 1) plA (fun Q => WP mX9_trust 0 (am_ent 2 [.ref 0, .int p0]) [] (G X I L F) 0 0 Q) mX10_trust (am_ent 2 [.ref 498, .int p0]) := by
  intro Q qv qe
  have iv0 := iv
  obtain ⟨s, T, rc, sc, t, n, vi, dr, nw, rr, _, da, _⟩ := iv
  by_cases i : InN p0 3
  · have i2 := i
    obtain ⟨d, hd, e⟩ := i2
    obtain ⟨_, ⟨_, d12, _⟩, _, _, ⟨lf, lp, _⟩, _⟩ := da d hd
    have ev : F (423 + 5 * Int32.toNatClampNeg p0) 12 = F 530 d := by rw [e, nI_clamp (show d < 2 ^ 31 by omega), d12]
    refine k_X9_trust_0 ⟨fun a => absurd a (by rw [d9_1 i]; exact n10), fun _ => ?_⟩
    rw [ev]
    refine sp_bitsOf lf (pz_z lp) (k_X9_trust_30 (qv _ _ _ _ (fun z Q2 q => ?_)))
    refine s_X10_trust ?_ ?_
    · unfold p_X10_trust
      exact ⟨fun _ => ⟨by rw [e]; exact nI_in hd (by decide), trivial⟩, trivial⟩
    · unfold f_X10_trust fI_X10_trust fI_X10_holds
      rw [d10_1 i, if_neg n10, hol_1, if_neg n10, e, nI_clamp (show d < 2 ^ 31 by omega), ftib lf.nn]
      exact q _ _ iv0.thr2 am_u_eq
  · refine k_X9_trust_0 ⟨fun _ => qe 0 _ _ _ (by decide) (fun Q2 q => ?_), fun a => absurd (d9_0 i) a⟩
    refine s_X10_trust ?_ ?_
    · unfold p_X10_trust
      rw [d10_0 i, if_pos rfl, hol_0 (by decide)]
      exact ⟨fun a => absurd rfl a, trivial⟩
    · unfold f_X10_trust fI_X10_trust fI_X10_holds
      rw [d10_0 i, if_pos rfl]
      exact q _ _ _ iv0.thr1 am_u_eq
theorem op_saved (iv : Inv N I L F) : OpV X (N + 1) plA (fun Q => WP mX9_saved 0 (am_ent 2 [.ref 0, .int p0]) [] (G X I L F) 0 0 Q) mX10_saved (am_ent 2 [.ref 498, .int p0]) := by
  intro Q qv qe
  have iv0 := iv
  obtain ⟨s, T, rc, sc, t, n, vi, dr, nw, rr, _, da, _⟩ := iv
  by_cases i : InN p0 3
  · have i2 := i
    obtain ⟨d, hd, e⟩ := i2
    obtain ⟨_, ⟨_, _, d13, _⟩, _⟩ := da d hd
    refine k_X9_saved_0 ⟨fun a => absurd a (by rw [d9_1 i]; exact n10), fun _ => qv _ _ _ _ (fun z Q2 q => ?_)⟩
    refine s_X10_saved ?_ ?_
    · unfold p_X10_saved
      exact ⟨fun _ => ⟨by rw [e]; exact nI_in hd (by decide), trivial⟩, trivial⟩
    · unfold f_X10_saved fI_X10_saved fI_X10_holds
      rw [d10_1 i, if_neg n10, hol_1, if_neg n10, e, nI_clamp (show d < 2 ^ 31 by omega), am_u_ne (by omega), ← d13]
      rw [e, nI_clamp (show d < 2 ^ 31 by omega)] at q
      exact q _ _ iv0.thr2 am_u_eq
  · refine k_X9_saved_0 ⟨fun _ => qe 0 _ _ _ (by decide) (fun Q2 q => ?_), fun a => absurd (d9_0 i) a⟩
    refine s_X10_saved ?_ ?_
    · unfold p_X10_saved
      rw [d10_0 i, if_pos rfl, hol_0 (by decide)]
      exact ⟨fun a => absurd rfl a, trivial⟩
    · unfold f_X10_saved fI_X10_saved fI_X10_holds
      rw [d10_0 i, if_pos rfl]
      exact q _ _ _ iv0.thr1 am_u_eq
theorem op_siren (iv : Inv N I L F) : OpV X (N + 1) plA (fun Q => WP mX9_siren 0 (am_ent 2 [.ref 0, .int p0]) [] (G X I L F) 0 0 Q) mX10_siren (am_ent 2 [.ref 498, .int p0]) := by
  intro Q qv qe
  have iv0 := iv
  obtain ⟨s, T, rc, sc, t, n, vi, dr, nw, rr, _, da, si⟩ := iv
  have s60 := si.1
  by_cases i : InN p0 sc
  · have i2 := i
    obtain ⟨x, hx, e⟩ := i2
    refine k_X9_siren_0 ⟨fun a => absurd a (by rw [s9_1 s60 si.2.1 i]; exact n10), fun _ => qv _ _ _ _ (fun z Q2 q => ?_)⟩
    refine s_X10_siren ?_ ?_
    · unfold p_X10_siren
      exact ⟨fun _ => ⟨by rw [e]; exact nI_in (by omega) (by decide), trivial⟩, trivial⟩
    · unfold f_X10_siren fI_X10_siren f_X10_isSiren fI_X10_isSiren fI_X10_holds
      rw [si.2.2.1, isInS_1 (by omega) i, if_neg n10, hol_1, if_neg n10, e, nI_clamp (show x < 2 ^ 31 by omega), am_u_ne (by omega), ← (si.2.2.2 x hx).2]
      rw [e, nI_clamp (show x < 2 ^ 31 by omega)] at q
      exact q _ _ iv0.thr2 am_u_eq
  · refine k_X9_siren_0 ⟨fun _ => qe 0 _ _ _ (by decide) (fun Q2 q => ?_), fun a => absurd (s9_0 s60 si.2.1 i) a⟩
    refine s_X10_siren ?_ ?_
    · unfold p_X10_siren f_X10_isSiren
      rw [si.2.2.1, isInS_0 (by omega) i, if_pos rfl, hol_0 (by decide)]
      exact ⟨fun a => absurd rfl a, trivial⟩
    · unfold f_X10_siren fI_X10_siren f_X10_isSiren fI_X10_isSiren fI_X10_holds
      rw [si.2.2.1, isInS_0 (by omega) i, if_pos rfl]
      exact q _ _ _ iv0.thr1 am_u_eq
theorem op_walkers (iv : Inv N I L F) : OpV X (N + 1) plA (fun Q => WP mX9_walkers 0 (am_ent 2 [.ref 0, .int p0]) [] (G X I L F) 0 0 Q) mX10_walkers (am_ent 2 [.ref 498, .int p0]) := by
  intro Q qv qe
  have iv0 := iv
  obtain ⟨s, T, rc, sc, t, n, vi, dr, nw, rr, _, da, si⟩ := iv
  have s60 := si.1
  by_cases i : InN p0 sc
  · have i2 := i
    obtain ⟨x, hx, e⟩ := i2
    obtain ⟨d, r, _, _, _, _, _, _, _, e3⟩ := (si.2.2.2 x hx).1
    refine k_X9_walkers_0 ⟨fun a => absurd a (by rw [s9_1 s60 si.2.1 i]; exact n10), fun _ => qv _ _ _ _ (fun z Q2 q => ?_)⟩
    refine s_X10_walkers ?_ ?_
    · unfold p_X10_walkers
      exact ⟨fun _ => ⟨by rw [e]; exact nI_in (by omega) (by decide), trivial⟩, trivial⟩
    · unfold f_X10_walkers fI_X10_walkers f_X10_isSiren fI_X10_isSiren fI_X10_holds
      rw [si.2.2.1, isInS_1 (by omega) i, if_neg n10, hol_1, if_neg n10, e, nI_clamp (show x < 2 ^ 31 by omega), am_u_ne (by omega), ← e3]
      rw [e, nI_clamp (show x < 2 ^ 31 by omega)] at q
      exact q _ _ iv0.thr2 am_u_eq
  · refine k_X9_walkers_0 ⟨fun _ => qe 0 _ _ _ (by decide) (fun Q2 q => ?_), fun a => absurd (s9_0 s60 si.2.1 i) a⟩
    refine s_X10_walkers ?_ ?_
    · unfold p_X10_walkers f_X10_isSiren
      rw [si.2.2.1, isInS_0 (by omega) i, if_pos rfl, hol_0 (by decide)]
      exact ⟨fun a => absurd rfl a, trivial⟩
    · unfold f_X10_walkers fI_X10_walkers f_X10_isSiren fI_X10_isSiren fI_X10_holds
      rw [si.2.2.1, isInS_0 (by omega) i, if_pos rfl]
      exact q _ _ _ iv0.thr1 am_u_eq
end OA
