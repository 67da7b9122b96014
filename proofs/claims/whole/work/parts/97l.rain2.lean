/-! own: rain, both sides -/
set_option maxRecDepth 100000
/-- a number below some number -/
def InN (x : Int32) (n : Nat) : Prop := ∃ k, k < n ∧ x = nI k
section RN
variable {X : Nat × (Nat → Int32)} {I J K : Nat → Nat → Int32} {L M : Nat → Nat → Int64} {F H : Nat → Nat → UInt32} {Q : AQ} {c r T rc g h : Nat} {s : AS} {ga ho mm : Int32}
theorem inN_lt {x : Int32} {n : Nat} (hn : n < 2 ^ 31) : (¬ x < 0 ∧ x < nI n) ↔ InN x n := by
  constructor
  · intro ⟨a, b⟩
    obtain ⟨k, hk, e⟩ := nI_of a
    subst e
    exact ⟨k, (nI_ltI hk hn).mp b, rfl⟩
  · intro ⟨k, hk, e⟩
    subst e
    exact ⟨nI_pos (by omega), (nI_ltI (by omega) hn).mpr hk⟩
theorem inN_le {x : Int32} {n : Nat} (hn : n < 2147483647) : (¬ x < 0 ∧ x ≤ nI n) ↔ InN x (n + 1) := by
  constructor
  · intro ⟨a, b⟩
    obtain ⟨k, hk, e⟩ := nI_of a
    subst e
    have := (nI_leI (b := n) hk (by omega)).mp b
    exact ⟨k, by omega, rfl⟩
  · intro ⟨k, hk, e⟩
    subst e
    exact ⟨nI_pos (by omega), (nI_leI (by omega) (by omega)).mpr (by omega)⟩
theorem isIn_1 {x : Int32} {n : Nat} (hn : n < 2147483647) (i : InN x (n + 1)) : f_X10_isIn x 0 (nI n) = 1 := by
  obtain ⟨a, b⟩ := (inN_le hn).mpr i
  unfold f_X10_isIn
  rw [if_neg a, if_neg (Int32.not_lt.mpr b)]
theorem isIn_0 {x : Int32} {n : Nat} (hn : n < 2147483647) (i : ¬ InN x (n + 1)) : f_X10_isIn x 0 (nI n) = 0 := by
  unfold f_X10_isIn
  by_cases a : x < 0
  · rw [if_pos a]
  · rw [if_neg a]
    by_cases b : nI n < x
    · rw [if_pos b]
    · exact absurd ((inN_le hn).mp ⟨a, Int32.not_lt.mp b⟩) i
theorem isHour_1 {x : Int32} (i : InN x 201) : f_X9_isHour x = 1 := by
  obtain ⟨k, hk, e⟩ := i
  rw [e]; exact isHour_nI hk
theorem isHour_0 {x : Int32} (i : ¬ InN x 201) : f_X9_isHour x = 0 := by
  unfold f_X9_isHour
  by_cases a : x < 0
  · rw [if_pos a]
  · rw [if_neg a]
    by_cases b : 200 < x
    · rw [if_pos b]
    · exact absurd ((inN_le (n := 200) (by decide)).mp ⟨a, Int32.not_lt.mp b⟩) i
/-- what the class does when a rain is told -/
def CRain (I : Nat → Nat → Int32) (c rc g h : Nat) (mm : Int32) (J : Nat → Nat → Int32) : Prop := ∃ J1, TRF g h I J1 ∧ J1 (16 + g) h = mm ∧ (∀ v, v < c → TRU g h (I (16 + g) h ≠ mm) I J1 v) ∧ (∀ v, c ≤ v → J1 (19 + 6 * v) 6 = I (19 + 6 * v) 6) ∧ STF J1 J ∧ (I (16 + g) h = mm → J = J1) ∧
  (I (16 + g) h ≠ mm → ∀ r v b, r < rc → v < c → b < 201 → J1 (383 + r) 0 = nI v → J1 (383 + r) 2 = nI b → ((h ≤ b ∧ ib (J1 (19 + 6 * v) 4) g = true) → J (383 + r) 5 = 1) ∧ (¬ (h ≤ b ∧ ib (J1 (19 + 6 * v) 4) g = true) → J (383 + r) 5 = J1 (383 + r) 5))
theorem sp_crain (hc : c ≤ 60) (e9 : I 9 4 = nI c) (hk : ∀ v, v < c → ∃ kh, kh ≤ 201 ∧ I (19 + 6 * v) 6 = nI kh) (hr : rc ≤ 40) (e7 : I 0 7 = nI rc) (hrun : ∀ r, r < rc → ∃ v b, v < c ∧ b < 201 ∧ I (383 + r) 0 = nI v ∧ I (383 + r) 2 = nI b)
    (q1 : ¬ InN ga 3 → Q (.inr 0) (G X I L F)) (q2 : InN ga 3 → ¬ (InN ho 201 ∧ InN mm 501) → Q (.inr 1) (G X I L F))
    (q3 : ∀ g h, g < 3 → h < 201 → ga = nI g → ho = nI h → InN mm 501 → ∀ J, CRain I c rc g h mm J → Q (.inl (some (.int (I (16 + g) h)))) (G X J L F)) :
    WP mX9_rain 0 (am_ent 5 [.ref 0, .int ga, .int ho, .int mm]) [] (G X I L F) 0 0 Q := by
  refine k_X9_rain_0 ⟨fun a => q1 (fun i => ((inN_lt (by decide)).mpr i).1 a), fun a => ⟨fun b => ?_, fun b => q1 (fun i => b ((inN_lt (n := 3) (by decide)).mpr i).2)⟩⟩
  have ig : InN ga 3 := (inN_lt (n := 3) (by decide)).mp ⟨a, b⟩
  by_cases ih : InN ho 201
  · rw [isHour_1 ih]
    refine ⟨fun n => absurd n (by decide), fun _ => ⟨fun n => q2 ig (fun i => ((inN_lt (by decide)).mpr i.2).1 n), fun n => ⟨fun l => ?_, fun l => q2 ig (fun i => l ((inN_le (n := 500) (by decide)).mpr i.2).2)⟩⟩⟩
    have im : InN mm 501 := (inN_le (n := 500) (by decide)).mp ⟨n, l⟩
    have ig2 := ig
    have ih2 := ih
    obtain ⟨g, hg, eg⟩ := ig2
    obtain ⟨h, hh, eh⟩ := ih2
    subst eg eh
    refine sp_tellRain hg hh hc e9 hk (fun J1 f1 f2 f3 f4 => k_X9_rain_57 ⟨fun e => k_X9_rain_71 (q3 g h hg hh rfl rfl im J1 ⟨J1, f1, f2, f3, f4, fun _ _ _ => rfl, fun _ => rfl, fun n => absurd e n⟩), fun e => ?_⟩)
    have e9J : J1 9 4 = nI c := (f1 9 4 (by omega) (fun ⟨v, _, h, _⟩ => by omega)).trans e9
    have e7J : J1 0 7 = nI rc := (f1 0 7 (by omega) (fun ⟨v, _, h, _⟩ => by omega)).trans e7
    refine sp_stampRuns hc e9J hg hr hh e7J (fun r hr2 => ?_) (fun J s1 s2 => k_X9_rain_71 (q3 g h hg hh rfl rfl im J ⟨J1, f1, f2, f3, f4, s1, fun n => absurd n e, fun _ => s2⟩))
    obtain ⟨v, b, h1, h2, h3, h4⟩ := hrun r hr2
    exact ⟨v, b, h1, h2, (f1 _ 0 (by omega) (fun ⟨v, _, h, _⟩ => by omega)).trans h3, (f1 _ 2 (by omega) (fun ⟨v, _, h, _⟩ => by omega)).trans h4⟩
  · rw [isHour_0 ih]
    exact ⟨fun _ => q2 ig (fun i => ih i.1), fun n => absurd rfl n⟩
/-- what the model does when a rain is told -/
def MRain (I : Nat → Nat → Int32) (c g h : Nat) (mm : Int32) (T : Nat) (J : Nat → Nat → Int32) : Prop :=
  (I 507 (201 * g + h) = mm ∧ J = am_u I 498 0 0) ∨ (I 507 (201 * g + h) ≠ mm ∧ J 498 0 = 0 ∧ J 498 14 = nI (T + 1) ∧ J 507 (201 * g + h) = mm ∧ J 508 (201 * g + h) = nI (T + 1) ∧ (∀ o k, ¬ (o = 498 ∧ (k = 0 ∨ k = 14)) → ¬ ((o = 507 ∨ o = 508) ∧ k = 201 * g + h) → o ≠ 510 → J o k = I o k) ∧ ∀ v, v < c → MRU h I J v)
theorem sp_mrain (hc : c ≤ 60) (e5 : I 498 5 = nI c) (hk : ∀ v, v < c → ∃ kh, kh ≤ 201 ∧ I 510 v = nI kh) (hT : T < 1000000) (e14 : I 498 14 = nI T)
    (q1 : ¬ InN ga 3 → Q (.inl (some (.int 0))) (G X (am_u I 498 0 1) L F)) (q2 : InN ga 3 → ¬ (InN ho 201 ∧ InN mm 501) → Q (.inl (some (.int 0))) (G X (am_u I 498 0 2) L F))
    (q3 : ∀ g h, g < 3 → h < 201 → ga = nI g → ho = nI h → InN mm 501 → ∀ J, MRain I c g h mm T J → Q (.inl (some (.int (I 507 (201 * g + h))))) (G X J L F)) :
    WP mX10_rain 0 (am_ent 6 [.ref 498, .int ga, .int ho, .int mm]) [] (G X I L F) 0 0 Q := by
  refine k_X10_rain_0 (fun x ex => ?_)
  by_cases ig : InN ga 3
  · rw [show f_X10_isIn ga 0 2 = 1 from isIn_1 (n := 2) (by decide) ig, if_neg (show ¬ (1 : Int32) = 0 by decide)] at ex
    have bad : ¬ (InN ho 201 ∧ InN mm 501) → x = 2 := fun n => by
      rw [ex]
      by_cases ih : InN ho 201
      · rw [show f_X10_isIn ho 0 200 = 1 from isIn_1 (n := 200) (by decide) ih, if_neg (show ¬ (1 : Int32) = 0 by decide), show f_X10_isIn mm 0 500 = 0 from isIn_0 (n := 500) (by decide) (fun im => n ⟨ih, im⟩), if_pos rfl]
      · rw [show f_X10_isIn ho 0 200 = 0 from isIn_0 (n := 200) (by decide) ih, if_pos rfl]
    by_cases ok : InN ho 201 ∧ InN mm 501
    · obtain ⟨ih, im⟩ := ok
      rw [show f_X10_isIn ho 0 200 = 1 from isIn_1 (n := 200) (by decide) ih, if_neg (show ¬ (1 : Int32) = 0 by decide), show f_X10_isIn mm 0 500 = 1 from isIn_1 (n := 500) (by decide) im, if_neg (show ¬ (1 : Int32) = 0 by decide)] at ex
      rw [ex]
      obtain ⟨g, hg, eg⟩ := ig
      obtain ⟨h, hh, eh⟩ := ih
      subst eg eh
      refine ⟨fun n => absurd n (by decide), fun _ => ?_⟩
      have ei : (201 : Int32) * nI g + nI h = nI (201 * g + h) := by rw [show (201 : Int32) = nI 201 from rfl, nI_mul, nI_add]
      have hin : vp_in (nI (201 * g + h)) 603 := nI_in (by omega) (by decide)
      have h507 : fI_X10_holds 0 I 507 (201 * g + h) = I 507 (201 * g + h) := am_u_ne (Or.inl (by decide))
      have h14 : fI_X10_holds 0 I 498 14 = nI T := (am_u_ne (Or.inr (by decide))).trans e14
      rw [ei, nI_clamp (show 201 * g + h < 2 ^ 31 by omega), h507, h14, nI_1]
      refine ⟨hin, fun e => q3 g h hg hh rfl rfl im _ (Or.inl ⟨e, rfl⟩), fun e => ⟨hin, hin, ?_⟩⟩
      generalize hJ : am_u (am_u (am_u (fI_X10_holds 0 I) 498 14 (nI (T + 1))) 507 (201 * g + h) mm) 508 (201 * g + h) (nI (T + 1)) = J0
      have fr : ∀ o k, ¬ (o = 498 ∧ (k = 0 ∨ k = 14)) → ¬ ((o = 507 ∨ o = 508) ∧ k = 201 * g + h) → J0 o k = I o k := fun o k a b => by
        rw [← hJ, am_u_ne (by omega), am_u_ne (by omega), am_u_ne (by omega)]
        exact am_u_ne (by omega)
      have j0 : J0 498 0 = 0 := by rw [← hJ, am_u_ne (by omega), am_u_ne (by omega), am_u_ne (by omega)]; exact am_u_eq
      have j14 : J0 498 14 = nI (T + 1) := by rw [← hJ, am_u_ne (by omega), am_u_ne (by omega), am_u_eq]
      have j507 : J0 507 (201 * g + h) = mm := by rw [← hJ, am_u_ne (by omega), am_u_eq]
      have j508 : J0 508 (201 * g + h) = nI (T + 1) := by rw [← hJ, am_u_eq]
      refine sp_mr111 (c := c) hh hc ((fr 498 5 (by omega) (by omega)).trans e5) (fun v hv => ?_) (fun J f1 f2 => q3 g h hg hh rfl rfl im J (Or.inr ⟨e, (f1 498 0 (by omega)).trans j0, (f1 498 14 (by omega)).trans j14, (f1 507 _ (by omega)).trans j507, (f1 508 _ (by omega)).trans j508, fun o k a b d => (f1 o k d).trans (fr o k a b), fun v hv kh h1 h2 => f2 v hv kh h1 ((fr 510 v (by omega) (by omega)).trans h2)⟩)) c 0 J0 (Nat.zero_add _) (fun _ _ _ => rfl) (fun v hv => absurd hv (by omega)) (fun _ _ => rfl)
      obtain ⟨kh, h1, h2⟩ := hk v hv
      exact ⟨kh, h1, (fr 510 v (by omega) (by omega)).trans h2⟩
    · rw [bad ok]
      exact ⟨fun _ => q2 ig ok, fun n => absurd rfl n⟩
  · rw [show f_X10_isIn ga 0 2 = 0 from isIn_0 (n := 2) (by decide) ig, if_pos rfl] at ex
    rw [ex]
    exact ⟨fun _ => q1 ig, fun n => absurd rfl n⟩
/-- a rain voids the runs that hang on it -/
theorem rp_rain {v b MM : Nat} (e502 : J 502 = I 502) (e503 : J 503 = I 503) (e504 : J 504 = I 504) (e513 : J 513 = I 513) (e516 : J 516 = I 516) (e508 : ∀ k, k ≠ 201 * g + h → J 508 k = I 508 k) (hg : g < 3) (hh : h < 201) (hb : b < 201) (eb : I 513 r = nI b) (hM : MM ≤ T) (eM : I 516 r = nI MM) (hT : T < 1000000) (new : J 508 (201 * g + h) = nI (T + 1)) :
    RP J r (GU J v) ↔ (RP I r (GU I v) ∨ (h ≤ b ∧ GU I v g)) := by
  have eG : GU J v = GU I v := by
    funext x
    unfold GU
    rw [e502, e503, e504]
  rw [eG]
  unfold RP
  rw [e513, e516, eb, eM]
  have big : nI MM < nI (T + 1) := (nI_ltI (by omega) (by omega)).mpr (by omega)
  constructor
  · intro ⟨k, hk, z, le, lt⟩
    by_cases e : k = 201 * g + h
    · right
      have e1 : k / 201 = g := by omega
      have e2 : k % 201 = h := by omega
      rw [e1] at z
      rw [e2] at le
      exact ⟨(nI_leI (by omega) (by omega)).mp le, z⟩
    · rw [e508 k e] at lt
      exact Or.inl ⟨k, hk, z, le, lt⟩
  · intro hor
    rcases hor with ⟨k, hk, z, le, lt⟩ | ⟨le, z⟩
    · refine ⟨k, hk, z, le, ?_⟩
      by_cases e : k = 201 * g + h
      · rw [e, new]; exact big
      · rw [e508 k e]; exact lt
    · refine ⟨201 * g + h, by omega, ?_, ?_, ?_⟩
      · rw [show (201 * g + h) / 201 = g by omega]; exact z
      · rw [show (201 * g + h) % 201 = h by omega]; exact (nI_leI (by omega) (by omega)).mpr le
      · rw [new]; exact big
end RN
