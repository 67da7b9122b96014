/-! own: rain, both sides -/
set_option maxRecDepth 100000
/-- a number below some number -/
def InN (x : Int32) (n : Nat) : Prop := ∃ k, k < n ∧ x = nI k
section RN
variable {X : Nat × (Nat × (Nat → Int32))} {I J K : Nat → Nat → Int32} {L M : Nat → Nat → Int64} {F H : Nat → Nat → UInt32} {Q : AQ} {c r T rc g h : Nat} {s : AS} {ga ho mm : Int32}
theorem inN_lt {x : Int32} {n : Nat} (hn : n < 2 ^ 31) : (¬ x < 0 ∧ x < nI n) ↔ InN x n := by
  constructor
  · intro ⟨a, b⟩
    obtain ⟨k, hk, e⟩ := nI_of a
    subst e
    exact ⟨k, (nI_ltI hk hn).mp b, rfl⟩
  · intro ⟨k, hk, e⟩
    subst e
    exact ⟨nI_pos (by omega), (nI_ltI (by omega) hn).mpr hk⟩
theorem inN_le {x : Int32} {n : Nat} (hn : n < 2147483647) : (¬ x < 0 ∧ x ≤ nI n) ↔ InN x (n + 1) := by
  constructor
  · intro ⟨a, b⟩
    obtain ⟨k, hk, e⟩ := nI_of a
    subst e
    have := (nI_leI (b := n) hk (by omega)).mp b
    exact ⟨k, by omega, rfl⟩
  · intro ⟨k, hk, e⟩
    subst e
    exact ⟨nI_pos (by omega), (nI_leI (by omega) (by omega)).mpr (by omega)⟩
theorem isHour_1 {x : Int32} (i : InN x 201) : f_X9_isHour x = 1 := by
  obtain ⟨k, hk, e⟩ := i
  rw [e]; exact isHour_nI hk
theorem isHour_0 {x : Int32} (i : ¬ InN x 201) : f_X9_isHour x = 0 := by
  unfold f_X9_isHour
  by_cases a : x < 0
  · rw [if_pos a]
  · rw [if_neg a]
    by_cases b : 200 < x
    · rw [if_pos b]
    · exact absurd ((inN_le (n := 200) (by decide)).mp ⟨a, Int32.not_lt.mp b⟩) i
/-- what the class does when a rain is told -/
def CRain (I : Nat → Nat → Int32) (c rc g h : Nat) (mm : Int32) (J : Nat → Nat → Int32) : Prop := ∃ J1, TRF g h I J1 ∧ J1 (16 + g) h = mm ∧ (∀ v, v < c → TRU g h (I (16 + g) h ≠ mm) I J1 v) ∧ (∀ v, c ≤ v → J1 (19 + 6 * v) 6 = I (19 + 6 * v) 6) ∧ STF J1 J ∧ (I (16 + g) h = mm → J = J1) ∧
  (I (16 + g) h ≠ mm → ∀ r v b, r < rc → v < c → b < 201 → J1 (383 + r) 0 = nI v → J1 (383 + r) 2 = nI b → ((h ≤ b ∧ ib (J1 (19 + 6 * v) 4) g = true) → J (383 + r) 5 = 1) ∧ (¬ (h ≤ b ∧ ib (J1 (19 + 6 * v) 4) g = true) → J (383 + r) 5 = J1 (383 + r) 5))
theorem sp_crain (hc : c ≤ 60) (e9 : I 9 4 = nI c) (hk : ∀ v, v < c → ∃ kh, kh ≤ 201 ∧ I (19 + 6 * v) 6 = nI kh) (hr : rc ≤ 40) (e7 : I 0 7 = nI rc) (hrun : ∀ r, r < rc → ∃ v b, v < c ∧ b < 201 ∧ I (383 + r) 0 = nI v ∧ I (383 + r) 2 = nI b)
    (q1 : ¬ InN ga 3 → Q (.inr 0) (G X I L F)) (q2 : InN ga 3 → ¬ (InN ho 201 ∧ InN mm 501) → Q (.inr 1) (G X I L F))
    (q3 : ∀ g h, g < 3 → h < 201 → ga = nI g → ho = nI h → InN mm 501 → ∀ J, CRain I c rc g h mm J → Q (.inl (some (.int (I (16 + g) h)))) (G X J L F)) :
    WP mX9_rain 0 (am_ent 5 [.ref 0, .int ga, .int ho, .int mm]) [] (G X I L F) 0 0 Q := by
  refine k_X9_rain_0 ⟨fun a => q1 (fun i => ((inN_lt (by decide)).mpr i).1 a), fun a => ⟨fun b => ?_, fun b => q1 (fun i => b ((inN_lt (n := 3) (by decide)).mpr i).2)⟩⟩
  have ig : InN ga 3 := (inN_lt (n := 3) (by decide)).mp ⟨a, b⟩
  by_cases ih : InN ho 201
  · rw [isHour_1 ih]
    refine ⟨fun n => absurd n (by decide), fun _ => ⟨fun n => q2 ig (fun i => ((inN_lt (by decide)).mpr i.2).1 n), fun n => ⟨fun l => ?_, fun l => q2 ig (fun i => l ((inN_le (n := 500) (by decide)).mpr i.2).2)⟩⟩⟩
    have im : InN mm 501 := (inN_le (n := 500) (by decide)).mp ⟨n, l⟩
    have ig2 := ig
    have ih2 := ih
    obtain ⟨g, hg, eg⟩ := ig2
    obtain ⟨h, hh, eh⟩ := ih2
    subst eg eh
    refine sp_tellRain hg hh hc e9 hk (fun J1 f1 f2 f3 f4 => k_X9_rain_57 ⟨fun e => k_X9_rain_71 (q3 g h hg hh rfl rfl im J1 ⟨J1, f1, f2, f3, f4, fun _ _ _ => rfl, fun _ => rfl, fun n => absurd e n⟩), fun e => ?_⟩)
    have e9J : J1 9 4 = nI c := (f1 9 4 (by omega) (fun ⟨v, _, h, _⟩ => by omega)).trans e9
    have e7J : J1 0 7 = nI rc := (f1 0 7 (by omega) (fun ⟨v, _, h, _⟩ => by omega)).trans e7
    refine sp_stampRuns hc e9J hg hr hh e7J (fun r hr2 => ?_) (fun J s1 s2 => k_X9_rain_71 (q3 g h hg hh rfl rfl im J ⟨J1, f1, f2, f3, f4, s1, fun n => absurd n e, fun _ => s2⟩))
    obtain ⟨v, b, h1, h2, h3, h4⟩ := hrun r hr2
    exact ⟨v, b, h1, h2, (f1 _ 0 (by omega) (fun ⟨v, _, h, _⟩ => by omega)).trans h3, (f1 _ 2 (by omega) (fun ⟨v, _, h, _⟩ => by omega)).trans h4⟩
  · rw [isHour_0 ih]
    exact ⟨fun _ => q2 ig (fun i => ih i.1), fun n => absurd rfl n⟩
/-- what the model does when a rain is told -/
def MRain (I : Nat → Nat → Int32) (c g h : Nat) (mm : Int32) (T : Nat) (J : Nat → Nat → Int32) : Prop :=
  (I 1000507 (201 * g + h) = mm ∧ J = am_u I 1000498 0 0) ∨ (I 1000507 (201 * g + h) ≠ mm ∧ J 1000498 0 = 0 ∧ J 1000498 14 = nI (T + 1) ∧ J 1000507 (201 * g + h) = mm ∧ J 1000508 (201 * g + h) = nI (T + 1) ∧ (∀ o k, ¬ (o = 1000498 ∧ (k = 0 ∨ k = 14)) → ¬ ((o = 1000507 ∨ o = 1000508) ∧ k = 201 * g + h) → o ≠ 1000510 → J o k = I o k) ∧ ∀ v, v < c → MRU h I J v)
/-- a rain voids the runs that hang on it -/
theorem rp_rain {v b MM : Nat} (e502 : J 1000502 = I 1000502) (e503 : J 1000503 = I 1000503) (e504 : J 1000504 = I 1000504) (e513 : J 1000513 = I 1000513) (e516 : J 1000516 = I 1000516) (e508 : ∀ k, k ≠ 201 * g + h → J 1000508 k = I 1000508 k) (hg : g < 3) (hh : h < 201) (hb : b < 201) (eb : I 1000513 r = nI b) (hM : MM ≤ T) (eM : I 1000516 r = nI MM) (hT : T < 1000000) (new : J 1000508 (201 * g + h) = nI (T + 1)) :
    RP J r (GU J v) ↔ (RP I r (GU I v) ∨ (h ≤ b ∧ GU I v g)) := by
  have eG : GU J v = GU I v := by
    funext x
    unfold GU
    rw [e502, e503, e504]
  rw [eG]
  unfold RP
  rw [e513, e516, eb, eM]
  have big : nI MM < nI (T + 1) := (nI_ltI (by omega) (by omega)).mpr (by omega)
  constructor
  · intro ⟨k, hk, z, le, lt⟩
    by_cases e : k = 201 * g + h
    · right
      have e1 : k / 201 = g := by omega
      have e2 : k % 201 = h := by omega
      rw [e1] at z
      rw [e2] at le
      exact ⟨(nI_leI (by omega) (by omega)).mp le, z⟩
    · rw [e508 k e] at lt
      exact Or.inl ⟨k, hk, z, le, lt⟩
  · intro hor
    rcases hor with ⟨k, hk, z, le, lt⟩ | ⟨le, z⟩
    · refine ⟨k, hk, z, le, ?_⟩
      by_cases e : k = 201 * g + h
      · rw [e, new]; exact big
      · rw [e508 k e]; exact lt
    · refine ⟨201 * g + h, by omega, ?_, ?_, ?_⟩
      · rw [show (201 * g + h) / 201 = g by omega]; exact z
      · rw [show (201 * g + h) % 201 = h by omega]; exact (nI_leI (by omega) (by omega)).mpr le
      · rw [new]; exact big
end RN
