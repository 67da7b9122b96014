/-! own: what the law's rows show, and the class's answers -/
set_option maxRecDepth 100000
def jdg (I : Nat → Nat → Int32) (x : Nat) : Bool := decide (I 1000535 x ≠ 0)
/-- the law's row shows what a dam is -/
def LD (I : Nat → Nat → Int32) (d : Nat) : Prop := I 498 (4 + 6 * d) = I 1000517 d ∧ I 498 (5 + 6 * d) = I 1000518 d ∧ I 498 (7 + 6 * d) = I 1000526 d ∧ I 498 (8 + 6 * d) = I 1000527 d ∧ I 498 (9 + 6 * d) = I 1000528 d
/-- what the law's calls make of a dam -/
def LG (I : Nat → Nat → Int32) (F : Nat → Nat → UInt32) (sc d : Nat) : Prop := (I 1000517 d = 0 ∨ I 1000517 d = 1) ∧ (I 1000526 d = 0 ∨ I 1000526 d = 1) ∧ (∃ p, p ≤ 10000 ∧ I 1000527 d = nI p) ∧ (I 1000526 d ≠ 0 → ∃ g, 1 ≤ g ∧ g ≤ 500 ∧ I 1000528 d = nI g) ∧ (I 1000517 d = 0 → F 1000520 d = 0 ∧ F 1000530 d = 1065353216 ∧ I 1000531 d = 0) ∧ 0 < fk (F 1000530 d) ∧ ∃ k, k ≤ 10000 * cntB (jdg I) sc ∧ I 1000531 d = nI k
/-- the law's row shows a run -/
def LR (I : Nat → Nat → Int32) (F : Nat → Nat → UInt32) (r : Nat) : Prop := I 500 r = I 1000511 r ∧ I 500 (12 + r) = I 1000512 r ∧ I 500 (24 + r) = I 1000513 r ∧ I 500 (36 + r) = UInt32.toInt32 (F 1000514 r)
/-- a run without a stamp has the peak of now -/
def LPk (I : Nat → Nat → Int32) (F : Nat → Nat → UInt32) (r : Nat) : Prop := I (383 + r) 5 = 0 → ∀ v a b, a ≤ b → b < 201 → I 1000511 r = nI v → v < 60 → I 1000512 r = nI a → I 1000513 r = nI b → F 1000514 r = (pk (OI I v) a (b - a)).1
/-- the law's row shows a siren -/
def LE (I : Nat → Nat → Int32) (x : Nat) : Prop := I 501 x = I 1000532 x ∧ I 501 (12 + x) = I 1000535 x ∧ I 501 (24 + x) = I 1000536 x
def LSi (I : Nat → Nat → Int32) (x : Nat) : Prop := (∃ d, d < 3 ∧ I 1000532 x = nI d ∧ I 1000517 d ≠ 0) ∧ (∃ f, f < 4 ∧ I 1000535 x = nI f) ∧ ∃ w, w ≤ 10000 ∧ I 1000536 x = nI w
/-- the law's row shows the models of versions -/
def LV (s : AS) (rc : Nat) (I : Nat → Nat → Int32) : Prop := ∀ v, v < aC s → ((∃ k, k < 6 ∧ aL s k = nI v) ∨ (∃ r, r < rc ∧ I 1000511 r = nI v)) → I 499 v = aM s v
def LRn (I : Nat → Nat → Int32) : Prop := ∀ g, g < 3 → ∀ h, h < 201 → ∃ m, m ≤ 500 ∧ I 1000507 (201 * g + h) = nI m
/-- models name lower ones alone -/
def TL (s : AS) : Prop := ∀ v, v < aC s → ∀ m, m < 6 → aM s v = nI m → ∀ k, k < 6 → ib (msk 0 (aT s v)) k = true → k < m
def LC (s : AS) (rc sc t : Nat) (I : Nat → Nat → Int32) (F : Nat → Nat → UInt32) : Prop :=
  (I 498 0 = nI t ∧ I 498 1 = nI rc ∧ I 498 2 = nI sc ∧ I 498 3 = nI (aC s) ∧ rc ≤ 12 ∧ sc ≤ 12) ∧ (∀ d, d < 3 → LD I d ∧ LG I F sc d) ∧ (∀ r, r < rc → LR I F r ∧ LPk I F r) ∧ (∀ x, x < sc → LE I x ∧ LSi I x) ∧ LV s rc I ∧ LRn I ∧ (∀ v, I 1000510 v = 0) ∧ TL s
theorem pk_cong {g h : Nat → UInt32} {a : Nat} : ∀ m, (∀ t, a ≤ t → t ≤ a + m → g t = h t) → pk g a m = pk h a m
  | 0, e => by
    show (g a, a) = (h a, a)
    rw [e a (by omega) (by omega)]
  | m + 1, e => by
    have ih := pk_cong m (fun t x y => e t x (by omega))
    show (if fk (pk g a m).1 < fk (g (a + m + 1)) then (g (a + m + 1), a + m + 1) else pk g a m) = (if fk (pk h a m).1 < fk (h (a + m + 1)) then (h (a + m + 1), a + m + 1) else pk h a m)
    rw [ih, e (a + m + 1) (by omega) (by omega)]
section LCF
variable {I J : Nat → Nat → Int32} {L M : Nat → Nat → Int64} {F H : Nat → Nat → UInt32} {s : AS} {rc sc t n T N d r x : Nat}
/-- what the law's rows hang on -/
def LQ (I J : Nat → Nat → Int32) : Prop := (∀ r, r < 12 → J (383 + r) 5 = I (383 + r) 5) ∧ ∀ o k, ((498 ≤ o ∧ o ≤ 501) ∨ (1000502 ≤ o ∧ o ≤ 1000536 ∧ o ≠ 1000519 ∧ (o < 1000521 ∨ 1000524 < o) ∧ o ≠ 1000529)) → J o k = I o k
def LQF (F H : Nat → Nat → UInt32) : Prop := ∀ o k, (o = 1000514 ∨ o = 1000520 ∨ o = 1000530) → H o k = F o k
theorem LQF.refl : LQF F F := fun _ _ _ => rfl
theorem LQ.refl : LQ I I := ⟨fun _ _ => rfl, fun _ _ _ => rfl⟩
theorem LQ.oi (h : LQ I J) : OI J = OI I := OI_cong (funext fun k => h.2 _ k (by omega)) (funext fun k => h.2 _ k (by omega)) (funext fun k => h.2 _ k (by omega)) (funext fun k => h.2 _ k (by omega))
theorem LG.fr (h : ∀ o, 1000517 ≤ o → o ≤ 1000531 → o ≠ 1000519 → (o < 1000521 ∨ 1000524 < o) → o ≠ 1000529 → J o d = I o d) (h2 : ∀ k, J 1000535 k = I 1000535 k) (hf : ∀ o, o = 1000520 ∨ o = 1000530 → H o d = F o d) (z : LG I F sc d) : LG J H sc d := by
  unfold LG at z ⊢
  rw [h 1000517 (by decide) (by decide) (by decide) (by decide) (by decide), h 1000526 (by decide) (by decide) (by decide) (by decide) (by decide), h 1000527 (by decide) (by decide) (by decide) (by decide) (by decide), h 1000528 (by decide) (by decide) (by decide) (by decide) (by decide), h 1000531 (by decide) (by decide) (by decide) (by decide) (by decide), hf 1000520 (by omega), hf 1000530 (by omega), show jdg J = jdg I from funext fun x => by unfold jdg; rw [h2]]
  exact z
theorem LC.fr (h : LQ I J) (hf : LQF F H) (z : LC s rc sc t I F) : LC s rc sc t J H := by
  obtain ⟨⟨a0, a1, a2, a3, a4, a5⟩, b, c, d, e, f, g, k⟩ := z
  have eo := h.oi
  refine ⟨⟨(h.2 _ _ (by omega)).trans a0, (h.2 _ _ (by omega)).trans a1, (h.2 _ _ (by omega)).trans a2, (h.2 _ _ (by omega)).trans a3, a4, a5⟩, fun d hd => ?_, fun r hr => ?_, fun x hx => ?_, fun v hv y => ?_, fun g hg t ht => ?_, fun v => (h.2 _ _ (by omega)).trans (g v), k⟩
  · obtain ⟨⟨x1, x2, x3, x4, x5⟩, y⟩ := b d hd
    refine ⟨?_, y.fr (fun o p q x1 x2 x3 => h.2 o d (by omega)) (fun k => h.2 _ k (by omega)) (fun o x => hf o d (by omega))⟩
    unfold LD
    rw [h.2 498 _ (by omega), h.2 498 _ (by omega), h.2 498 _ (by omega), h.2 498 _ (by omega), h.2 498 _ (by omega), h.2 1000517 d (by omega), h.2 1000518 d (by omega), h.2 1000526 d (by omega), h.2 1000527 d (by omega), h.2 1000528 d (by omega)]
    exact ⟨x1, x2, x3, x4, x5⟩
  · obtain ⟨⟨x1, x2, x3, x4⟩, y⟩ := c r hr
    refine ⟨?_, ?_⟩
    · unfold LR
      rw [h.2 500 _ (by omega), h.2 500 _ (by omega), h.2 500 _ (by omega), h.2 500 _ (by omega), h.2 1000511 r (by omega), h.2 1000512 r (by omega), h.2 1000513 r (by omega), hf 1000514 r (by omega)]
      exact ⟨x1, x2, x3, x4⟩
    · unfold LPk
      rw [h.1 r (by omega), h.2 1000511 r (by omega), h.2 1000512 r (by omega), h.2 1000513 r (by omega), hf 1000514 r (by omega), eo]
      exact y
  · obtain ⟨⟨x1, x2, x3⟩, ⟨d, d1, d2, d3⟩, y2, y3⟩ := d x hx
    refine ⟨?_, ⟨d, d1, (h.2 _ _ (by omega)).trans d2, ?_⟩, ?_, ?_⟩
    · unfold LE
      rw [h.2 501 _ (by omega), h.2 501 _ (by omega), h.2 501 _ (by omega), h.2 1000532 x (by omega), h.2 1000535 x (by omega), h.2 1000536 x (by omega)]
      exact ⟨x1, x2, x3⟩
    · rw [h.2 1000517 d (by omega)]; exact d3
    · rw [h.2 1000535 x (by omega)]; exact y2
    · rw [h.2 1000536 x (by omega)]; exact y3
  · rw [h.2 499 v (by omega)]
    refine e v hv ?_
    rcases y with y | ⟨r, hr, y⟩
    · exact Or.inl y
    · exact Or.inr ⟨r, hr, by rw [← h.2 1000511 r (by omega)]; exact y⟩
  · rw [h.2 1000507 _ (by omega)]; exact f g hg t ht
theorem LQ.oif (i : OIF I J) : LQ I J := ⟨fun r hr => i _ _ (by omega) (fun ⟨v, _, y, _⟩ => by omega), fun o k h => i o k (by omega) (fun ⟨v, _, y, _⟩ => by omega)⟩
theorem LQF.off (i : OFF F H) : LQF F H := fun o k h => i o k (by omega) (by omega) (fun ⟨v, x, y⟩ => by omega)
theorem LQ.lif (i : LIF 380 I J) : LQ I J := ⟨fun r hr => i _ _ (by omega) (by omega) (fun ⟨v, _, y, _⟩ => by omega), fun o k h => i o k (by omega) (by omega) (fun ⟨v, _, y, _⟩ => by omega)⟩
theorem LQF.lff (i : LFF 380 F H) : LQF F H := fun o k h => i o k (by omega) (by omega) (by omega) (fun ⟨v, x, y⟩ => by omega)
theorem LQ.rdf (i : RdFr I J) : LQ I J := ⟨fun r hr => i _ _ (by omega), fun o k h => i o k (by omega)⟩
/-- all that stands between the law's calls -/
def Al (s : AS) (T rc sc t n N : Nat) (I : Nat → Nat → Int32) (L : Nat → Nat → Int64) (F : Nat → Nat → UInt32) : Prop := InvS s T rc sc t n N I L F ∧ LC s rc sc t I F
theorem Al.up {N2 : Nat} (h : N ≤ N2) (z : Al s T rc sc t n N I L F) : Al s T rc sc t n N2 I L F := by
  obtain ⟨⟨a, b, c, d, ⟨e, e2⟩, f⟩, g⟩ := z
  exact ⟨⟨a, b, c, d, ⟨e, by omega⟩, f⟩, g⟩
end LCF
section ZQ
variable {X : Nat × (Nat × (Nat → Int32))} {I J : Nat → Nat → Int32} {L M : Nat → Nat → Int64} {F H : Nat → Nat → UInt32} {Q : AQ} {N T rc sc t n d r v k h x : Nat} {s : AS}
theorem z_latest (iv : InvS s T rc sc t n N I L F) (hk : k < 6) (q : Q (.inl (some (.int (aL s k)))) (G X I L F)) : WP mX9_latest 0 (am_ent 2 [.ref 0, .int (nI k)]) [] (G X I L F) 0 0 Q := by
  refine k_X9_latest_0 ⟨fun a => absurd a (by rw [m9_1 ⟨k, hk, rfl⟩]; exact n10), fun _ => ?_⟩
  rw [lat_v hk, iv.1.1.2.2.1.2.2 k hk]
  exact q
theorem z_pin (iv : InvS s T rc sc t n N I L F) (hv : v < aC s) (hk : k < 6) (q : Q (.inl (some (.int (aP s v k)))) (G X I L F)) : WP mX9_pin 0 (am_ent 3 [.ref 0, .int (nI v), .int (nI k)]) [] (G X I L F) 0 0 Q := by
  have hc := iv.1.1.1.1
  have c9 := iv.1.1.2.2.1.1
  refine k_X9_pin_0 ⟨fun a => absurd a (by rw [v9_1 hc c9 ⟨v, hv, rfl⟩]; exact n10), fun _ => ⟨fun a => absurd a (by rw [m9_1 ⟨k, hk, rfl⟩]; exact n10), fun _ => ?_⟩⟩
  have ev : f_X6_pinOf (nI v) (nI k) I = aP s v k := by
    unfold f_X6_pinOf
    rw [v9_1 hc c9 ⟨v, hv, rfl⟩, if_neg n10, m9_1 ⟨k, hk, rfl⟩, if_neg n10, nI_clamp (show v < 2 ^ 31 by omega), nI_clamp (show k < 2 ^ 31 by omega), (iv.1.1.2.2.1.2.1 v hv).2.1 k hk]
  rw [ev]; exact q
theorem z_why (iv : InvS s T rc sc t n N I L F) (hr : r < rc) (q : Q (.inl (some (.int (f_X9_reasonAgainst (nI r) I)))) (G X I L F)) : WP mX9_why 0 (am_ent 2 [.ref 0, .int (nI r)]) [] (G X I L F) 0 0 Q :=
  k_X9_why_0 ⟨fun a => absurd a (by rw [r9_1 iv.2.2.2.1.1 iv.2.2.2.1.2.1 ⟨r, hr, rfl⟩]; exact n10), fun _ => q⟩
theorem z_peakHour (iv : InvS s T rc sc t n N I L F) (hr : r < rc) (q : Q (.inl (some (.int (I 1000515 r)))) (G X I L F)) : WP mX9_peakHour 0 (am_ent 2 [.ref 0, .int (nI r)]) [] (G X I L F) 0 0 Q := by
  have rr := iv.2.2.2.1
  have h40 := rr.1
  refine k_X9_peakHour_0 ⟨fun a => absurd a (by rw [r9_1 h40 rr.2.1 ⟨r, hr, rfl⟩]; exact n10), fun _ => ?_⟩
  obtain ⟨v, a, b, _, _, _, _, _, _, _, _, _, _, _, ph, _⟩ := rr.2.2.2 r hr
  rw [nI_clamp (show r < 2 ^ 31 by omega), ph]
  exact q
theorem z_peak (iv : InvS s T rc sc t n N I L F) (hr : r < rc) (q : Q (.inl (some (.int (UInt32.toInt32 (F 1000514 r))))) (G X I L F)) : WP mX9_peak 0 (am_ent 2 [.ref 0, .int (nI r)]) [] (G X I L F) 0 0 Q := by
  have rr := iv.2.2.2.1
  have h40 := rr.1
  obtain ⟨v, a, b, _, _, _, _, _, _, _, _, _, pe, kp, _⟩ := rr.2.2.2 r hr
  refine k_X9_peak_0 ⟨fun a => absurd a (by rw [r9_1 h40 rr.2.1 ⟨r, hr, rfl⟩]; exact n10), fun _ => ?_⟩
  rw [nI_clamp (show r < 2 ^ 31 by omega), pe]
  exact sp_bitsOf kp.fin kp.2.2 (k_X9_peak_30 q)
theorem z_level (iv : InvS s T rc sc t n N I L F) (hd : d < 3) (q : Q (.inl (some (.int (UInt32.toInt32 (F 1000520 d))))) (G X I L F)) : WP mX9_level 0 (am_ent 2 [.ref 0, .int (nI d)]) [] (G X I L F) 0 0 Q := by
  obtain ⟨vi, dr, nw, rr, _, da, _⟩ := iv
  obtain ⟨_, ⟨d5, _⟩, lu, lp, _⟩ := da d hd
  have ht := nw.1
  have lf := lu.fin (by omega)
  refine k_X9_level_0 ⟨fun a => absurd a (by rw [d9_1 ⟨d, hd, rfl⟩]; exact n10), fun _ => ?_⟩
  rw [nI_clamp (show d < 2 ^ 31 by omega), d5]
  exact sp_bitsOf lf (pz_z lp) (k_X9_level_30 q)
theorem z_trust (iv : InvS s T rc sc t n N I L F) (hd : d < 3) (q : Q (.inl (some (.int (UInt32.toInt32 (F 1000530 d))))) (G X I L F)) : WP mX9_trust 0 (am_ent 2 [.ref 0, .int (nI d)]) [] (G X I L F) 0 0 Q := by
  obtain ⟨vi, dr, nw, rr, _, da, _⟩ := iv
  obtain ⟨_, ⟨_, d12, _⟩, _, _, ⟨lf, lp, _⟩, _⟩ := da d hd
  refine k_X9_trust_0 ⟨fun a => absurd a (by rw [d9_1 ⟨d, hd, rfl⟩]; exact n10), fun _ => ?_⟩
  rw [nI_clamp (show d < 2 ^ 31 by omega), d12]
  exact sp_bitsOf lf (pz_z lp) (k_X9_trust_30 q)
theorem z_saved (iv : InvS s T rc sc t n N I L F) (hd : d < 3) (q : Q (.inl (some (.int (I 1000531 d)))) (G X I L F)) : WP mX9_saved 0 (am_ent 2 [.ref 0, .int (nI d)]) [] (G X I L F) 0 0 Q := by
  obtain ⟨vi, dr, nw, rr, _, da, _⟩ := iv
  obtain ⟨_, ⟨_, _, d13, _⟩, _⟩ := da d hd
  refine k_X9_saved_0 ⟨fun a => absurd a (by rw [d9_1 ⟨d, hd, rfl⟩]; exact n10), fun _ => ?_⟩
  rw [nI_clamp (show d < 2 ^ 31 by omega), d13]
  exact q
theorem z_below (iv : InvS s T rc sc t n N I L F) (hd : d < 3) (hh : h < t) (q : Q (.inl (some (.int (UInt32.toInt32 (F 1000525 (201 * d + h)))))) (G X I L F)) : WP mX9_below 0 (am_ent 3 [.ref 0, .int (nI d), .int (nI h)]) [] (G X I L F) 0 0 Q := by
  obtain ⟨vi, dr, ⟨ht, e9, _⟩, rr, _, da, _⟩ := iv
  obtain ⟨_, ⟨_, _, _, dB⟩, _, _, _, fB⟩ := da d hd
  obtain ⟨f1, f2⟩ := fB h (by omega)
  refine k_X9_below_0 ⟨fun a => absurd a (by rw [d9_1 ⟨d, hd, rfl⟩]; exact n10), fun _ => ⟨fun a => absurd a (by rw [isHour_1 ⟨h, by omega, rfl⟩]; exact n10), fun _ => ⟨fun _ => ?_, fun a => absurd ?_ a⟩⟩⟩
  · rw [nI_clamp (show d < 2 ^ 31 by omega), nI_clamp (show h < 2 ^ 31 by omega), show 423 + 5 * d + 4 = 427 + 5 * d by omega, dB h (by omega)]
    exact sp_bitsOf f1 (pz_z f2) (k_X9_below_58 q)
  · rw [e9]; exact (nI_ltI (by omega) (by omega)).mpr hh
theorem z_siren (iv : InvS s T rc sc t n N I L F) (hx : x < sc) (q : Q (.inl (some (.int (I 1000535 x)))) (G X I L F)) : WP mX9_siren 0 (am_ent 2 [.ref 0, .int (nI x)]) [] (G X I L F) 0 0 Q := by
  obtain ⟨vi, dr, nw, rr, _, da, si⟩ := iv
  have s60 := si.1
  refine k_X9_siren_0 ⟨fun a => absurd a (by rw [s9_1 s60 si.2.1 ⟨x, hx, rfl⟩]; exact n10), fun _ => ?_⟩
  rw [nI_clamp (show x < 2 ^ 31 by omega), (si.2.2.2 x hx).2]
  exact q
theorem z_walkers (iv : InvS s T rc sc t n N I L F) (hx : x < sc) (q : Q (.inl (some (.int (I 1000536 x)))) (G X I L F)) : WP mX9_walkers 0 (am_ent 2 [.ref 0, .int (nI x)]) [] (G X I L F) 0 0 Q := by
  obtain ⟨vi, dr, nw, rr, _, da, si⟩ := iv
  have s60 := si.1
  obtain ⟨d, r, _, _, _, _, _, _, _, e3⟩ := (si.2.2.2 x hx).1
  refine k_X9_walkers_0 ⟨fun a => absurd a (by rw [s9_1 s60 si.2.1 ⟨x, hx, rfl⟩]; exact n10), fun _ => ?_⟩
  rw [nI_clamp (show x < 2 ^ 31 by omega), e3]
  exact q
theorem z_out (iv : Al s T rc sc t n N I L F) (hv : v < aC s) (hh : h < 201) (q : ∀ J H, Al s T rc sc t n N J L H → OIF I J → LQ I J → LQF F H → Q (.inl (some (.int (UInt32.toInt32 (OI I v h))))) (G X J L H)) : WP mX9_out 0 (am_ent 3 [.ref 0, .int (nI v), .int (nI h)]) [] (G X I L F) 0 0 Q := by
  obtain ⟨iv, lc⟩ := iv
  have hc := iv.1.1.1.1
  have c9 := iv.1.1.2.2.1.1
  refine k_X9_out_0 ⟨fun a => absurd a (by rw [v9_1 hc c9 ⟨v, hv, rfl⟩]; exact n10), fun _ => ⟨fun a => absurd a (by rw [isHour_1 ⟨h, hh, rfl⟩]; exact n10), fun _ => ?_⟩⟩
  exact sp_outputOf hv hh iv.1.outc (fun J H i1 i2 oc _ => k_X9_out_47 (sp_bitsOf OO_kv.fin OO_kv.2.2 (k_X9_out_50 (q J H ⟨iv.oif i1 i2 oc, lc.fr (LQ.oif i1) (LQF.off i2)⟩ i1 (LQ.oif i1) (LQF.off i2)))))
theorem z_outAnew (iv : Al s T rc sc t n N I L F) (hv : v < aC s) (hh : h < 201) (q : ∀ J H, Al s T rc sc t n N J L H → OIF I J → LQ I J → LQF F H → Q (.inl (some (.int (UInt32.toInt32 (OI I v h))))) (G X J L H)) : WP mX9_outAnew 0 (am_ent 3 [.ref 0, .int (nI v), .int (nI h)]) [] (G X I L F) 0 0 Q := by
  obtain ⟨iv, lc⟩ := iv
  have hc := iv.1.1.1.1
  have c9 := iv.1.1.2.2.1.1
  refine k_X9_outAnew_0 ⟨fun a => absurd a (by rw [v9_1 hc c9 ⟨v, hv, rfl⟩]; exact n10), fun _ => ⟨fun a => absurd a (by rw [isHour_1 ⟨h, hh, rfl⟩]; exact n10), fun _ => ?_⟩⟩
  refine sp_forget hv iv.1.outc (fun J0 i0 oc0 => k_X9_outAnew_46 ?_)
  have iv0 := iv.oif i0 OFF.refl oc0
  refine sp_outputOf hv hh oc0 (fun J H i1 i2 oc _ => k_X9_outAnew_55 (sp_bitsOf OO_kv.fin OO_kv.2.2 (k_X9_outAnew_58 ?_)))
  rw [i0.oi]
  exact q J H ⟨iv0.oif i1 i2 oc, (lc.fr (LQ.oif i0) LQF.refl).fr (LQ.oif i1) (LQF.off i2)⟩ (i0.trans i1) (LQ.oif (i0.trans i1)) (LQF.off i2)
theorem z_peakAnew {a b : Nat} (iv : Al s T rc sc t n N I L F) (hr : r < rc) (e1 : I 1000511 r = nI v) (hv : v < 60) (e2 : I 1000512 r = nI a) (e3 : I 1000513 r = nI b) (ha : a < 201) (hb : b < 201) (q : ∀ J H, Al s T rc sc t n N J L H → LIF 380 I J → LQ I J → LQF F H → Q (.inl (some (.int (UInt32.toInt32 (pk (OI I v) a (b - a)).1)))) (G X J L H)) : WP mX9_peakAnew 0 (am_ent 3 [.ref 0, .int (nI r)]) [] (G X I L F) 0 0 Q := by
  obtain ⟨iv, lc⟩ := iv
  have rr := iv.2.2.2.1
  have h40 := rr.1
  have hc := iv.1.1.1.1
  refine k_X9_peakAnew_0 ⟨fun a => absurd a (by rw [r9_1 h40 rr.2.1 ⟨r, hr, rfl⟩]; exact n10), fun _ => ?_⟩
  obtain ⟨v2, a2, b2, hv2, hab, hb2, ev, mv, ea, ma, eb, mb, _⟩ := rr.2.2.2 r hr
  have x1 : v = v2 := (nI_eq (by omega) (by omega)).mp (e1.symm.trans mv)
  have x2 : a = a2 := (nI_eq (by omega) (by omega)).mp (e2.symm.trans ma)
  have x3 : b = b2 := (nI_eq (by omega) (by omega)).mp (e3.symm.trans mb)
  subst x1 x2 x3
  rw [nI_clamp (show r < 2 ^ 31 by omega), ev]
  refine sp_forget hv2 iv.1.outc (fun J0 i0 oc0 => k_X9_peakAnew_36 (gi_runN (by omega)) ?_)
  have iv0 := iv.oif i0 OFF.refl oc0
  have fr : ∀ k, J0 (383 + r) k = I (383 + r) k := fun k => i0 _ k (by omega) (fun ⟨v, _, y, _⟩ => by omega)
  rw [fr 0, fr 1, fr 2, ev, ea, eb]
  refine sp_look isRun_380 (by omega) (by omega) hv2 hab hb oc0 (fun J H i1 i2 oc eo ri => k_X9_peakAnew_59 (gi_runN (by omega)) ?_)
  have iv1 := iv0.lif i1 i2 oc
  have pv := pk_val (g := OI J0 v) (a := a) (b - a)
  have lt : LIF 380 I J := (LIF.of i0).trans (by omega) i1
  rw [ri.2.2.2.2.1]
  refine sp_bitsOf (by rw [pv.1]; exact OO_kv.fin) (by rw [pv.1]; exact OO_kv.2.2) (k_X9_peakAnew_69 (gi_runN (by omega)) ?_)
  rw [i0.oi]
  exact q J H ⟨iv1, lc.fr (LQ.lif lt) (LQF.lff i2)⟩ lt (LQ.lif lt) (LQF.lff i2)
end ZQ
