/-! own: what a publishing makes of versions -/
set_option maxRecDepth 100000
section PB
variable {s z : AS} {m k c v : Nat} {t : List Int32} {N : Nat → Int32}
theorem bind_ext : ∀ (n : Nat) (s z : AS), BindR n s z → aC z = aC s + n ∧ ∀ v, v < aC s → aT z v = aT s v ∧ (∀ k, aP z v k = aP s v k) ∧ aM z v = aM s v
  | 0, s, z, ⟨_, _, e⟩ => by subst e; exact ⟨rfl, fun v _ => ⟨rfl, fun _ => rfl, rfl⟩⟩
  | n + 1, s, z, ⟨_, k, _, _, b⟩ => by
    obtain ⟨a, c⟩ := bind_ext n _ z b
    refine ⟨by rw [a, entA_C]; omega, fun v hv => ?_⟩
    obtain ⟨x, y, w⟩ := c v (by rw [entA_C]; omega)
    exact ⟨x.trans (entA_T (by omega)), fun k => (y k).trans (entA_P (by omega)), w.trans (entA_M (by omega))⟩
theorem TL_ent (hc : aC s < 60) (tl : TL s) (ht : ∀ k, k < 6 → ib (msk 0 t) k = true → k < m) (hm : m < 6) : TL (entA m t s) := fun v hv mo hmo em k hk u => by
  have hv2 : v < aC s + 1 := hv
  by_cases e : v = aC s
  · subst e
    rw [entA_Mc] at em
    rw [entA_Tc] at u
    have : m = mo := (nI_eq (by omega) (by omega)).mp em
    rw [← this]; exact ht k hk u
  · rw [entA_M e] at em
    rw [entA_T e] at u
    exact tl v (by omega) mo hmo em k hk u
theorem st_lat (w : WA s) (hk : k < 6) (h : aL s k ≠ -1) : ∃ v, v < aC s ∧ aL s k = nI v ∧ aM s v = nI k ∧ aO s k = aT s v ∧ aN s k = msk 0 (aT s v) := by
  have hc := w.1
  rcases w.2.2 k hk with e | ⟨v, hv, e, em⟩
  · exact absurd e h
  · refine ⟨v, hv, e, em, ?_, ?_⟩
    · unfold aO; rw [e, nI_clamp (by omega)]
    · unfold aN; rw [if_neg h, e, nI_clamp (by omega)]
theorem st_ne (h : stA s k) (hc : aC s ≤ 60) : aL s k ≠ -1 := by
  obtain ⟨v, hv, e, _⟩ := h
  rw [e]; exact nI_m1 (by omega)
/-- models that are the latest name lower ones -/
theorem TL_low (w : WA s) (tl : TL s) : ∀ a b, a < 6 → b < 6 → ib (aN s a) b = true → b < a := fun a b ha hb u => by
  by_cases e : aL s a = -1
  · unfold aN at u
    rw [if_pos e, ib_0] at u; cases u
  · obtain ⟨v, hv, _, em, _, en⟩ := st_lat w ha e
    rw [en] at u
    exact tl v hv a ha em b hb u
theorem rt_low (h : ∀ a b, a < 6 → b < 6 → ib (N a) b = true → b < a) : ∀ n a b, a < 6 → b < 6 → pth N n a b → b < a
  | 0, a, b, ha, hb, p => h a b ha hb p
  | n + 1, a, b, ha, hb, p => by
    rcases p with p | ⟨x, hx, e, p⟩
    · exact h a b ha hb p
    · have := h a x ha hx e
      have := rt_low h n x b hx hb p
      omega
theorem RT_low (w : WA s) (tl : TL s) {a b : Nat} (ha : a < 6) (hb : b < 6) (z : RT (aN s) a b) : b < a := by
  obtain ⟨n, p⟩ := z
  exact rt_low (TL_low w tl) n a b ha hb p
theorem TL_bind : ∀ (n : Nat) (s z : AS), TL s → aC s + n ≤ 60 → BindR n s z → TL z
  | 0, s, z, tl, _, ⟨_, _, e⟩ => by rw [e]; exact tl
  | n + 1, s, z, tl, h, ⟨⟨w, _⟩, k, hk, ⟨⟨st, _⟩, _⟩, b⟩ => by
    obtain ⟨v, hv, _, em, eo, _⟩ := st_lat w hk (st_ne st w.1)
    exact TL_bind n _ z (TL_ent (by omega) tl (fun j hj u => by rw [eo] at u; exact tl v hv k hk em j hj u) hk) (by rw [entA_C]; omega) b
theorem bind_top : ∀ (n : Nat) (s z : AS), (0 < aC s ∧ ∃ k, k < 6 ∧ aL s k = nI (aC s - 1)) → BindR n s z → 0 < aC z ∧ ∃ k, k < 6 ∧ aL z k = nI (aC z - 1)
  | 0, s, z, h, ⟨_, _, e⟩ => by rw [e]; exact h
  | n + 1, s, z, h, ⟨_, k, hk, _, b⟩ => by
    refine bind_top n _ z ⟨by rw [entA_C]; omega, k, hk, ?_⟩ b
    rw [entA_Lm, entA_C, Nat.add_sub_cancel]
/-- the models up to the one that is published are not bound anew -/
theorem bind_low (hm : m < 6) : ∀ (n : Nat) (s z : AS), TL s → (∀ j, j ≤ m → ¬ stA s j) → aC s + n ≤ 60 → BindR n s z → aL z m = aL s m
  | 0, s, z, _, _, _, ⟨_, _, e⟩ => by rw [e]
  | n + 1, s, z, tl, h, hc, ⟨⟨w, _⟩, k, hk, ⟨⟨st, _⟩, _⟩, b⟩ => by
    have km : m < k := Nat.lt_of_not_le fun l => h k l st
    obtain ⟨v, hv, _, em, eo, _⟩ := st_lat w hk (st_ne st w.1)
    have lo : ∀ j, j < 6 → ib (msk 0 (aO s k)) j = true → j < k := fun j hj u => by rw [eo] at u; exact tl v hv k hk em j hj u
    have hn : ib (msk 0 (aO s k)) k = false := Bool.eq_false_iff.mpr fun u => absurd (lo k hk u) (Nat.lt_irrefl k)
    rw [bind_low hm n _ z (TL_ent (by omega) tl lo hk) (fun j hj sj => ?_) (by rw [entA_C]; omega) b, entA_L hk (by omega)]
    rcases (entA_st w hk (by omega) hn).2 j (by omega) (by omega) sj with a | a
    · exact h j hj a
    · have := TL_low w tl j k (by omega) hk a
      omega
/-- the model's cells, as the versions are -/
def gS (z : AS) (c : Nat) (K : Nat → Nat → Int32) : Nat → Nat → Int32 := fun o k =>
  if o = 1000498 ∧ k = 5 then nI (aC z) else if o = 1000501 ∧ c ≤ k then aM z k else if o = 1000502 ∧ c ≤ k then nI (aT z k).length
  else if o = 1000503 ∧ 40 * c ≤ k then (aT z (k / 40)).getD (k % 40) 0 else if o = 1000504 ∧ 6 * c ≤ k then aP z (k / 6) (k % 6) else if o = 1000505 then aL z k else K o k
theorem gS_ne {K : Nat → Nat → Int32} {o k : Nat} (h1 : ¬ (o = 1000498 ∧ k = 5)) (h2 : ¬ (o = 1000501 ∧ c ≤ k)) (h3 : ¬ (o = 1000502 ∧ c ≤ k)) (h4 : ¬ (o = 1000503 ∧ 40 * c ≤ k)) (h5 : ¬ (o = 1000504 ∧ 6 * c ≤ k)) (h6 : o ≠ 1000505) : gS z c K o k = K o k := by
  unfold gS
  rw [if_neg h1, if_neg h2, if_neg h3, if_neg h4, if_neg h5, if_neg h6]
theorem seg_of {g : Nat → Int32} : ∀ (l : List Int32) (i : Nat), (∀ k, k < l.length → g (i + k) = l.getD k 0) → seg g i l.length = l
  | [], _, _ => rfl
  | x :: l, i, h => by
    show g i :: seg g (i + 1) l.length = x :: l
    rw [seg_of l (i + 1) (fun k hk => by rw [show i + 1 + k = i + (k + 1) by omega]; exact h (k + 1) (by simp only [List.length_cons]; omega)), show g i = x from h 0 (by simp only [List.length_cons]; omega)]
theorem gS_MA {K : Nat → Nat → Int32} (ma : MAv K s) (w : WA s) (wz : WA z) (ex : ∀ v, v < aC s → aT z v = aT s v ∧ (∀ k, aP z v k = aP s v k) ∧ aM z v = aM s v) : MA (gS z (aC s) K) z := by
  refine ⟨if_pos ⟨rfl, rfl⟩, fun v hv => ?_, fun k hk => ?_⟩
  · by_cases l : v < aC s
    · obtain ⟨e1, e2, e3⟩ := ex v l
      obtain ⟨a, b, d, e⟩ := ma v l
      have len := (w.2.1 v l).1.1
      have x2 : gS z (aC s) K 1000502 v = K 1000502 v := gS_ne (by omega) (by omega) (by omega) (by omega) (by omega) (by omega)
      refine ⟨?_, x2.trans (by rw [b, e1]), fun k hk => ?_, ?_⟩
      · rw [e1, ← a]
        unfold vT
        rw [x2, b, nI_clamp (by omega)]
        exact seg_cong _ _ _ (fun k hk => gS_ne (by omega) (by omega) (by omega) (by omega) (by omega) (by omega))
      · rw [gS_ne (by omega) (by omega) (by omega) (by omega) (by omega) (by omega), e2]
        exact d k hk
      · rw [gS_ne (by omega) (by omega) (by omega) (by omega) (by omega) (by omega), e3]
        exact e
    · have len := (wz.2.1 v hv).1.1
      have x2 : gS z (aC s) K 1000502 v = nI (aT z v).length := by
        unfold gS
        rw [if_neg (by omega), if_neg (by omega), if_pos ⟨rfl, by omega⟩]
      refine ⟨?_, x2, fun k hk => ?_, ?_⟩
      · unfold vT
        rw [x2, nI_clamp (by omega)]
        refine seg_of _ _ (fun k hk => ?_)
        unfold gS
        rw [if_neg (by omega), if_neg (by omega), if_neg (by omega), if_pos ⟨rfl, by omega⟩, show (40 * v + k) / 40 = v by omega, show (40 * v + k) % 40 = k by omega]
      · unfold gS
        rw [if_neg (by omega), if_neg (by omega), if_neg (by omega), if_neg (by omega), if_pos ⟨rfl, by omega⟩, show (6 * v + k) / 6 = v by omega, show (6 * v + k) % 6 = k by omega]
      · unfold gS
        rw [if_neg (by omega), if_pos ⟨rfl, by omega⟩]
  · unfold gS
    rw [if_neg (by omega), if_neg (by omega), if_neg (by omega), if_neg (by omega), if_neg (by omega), if_pos rfl]
end PB
section ZP
variable {X : Nat × (Nat × (Nat → Int32))} {I J K : Nat → Nat → Int32} {L M : Nat → Nat → Int64} {F H : Nat → Nat → UInt32} {Q : AQ} {N T rc sc t n d r v k h x m : Nat} {s : AS}
/-- what stands but for the law's count and row of models -/
theorem LC.pub {z : AS} (lc : LC s rc sc t I F) (h5 : ∀ r, r < 12 → J (383 + r) 5 = I (383 + r) 5) (h : ∀ o k, ((498 ≤ o ∧ o ≤ 501 ∧ o ≠ 499 ∧ ¬ (o = 498 ∧ k = 3)) ∨ (1000507 ≤ o ∧ o ≤ 1000536)) → J o k = I o k) (e3 : J 498 3 = nI (aC z)) (lv : LV z rc J) (tl : TL z) (eo : ∀ v t, v < aC s → OI J v t = OI I v t) (hr : ∀ r, r < rc → ∃ v, v < aC s ∧ I 1000511 r = nI v) (hc : aC s ≤ 60) : LC z rc sc t J F := by
  obtain ⟨⟨a0, a1, a2, a3, a4, a5⟩, b, c, d, e, f, g, k⟩ := lc
  refine ⟨⟨(h _ _ (by omega)).trans a0, (h _ _ (by omega)).trans a1, (h _ _ (by omega)).trans a2, e3, a4, a5⟩, fun d hd => ?_, fun r hr2 => ?_, fun x hx => ?_, lv, fun g hg t ht => ?_, fun v => (h _ _ (by omega)).trans (g v), tl⟩
  · obtain ⟨⟨x1, x2, x3, x4, x5⟩, y⟩ := b d hd
    refine ⟨?_, y.fr (fun o p q _ _ _ => h o d (by omega)) (fun k => h _ k (by omega)) (fun _ _ => rfl)⟩
    unfold LD
    rw [h 498 _ (by omega), h 498 _ (by omega), h 498 _ (by omega), h 498 _ (by omega), h 498 _ (by omega), h 1000517 d (by omega), h 1000518 d (by omega), h 1000526 d (by omega), h 1000527 d (by omega), h 1000528 d (by omega)]
    exact ⟨x1, x2, x3, x4, x5⟩
  · obtain ⟨⟨x1, x2, x3, x4⟩, y⟩ := c r hr2
    refine ⟨?_, ?_⟩
    · unfold LR
      rw [h 500 _ (by omega), h 500 _ (by omega), h 500 _ (by omega), h 500 _ (by omega), h 1000511 r (by omega), h 1000512 r (by omega), h 1000513 r (by omega)]
      exact ⟨x1, x2, x3, x4⟩
    · unfold LPk
      rw [h5 r (by omega), h 1000511 r (by omega), h 1000512 r (by omega), h 1000513 r (by omega)]
      intro e5 v a b hab hb ev hv ea eb
      rw [y e5 v a b hab hb ev hv ea eb]
      obtain ⟨v2, hv2, ev2⟩ := hr r hr2
      have vv : v = v2 := (nI_eq (by omega) (by omega)).mp (ev.symm.trans ev2)
      rw [pk_cong (b - a) (fun t _ _ => (eo v t (by omega)).symm)]
  · obtain ⟨⟨x1, x2, x3⟩, ⟨d, d1, d2, d3⟩, y2, y3⟩ := d x hx
    refine ⟨?_, ⟨d, d1, (h _ _ (by omega)).trans d2, ?_⟩, ?_, ?_⟩
    · unfold LE
      rw [h 501 _ (by omega), h 501 _ (by omega), h 501 _ (by omega), h 1000532 x (by omega), h 1000535 x (by omega), h 1000536 x (by omega)]
      exact ⟨x1, x2, x3⟩
    · rw [h 1000517 d (by omega)]; exact d3
    · rw [h 1000535 x (by omega)]; exact y2
    · rw [h 1000536 x (by omega)]; exact y3
  · rw [h 1000507 _ (by omega)]; exact f g hg t ht
theorem InvS.eo_pub {z : AS} (iv : InvS s T rc sc t n N I L F) (w : WA s) (ma : MA I s) (e502 : ∀ k, k < aC s → J 1000502 k = I 1000502 k) (e503 : ∀ k, k < 40 * aC s → J 1000503 k = I 1000503 k) (e504 : ∀ k, k < 6 * aC s → J 1000504 k = I 1000504 k) (e507 : J 1000507 = I 1000507) : ∀ v t, v < aC s → OI J v t = OI I v t := fun v t hv => by
  have hc := w.1
  have vm := ma.vm w
  unfold OI
  refine OO_cong (H := t) (S := fun u => u < aC s) (fun u hu => ?_) t (Nat.le_refl t) v hv
  obtain ⟨tx, l, po, _⟩ := vm u hu
  have hu2 : u < aC s := hu
  have ev : vT (J 1000502) (J 1000503) u = vT (I 1000502) (I 1000503) u := by
    unfold vT
    rw [e502 u hu2]
    have l40 : (vT (I 1000502) (I 1000503) u).length ≤ 40 := tx.1
    refine seg_cong _ _ _ (fun k hk => e503 _ ?_)
    rw [l, nI_clamp (by omega)] at hk
    omega
  exact ⟨by omega, tx, ev, po, fun k hk => e504 _ (by omega), fun k x _ _ lt => (show x < aC s by omega), fun g2 _ _ t2 _ => congrFun e507 _⟩
/-- the law publishes a text that is whole and names models that it may name -/
theorem z_publish (hX : X.1 ≤ 400000) (iv : Al s T rc sc t n N I L F) (hm : m < 6) (h50 : aC s ≤ 50) (tx : Txt 0 (seg (I 2) 0 n)) (tn : ∀ k, k < 6 → ib (msk 0 (seg (I 2) 0 n)) k = true → k < m ∧ aL s k ≠ -1)
    (q : ∀ (s2 : AS) J M, InvS s2 T rc sc t n N J M F → TF I J → aC s < aC s2 → aC s2 ≤ aC s + 6 → aL s2 m = nI (aC s) → (∃ k, k < 6 ∧ aL s2 k = nI (aC s2 - 1)) → (∀ v, v < aC s → aM s2 v = aM s v) → (∀ k, J 499 k = I 499 k) → J 498 3 = I 498 3 →
      (∀ K, (∀ o k, o ≠ 499 → ¬ (o = 498 ∧ k = 3) → K o k = J o k) → K 498 3 = nI (aC s2) → LV s2 rc K → Al s2 T rc sc t n N K M F) → (∀ r, r < rc → ∃ v, v < aC s ∧ J 1000511 r = nI v ∧ I 1000511 r = nI v) → Q (.inl (some (.int (nI (aC s))))) (G X J M F)) : WP mX9_publish 0 (am_ent 2 [.ref 0, .int (nI m)]) [] (G X I L F) 0 0 Q := by
  obtain ⟨iv, lc⟩ := iv
  obtain ⟨⟨⟨w, fr, ca, ma⟩, rcI, oc, nf, omI, z0⟩, ⟨n40, d1, d2, dk⟩, nw, rr, _⟩ := id iv
  have tl : TL s := lc.2.2.2.2.2.2.2
  have hc := w.1
  obtain ⟨f, hf0⟩ := exF (fun k => RT (aN s) k m)
  obtain ⟨lat, hl0⟩ := exF (fun k => aL s k ≠ -1)
  have hf : ∀ k, k < 6 → (f k = true ↔ RT (aN s) k m) := fun k _ => hf0 k
  have hl : ∀ k, k < 6 → (lat k = true ↔ aL s k ≠ -1) := fun k _ => hl0 k
  have cn : cnB (msk 0 (seg (I 2) 0 n)) lat f m 6 = true := (cnB_iff 6).mpr ⟨Bool.eq_false_iff.mpr fun u => absurd (tn m hm u).1 (Nat.lt_irrefl m), fun k hk u => ⟨(hl k hk).mpr (tn k hk u).2, Bool.eq_false_iff.mpr fun y => by
    have := RT_low w tl hk hm ((hf k hk).mp y)
    have := (tn k hk u).1
    omega⟩⟩
  have c6 := cntB_le f 6
  have cc : aC s + 1 + cntB f 6 ≤ 60 := by
    have : cntB f 6 ≤ 6 := c6
    omega
  refine sp_cpublish w fr ca n40 d1 hm hl hf (fun nt _ _ => absurd tx nt) (fun _ nc _ _ => absurd ⟨cn, cc⟩ nc) (fun _ _ _ n1 zf h5 bz wz fz ez J K M rd sh lh caK => ?_)
  have tle : TL (entA m (seg (I 2) 0 n) s) := TL_ent (by omega) tl (fun k hk u => (tn k hk u).1) hm
  have ace : aC (entA m (seg (I 2) 0 n) s) = aC s + 1 := rfl
  obtain ⟨_, ex⟩ := bind_ext n1 _ zf bz
  have tlz := TL_bind n1 _ zf tle (by omega) bz
  have top := bind_top n1 _ zf ⟨by omega, m, hm, by rw [entA_Lm, ace, Nat.add_sub_cancel]⟩ bz
  have hn : ib (msk 0 (seg (I 2) 0 n)) m = false := Bool.eq_false_iff.mpr fun u => absurd (tn m hm u).1 (Nat.lt_irrefl m)
  have st := entA_st w hm (by omega) hn
  have low := bind_low hm n1 _ zf tle (fun j hj sj => by
    by_cases jm : j = m
    · rw [jm] at sj; exact st.1 sj
    · rcases st.2 j (by omega) jm sj with a | a
      · exact fr j (by omega) a
      · have := TL_low w tl j m (by omega) hm a
        omega) (by omega) bz
  rw [entA_Lm] at low
  have ex2 : ∀ v, v < aC s → aT zf v = aT s v ∧ (∀ k, aP zf v k = aP s v k) ∧ aM zf v = aM s v := fun v hv => by
    obtain ⟨a, b, c⟩ := ex v (by omega)
    exact ⟨a.trans (entA_T (by omega)), fun k => (b k).trans (entA_P (by omega)), c.trans (entA_M (by omega))⟩
  have kj : ∀ o k, ¬ (19 + 6 * aC s ≤ o ∧ o < 379) → o ≠ 14 → ¬ (o = 9 ∧ k = 4) → (o < 3 ∨ 8 < o) → K o k = I o k := fun o k a b c d => (sh.1 o k a b c).trans (rd o k d)
  have maK : MAv K s := (ma.fr (kj _ _ (by omega) (by omega) (by omega) (by omega)) (fun o a b => funext fun k => kj o k (by omega) (by omega) (by omega) (by omega))).2.1
  have ma2 : MA (gS zf (aC s) K) zf := gS_MA maK w wz ex2
  have gk : ∀ o k, o < 1000498 → gS zf (aC s) K o k = K o k := fun o k h => gS_ne (by omega) (by omega) (by omega) (by omega) (by omega) (by omega)
  have ca2 : CA (gS zf (aC s) K) M zf := caK.lo (fun o k a b c => Or.inl (gk o k (by omega))) (fun o k a b => rfl) (fun o k a b c => gk o k (by omega)) wz.1
  have kg : ∀ o k, ¬ (19 + 6 * aC s ≤ o ∧ o < 379) → o ≠ 14 → ¬ (o = 9 ∧ k = 4) → (o < 3 ∨ 8 < o) → ¬ (o = 1000498 ∧ k = 5) → ¬ (o = 1000501 ∧ aC s ≤ k) → ¬ (o = 1000502 ∧ aC s ≤ k) → ¬ (o = 1000503 ∧ 40 * aC s ≤ k) → ¬ (o = 1000504 ∧ 6 * aC s ≤ k) → o ≠ 1000505 → gS zf (aC s) K o k = I o k := fun o k a b c d e f g h i j => (gS_ne e f g h i j).trans (kj o k a b c d)
  have g510 : ∀ v, gS zf (aC s) K 1000510 v = 0 := fun v => (kg _ _ (by omega) (by omega) (by omega) (by omega) (by omega) (by omega) (by omega) (by omega) (by omega) (by omega)).trans (lc.2.2.2.2.2.2.1 v)
  have iv2 : InvS zf T rc sc t n N (gS zf (aC s) K) M F := InvS.pub iv wz fz (by omega) ca2 ma2 (fun o k h => kg o k (by omega) (by omega) (by omega) (by omega) (by omega) (by omega) (by omega) (by omega) (by omega) (by omega)) (fun v => by
    by_cases hv : v < 60
    · refine Or.inl ?_
      rw [gk _ _ (by omega), sh.2 v]
      exact rd _ _ (by omega)
    · exact Or.inr (by omega)) (fun k hk => kg _ k (by omega) (by omega) (by omega) (by omega) (by omega) (by omega) (by omega) (by omega) (by omega) (by omega)) (fun k hk => kg _ k (by omega) (by omega) (by omega) (by omega) (by omega) (by omega) (by omega) (by omega) (by omega) (by omega)) (fun k hk => kg _ k (by omega) (by omega) (by omega) (by omega) (by omega) (by omega) (by omega) (by omega) (by omega) (by omega)) (fun k hk => kg _ k (by omega) (by omega) (by omega) (by omega) (by omega) (by omega) (by omega) (by omega) (by omega) (by omega)) (fun v _ _ => g510 v)
  have hr : ∀ r, r < rc → ∃ v, v < aC s ∧ I 1000511 r = nI v := fun r hr => by
    obtain ⟨v, a, b, z1, z2, z3, z4, z5, _⟩ := rr.2.2.2 r hr
    exact ⟨v, z1, z5⟩
  have rc12 := lc.1.2.2.2.2.1
  rw [G_eq (J := gS zf (aC s) K) (H := F) (fun o k h => gk o k (by omega)) (fun _ _ _ => rfl)]
  refine q zf _ M iv2 (fun o k a b => kg o k (by omega) (by omega) (by omega) (by omega) (by omega) (by omega) (by omega) (by omega) (by omega) (by omega)) (by omega) (by omega) low top.2 (fun v hv => (ex2 v hv).2.2) (fun k => kg _ k (by omega) (by omega) (by omega) (by omega) (by omega) (by omega) (by omega) (by omega) (by omega) (by omega)) (kg _ _ (by omega) (by omega) (by omega) (by omega) (by omega) (by omega) (by omega) (by omega) (by omega) (by omega)) (fun K2 h2 e3 lv => ⟨iv2.row (fun o k h => h2 o k (by omega) (by omega)), lc.pub (z := zf) (fun r hr => ?_) (fun o k h => ?_) e3 lv tlz ?_ hr hc⟩) (fun r hr2 => ?_)
  · rw [h2 _ _ (by omega) (by omega)]
    exact kg _ _ (by omega) (by omega) (by omega) (by omega) (by omega) (by omega) (by omega) (by omega) (by omega) (by omega)
  · rw [h2 _ _ (by omega) (by omega)]
    exact kg _ _ (by omega) (by omega) (by omega) (by omega) (by omega) (by omega) (by omega) (by omega) (by omega) (by omega)
  · refine iv.eo_pub (z := zf) w ma (fun k hk => ?_) (fun k hk => ?_) (fun k hk => ?_) (funext fun k => ?_)
    · rw [h2 _ _ (by omega) (by omega)]
      exact kg _ _ (by omega) (by omega) (by omega) (by omega) (by omega) (by omega) (by omega) (by omega) (by omega) (by omega)
    · rw [h2 _ _ (by omega) (by omega)]
      exact kg _ _ (by omega) (by omega) (by omega) (by omega) (by omega) (by omega) (by omega) (by omega) (by omega) (by omega)
    · rw [h2 _ _ (by omega) (by omega)]
      exact kg _ _ (by omega) (by omega) (by omega) (by omega) (by omega) (by omega) (by omega) (by omega) (by omega) (by omega)
    · rw [h2 _ _ (by omega) (by omega)]
      exact kg _ _ (by omega) (by omega) (by omega) (by omega) (by omega) (by omega) (by omega) (by omega) (by omega) (by omega)
  · obtain ⟨v, hv, e⟩ := hr r hr2
    exact ⟨v, hv, (kg _ _ (by omega) (by omega) (by omega) (by omega) (by omega) (by omega) (by omega) (by omega) (by omega) (by omega)).trans e, e⟩
end ZP
