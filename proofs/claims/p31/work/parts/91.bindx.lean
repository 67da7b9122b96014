/-! own: binding anew ends, and is as it should be -/
set_option maxRecDepth 100000
section BX
variable {s z : AS} {m k c : Nat} {t : List Int32} {f g d : Nat → Bool} {N N1 : Nat → Int32}
theorem pth_congr (h : ∀ x, x < 6 → N x = N1 x) : ∀ n a b, a < 6 → pth N n a b → pth N1 n a b
  | 0, a, b, ha, p => by
    show ib (N1 a) b = true
    rw [← h a ha]; exact p
  | n + 1, a, b, ha, p => by
    rcases p with p | ⟨x, hx, e, p⟩
    · exact Or.inl (by rw [← h a ha]; exact p)
    · exact Or.inr ⟨x, hx, by rw [← h a ha]; exact e, pth_congr h n x b hx p⟩
theorem RT_congr (h : ∀ x, x < 6 → N x = N1 x) {a b : Nat} (ha : a < 6) : RT N a b ↔ RT N1 a b :=
  ⟨fun ⟨n, p⟩ => ⟨n, pth_congr h n a b ha p⟩, fun ⟨n, p⟩ => ⟨n, pth_congr (fun x hx => (h x hx).symm) n a b ha p⟩⟩
theorem frsh_pin (w : WA s) (fr : Frsh s) (hk : k < 6) {j : Nat} (hj : j < 6) (u : ib (aN s k) j = true) : ∃ a b, b < a ∧ a < aC s ∧ aL s k = nI a ∧ aL s j = nI b := by
  have z : aL s k ≠ -1 := fun e => by unfold aN at u; rw [if_pos e, ib_0] at u; cases u
  obtain ⟨v, hv, e1, e2⟩ := lat_lt w hk z
  have e3 : aN s k = msk 0 (aT s v) := by unfold aN; rw [if_neg z, e2]
  rw [e3] at u
  obtain ⟨p1, p2⟩ := (w.2.1 v hv).2.1 j hj
  have np := p2.mpr u
  have ep : aP s v j = aL s j := by
    by_cases e : aP s v j = aL s j
    · exact e
    · exact absurd ⟨v, hv, e1, j, hj, np, e⟩ (fr k hk)
  rcases p1 with e | ⟨b, hb, e⟩
  · exact absurd e np
  · exact ⟨v, b, hb, hv, e1, ep.symm.trans e⟩
theorem frsh_LN (w : WA s) (fr : Frsh s) : LN s := fun k hk j hj u e => by
  obtain ⟨a, b, h1, h2, _, h4⟩ := frsh_pin w fr hk hj u
  have := w.1
  exact nI_m1 (by omega) (h4.symm.trans e)
theorem frsh_desc (w : WA s) (fr : Frsh s) : ∀ n a b, a < 6 → b < 6 → pth (aN s) n a b → ∃ x y, y < x ∧ x < aC s ∧ aL s a = nI x ∧ aL s b = nI y
  | 0, a, b, ha, hb, p => frsh_pin w fr ha hb p
  | n + 1, a, b, ha, hb, p => by
    rcases p with p | ⟨i, hi, e, p⟩
    · exact frsh_pin w fr ha hb p
    obtain ⟨x, y, h1, h2, h3, h4⟩ := frsh_pin w fr ha hi e
    obtain ⟨x2, y2, g1, g2, g3, g4⟩ := frsh_desc w fr n i b hi hb p
    have := w.1
    have e : y = x2 := (nI_eq (by omega) (by omega)).mp (h4.symm.trans g3)
    exact ⟨x, y2, by omega, h2, h3, g4⟩
theorem frsh_acy (w : WA s) (fr : Frsh s) : Acy (aN s) := fun k hk ⟨n, p⟩ => by
  obtain ⟨x, y, h1, h2, h3, h4⟩ := frsh_desc w fr n k k hk hk p
  have := w.1
  have e : x = y := (nI_eq (by omega) (by omega)).mp (h3.symm.trans h4)
  omega
/-- between two bindings -/
def BI (m : Nat) (d : Nat → Bool) (s : AS) : Prop := WA s ∧ LN s ∧ Acy (aN s) ∧ (∀ k, k < 6 → stA s k → RT (aN s) k m) ∧ (∀ k, k < 6 → d k = true → ¬ stA s k ∧ ∀ j, j < 6 → RT (aN s) k j → ¬ stA s j)
theorem bi_step (b : BI m d s) (hk : k < 6) (hcd : Cand s k) (hc : aC s < 60) : (∀ x, x < 6 → aN (entA k (aO s k) s) x = aN s x) ∧ d k = false ∧ BI m (fun x => d x || decide (x = k)) (entA k (aO s k) s) := by
  obtain ⟨w, ln, ac, sm, dn⟩ := b
  have ck := hcd.2
  have sk : stA s k := hcd.1
  obtain ⟨v, hv, ev, _⟩ := hcd.1
  have zk : aL s k ≠ -1 := fun e => by have := w.1; exact nI_m1 (by omega) (ev.symm.trans e)
  have ek : (aL s k).toNatClampNeg = v := by rw [ev, nI_clamp (by omega)]
  have eN : msk 0 (aO s k) = aN s k := by unfold aN aO; rw [if_neg zk]
  have tx : Txt 0 (aO s k) := by unfold aO; rw [ek]; exact (w.2.1 v hv).1
  have hn : ∀ j, j < 6 → ib (msk 0 (aO s k)) j = true → aL s j ≠ -1 := fun j hj u => ln k hk j hj (by rw [← eN]; exact u)
  have same : ∀ x, x < 6 → aN (entA k (aO s k) s) x = aN s x := fun x hx => by
    by_cases e : x = k
    · rw [e, entA_Nm hc, eN]
    · exact entA_N w hk hx e
  have self : ib (msk 0 (aO s k)) k = false := Bool.eq_false_iff.mpr (fun u => ac k hk (RT.one (by rw [← eN]; exact u)))
  obtain ⟨st0, st1⟩ := entA_st (t := aO s k) w hk hc self
  have dk : d k = false := Bool.eq_false_iff.mpr (fun e => (dn k hk e).1 sk)
  have back : ∀ {x y : Nat}, x < 6 → RT (aN (entA k (aO s k) s)) x y → RT (aN s) x y := fun hx h => (RT_congr same hx).mp h
  have st2 : ∀ j, j < 6 → stA (entA k (aO s k) s) j → j ≠ k ∧ (stA s j ∨ RT (aN s) j k) := fun j hj h => by
    by_cases e : j = k
    · subst e; exact absurd h st0
    · rcases st1 j hj e h with a | a
      · exact ⟨e, Or.inl a⟩
      · exact ⟨e, Or.inr (RT.one a)⟩
  refine ⟨same, dk, entA_WA w hk hc tx hn, ?_, ?_, ?_, ?_⟩
  · intro x hx j hj u
    rw [same x hx] at u
    have := ln x hx j hj u
    by_cases e : j = k
    · rw [e, entA_Lm]; exact nI_m1 (by omega)
    · rw [entA_L hk e]; exact this
  · exact fun x hx h => ac x hx (back hx h)
  · intro x hx h
    refine (RT_congr same hx).mpr ?_
    rcases (st2 x hx h).2 with a | a
    · exact sm x hx a
    · exact a.trans hk (sm k hk sk)
  · intro x hx h
    rcases Bool.or_eq_true_iff.mp h with h | h
    · have ⟨n1, n2⟩ := dn x hx h
      refine ⟨fun h2 => ?_, fun j hj rt h2 => ?_⟩
      · rcases (st2 x hx h2).2 with a | a
        · exact n1 a
        · exact n2 k hk a sk
      · rcases (st2 j hj h2).2 with a | a
        · exact n2 j hj (back hx rt) a
        · exact n2 k hk ((back hx rt).trans hj a) sk
    · have xk : x = k := of_decide_eq_true h
      subst xk
      refine ⟨st0, fun j hj rt h2 => ?_⟩
      rcases (st2 j hj h2).2 with a | a
      · exact ck j hj a (back hx rt)
      · exact ac x hx ((back hx rt).trans hj a)
theorem bind_ex : ∀ (r : Nat) (s : AS) (d f : Nat → Bool), BI m d s → (∀ k, k < 6 → (f k = true ↔ RT (aN s) k m)) → cntB (fun k => f k && !d k) 6 ≤ r → aC s + r ≤ 60 → ∃ n z, n ≤ r ∧ BindR n s z ∧ WA z ∧ Frsh z ∧ aC z = aC s + n
  | r, s, d, f, b, hf, hr, hc => by
    by_cases e : ∃ k, k < 6 ∧ Cand s k
    · obtain ⟨k0, hk0, c0⟩ := e
      obtain ⟨k, hk, ck, lo⟩ := low_ex 6 k0 hk0 c0
      have nx : NxA s k := ⟨ck, lo⟩
      have fk : f k = true := (hf k hk).mpr (b.2.2.2.1 k hk ck.1)
      have pos : ∀ d : Nat → Bool, d k = false → cntB (fun x => f x && !(d x || decide (x = k))) 6 + 1 ≤ cntB (fun x => f x && !d x) 6 := fun d dk =>
        cntB_lt (j := k) (by show (f k && !d k) = true; rw [fk, dk]; rfl) (by show (f k && !(d k || decide (k = k))) = false; rw [decide_eq_true rfl, Bool.or_true]; exact Bool.and_false _) 6 hk (fun i _ h => by
          have h2 : (f i && !(d i || decide (i = k))) = true := h
          show (f i && !d i) = true
          cases h3 : d i
          · cases h4 : f i
            · rw [h4] at h2; cases h2
            · rfl
          · rw [h3, Bool.true_or] at h2
            rw [show (!true) = false from rfl, Bool.and_false] at h2
            cases h2)
      cases r with
      | zero =>
        exfalso
        have dk : d k = false := Bool.eq_false_iff.mpr (fun e => (b.2.2.2.2 k hk e).1 ck.1)
        have := pos d dk
        omega
      | succ r =>
        obtain ⟨same, dk, b2⟩ := bi_step b hk ck (by omega)
        have := pos d dk
        obtain ⟨n, z, h1, h2, h3, h4, h5⟩ := bind_ex r (entA k (aO s k) s) (fun x => d x || decide (x = k)) f b2 (fun x hx => (hf x hx).trans (RT_congr same hx).symm) (by omega) (by rw [entA_C]; omega)
        exact ⟨n + 1, z, by omega, ⟨⟨b.1, b.2.2.1⟩, k, hk, nx, h2⟩, h3, h4, by rw [h5, entA_C]; omega⟩
    · have none : ∀ k, k < 6 → ¬ Cand s k := fun k hk ck => e ⟨k, hk, ck⟩
      exact ⟨0, s, by omega, ⟨⟨b.1, b.2.2.1⟩, none, rfl⟩, b.1, no_cand b.2.2.1 none, rfl⟩
theorem pth_to (hN : ∀ x, x < 6 → x ≠ m → N1 x = N x) : ∀ n a, a < 6 → a ≠ m → pth N1 n a m → RT N a m
  | 0, a, ha, am, p => RT.one (by rw [← hN a ha am]; exact p)
  | n + 1, a, ha, am, p => by
    rcases p with p | ⟨x, hx, e, p⟩
    · exact RT.one (by rw [← hN a ha am]; exact p)
    rw [hN a ha am] at e
    by_cases xm : x = m
    · subst xm; exact RT.one e
    · exact RT.cons hx e (pth_to hN n x hx xm p)
theorem pth_by (hN : ∀ x, x < 6 → x ≠ m → N1 x = N x) : ∀ n a b, a < 6 → a ≠ m → pth N1 n a b → RT N a b ∨ (RT N1 a m ∧ RT N1 m b)
  | 0, a, b, ha, am, p => Or.inl (RT.one (by rw [← hN a ha am]; exact p))
  | n + 1, a, b, ha, am, p => by
    rcases p with p | ⟨x, hx, e, p⟩
    · exact Or.inl (RT.one (by rw [← hN a ha am]; exact p))
    have e1 := e
    rw [hN a ha am] at e
    by_cases xm : x = m
    · subst xm; exact Or.inr ⟨RT.one e1, ⟨n, p⟩⟩
    · rcases pth_by hN n x b hx xm p with h | ⟨h1, h2⟩
      · exact Or.inl (RT.cons hx e h)
      · exact Or.inr ⟨RT.cons hx e1 h1, h2⟩
/-- a text that may be named enters, and all is bound anew -/
theorem publish_ex (w : WA s) (fr : Frsh s) (hm : m < 6) (tx : Txt 0 t) {lat : Nat → Bool} (hl : ∀ k, k < 6 → (lat k = true ↔ aL s k ≠ -1)) (hf : ∀ k, k < 6 → (f k = true ↔ RT (aN s) k m)) (cn : cnB (msk 0 t) lat f m 6 = true) (hc : aC s + 1 + cntB f 6 ≤ 60) :
    WA (entA m t s) ∧ ∃ n z, n ≤ 5 ∧ BindR n (entA m t s) z ∧ WA z ∧ Frsh z ∧ aC z = aC s + 1 + n := by
  obtain ⟨cm, ck⟩ := (cnB_iff 6).mp cn
  have hn : ∀ j, j < 6 → ib (msk 0 t) j = true → aL s j ≠ -1 := fun j hj u => (hl j hj).mp (ck j hj u).1
  have hc6 : aC s < 60 := by omega
  have ac := frsh_acy w fr
  have ln := frsh_LN w fr
  have hN : ∀ x, x < 6 → x ≠ m → aN (entA m t s) x = aN s x := fun x hx xm => entA_N w hm hx xm
  have hNm : aN (entA m t s) m = msk 0 t := entA_Nm hc6
  have A : ¬ RT (aN (entA m t s)) m m := by
    intro ⟨n, p⟩
    cases n with
    | zero =>
      have p2 : ib (aN (entA m t s) m) m = true := p
      rw [hNm, cm] at p2; cases p2
    | succ n =>
      rcases p with p | ⟨x, hx, e, p⟩
      · rw [hNm, cm] at p; cases p
      rw [hNm] at e
      have xm : x ≠ m := fun h => by rw [h, cm] at e; cases e
      have := (hf x hx).mpr (pth_to hN n x hx xm p)
      rw [(ck x hx e).2] at this; cases this
  have w1 : WA (entA m t s) := entA_WA w hm hc6 tx hn
  obtain ⟨st0, st1⟩ := entA_st (t := t) w hm hc6 cm
  have st2 : ∀ k, k < 6 → stA (entA m t s) k → k ≠ m ∧ RT (aN (entA m t s)) k m := fun k hk h => by
    by_cases e : k = m
    · subst e; exact absurd h st0
    · rcases st1 k hk e h with a | a
      · exact absurd a (fr k hk)
      · exact ⟨e, RT.one (by rw [hN k hk e]; exact a)⟩
  have b : BI m (fun x => decide (x = m)) (entA m t s) := by
    refine ⟨w1, ?_, ?_, fun k hk h => (st2 k hk h).2, ?_⟩
    · intro x hx j hj u
      have h : aL s j ≠ -1 := by
        by_cases e : x = m
        · rw [e, hNm] at u; exact hn j hj u
        · rw [hN x hx e] at u; exact ln x hx j hj u
      by_cases e : j = m
      · rw [e, entA_Lm]; exact nI_m1 (by omega)
      · rw [entA_L hm e]; exact h
    · intro x hx rt
      by_cases e : x = m
      · subst e; exact A rt
      · obtain ⟨n, p⟩ := rt
        rcases pth_by hN n x x hx e p with h | ⟨h1, h2⟩
        · exact ac x hx h
        · exact A (h2.trans hx h1)
    · intro x hx h
      have e : x = m := of_decide_eq_true h
      subst e
      exact ⟨st0, fun j hj rt h2 => A (rt.trans hj (st2 j hj h2).2)⟩
  have fm : f m = false := Bool.eq_false_iff.mpr (fun e => ac m hm ((hf m hm).mp e))
  let f1 : Nat → Bool := fun k => @decide (RT (aN (entA m t s)) k m) (Classical.propDecidable _)
  have hf1 : ∀ k, k < 6 → (f1 k = true ↔ RT (aN (entA m t s)) k m) := fun k _ => @decide_eq_true_iff _ (Classical.propDecidable _)
  have le : cntB (fun k => f1 k && !decide (k = m)) 6 ≤ cntB f 6 := cntB_mono 6 (fun k hk h => by
    have h2 : (f1 k && !decide (k = m)) = true := h
    have ⟨a, b⟩ := (Bool.and_eq_true _ _).mp h2 |> fun x => x
    have km : k ≠ m := fun e => by rw [decide_eq_true e] at b; cases b
    obtain ⟨n, p⟩ := (hf1 k hk).mp a
    exact (hf k hk).mpr (pth_to hN n k hk km p))
  obtain ⟨n, z, h1, h2, h3, h4, h5⟩ := bind_ex (cntB f 6) (entA m t s) _ f1 b hf1 le (by rw [entA_C]; omega)
  have l6 : cntB f 6 + 1 ≤ cntB (fun _ => true) 6 := cntB_lt (j := m) rfl fm 6 hm (fun _ _ _ => rfl)
  have l7 : cntB (fun _ => true) 6 ≤ 6 := cntB_le _ 6
  exact ⟨w1, n, z, by omega, h2, h3, h4, by rw [h5, entA_C]⟩
end BX
