/-! own: a text is taken, in the class -/
set_option maxRecDepth 100000
section TK2
variable {X : Nat × (Nat × (Nat → Int32))} {I J K : Nat → Nat → Int32} {L M : Nat → Nat → Int64} {F : Nat → Nat → UInt32} {Q : AQ} {c m k : Nat} {s zf : AS} {t : List Int32} {o p : Nat}
theorem nxA_one {k k2 : Nat} (h : NxA s k) (h2 : NxA s k2) : k2 = k := by
  rcases Nat.lt_trichotomy k2 k with h3 | h3 | h3
  · exact absurd h2.1 (h.2 k2 h3)
  · exact h3
  · exact absurd h.1 (h2.2 k h3)
theorem bind_w {n : Nat} (b : BindR n s zf) : WA s ∧ Acy (aN s) := by
  cases n with
  | zero => exact b.1
  | succ n => exact b.1
theorem sp_tk16 {c0 : Nat} {I0 : Nat → Nat → Int32} {L0 : Nat → Nat → Int64} {x1 x3 : Int32} (ho : isFor o) (q : ∀ K M, CA K M zf → ShF c0 I0 K → LhF c0 L0 M → Q (.inl (some (.int x3))) (G X K M F)) : ∀ (n : Nat) (s : AS) (I : Nat → Nat → Int32) (L : Nat → Nat → Int64) (r : Nat) (x4 : Int32) (d6 : Option Value), BindR n s zf → CA I L s → FndC s x4 → r + n ≤ 5 → aC s + n ≤ 60 → c0 ≤ aC s → ShF c0 I0 I → LhF c0 L0 L →
    WP mX6_take 16 [some (.ref 9), some (.int x1), some (.ref o), some (.int x3), some (.int x4), some (.int (nI r)), d6] [] (G X I L F) 0 0 Q
  | 0, s, I, L, r, x4, d6, b, z, fd, hr, hc, l, sf, lf => by
    obtain ⟨_, none, e⟩ := b
    subst e
    have e4 : x4 = -1 := by
      rcases fd with ⟨a, _⟩ | ⟨k, hk, _, h⟩
      · exact a
      · exact absurd h.1 (none k hk)
    refine k_X6_take_16 ho ⟨fun _ => q I L z sf lf, fun _ => ⟨fun _ => q I L z sf lf, fun n => absurd (has_m1' e4) n⟩⟩
  | n + 1, s, I, L, r, x4, d6, b, z, fd, hr, hc, l, sf, lf => by
    obtain ⟨⟨w, ac⟩, k, hk, nx, b2⟩ := b
    have e4 : x4 = aL s k := by
      rcases fd with ⟨_, a⟩ | ⟨k2, h2, e, h⟩
      · exact absurd nx.1 (a k hk)
      · rw [e, nxA_one nx h]
    obtain ⟨v, hv, ev, _⟩ := nx.1.1
    have eO : aO s k = aT s v := by unfold aO; rw [ev, nI_clamp (by omega)]
    rw [eO] at b2
    have eM : aM s v = nI k := by
      rcases w.2.2 k hk with h | ⟨u, hu, h1, h2⟩
      · exact absurd (ev.symm.trans h) (nI_m1 (by omega))
      · have : u = v := (nI_eq (by omega) (by omega)).mp (h1.symm.trans ev)
        rw [← this]; exact h2
    have zv := z.2.1 v hv
    have vv : isVer (19 + 6 * v) := gi_verN (by omega)
    obtain ⟨w2, _⟩ := bind_w b2
    rw [e4, ev]
    refine k_X6_take_16 ho ⟨fun n => absurd ((nI_leI (a := 6) (b := r) (by decide) (by omega)).mp n) (by omega), fun _ => ⟨fun n => absurd n (by rw [has_lt w.1 z.1 hv]; decide), fun _ => ?_⟩⟩
    rw [nI_clamp (show v < 2 ^ 31 by omega), zv.2.2.1, eM]
    refine sp_shelve vv.2.2.2.2.1 (Or.inr (by omega)) w (by omega) hk (w.2.1 v hv).1 z zv.1 (fun j hj u => ?_) (fun K M z2 sK lK => ?_)
    · have h := ((w2.2.1 (aC s) (by rw [entA_C]; omega)).2.1 j hj).2
      rw [entA_Tc, entA_Pc] at h
      have h2 := h.mpr u
      rw [if_pos u] at h2
      exact h2
    · refine k_X6_take_55 ho vv (sp_nextToBind w2 z2 (fun x fx => k_X6_take_60 ho vv ?_))
      rw [nI_1]
      exact sp_tk16 ho q n _ K M (r + 1) x _ b2 z2 fx (by omega) (by rw [entA_C]; omega) (by rw [entA_C]; omega) (sf.trans sK l) (lf.trans lK l)
/-- a text is taken, and all is bound anew -/
theorem sp_take {n : Nat} (ho : isFor o) (o4 : o = 4 ∨ (20 ≤ o ∧ o + 2 < 19 + 6 * aC s)) (w : WA s) (hm : m < 6) (tx : Txt 0 t) (z : CA I L s) (fc : FC I o (rForm 0 t)) (b : BindR n (entA m t s) zf) (h5 : n ≤ 5) (hc : aC s + 1 + n ≤ 60) (q : ∀ K M, CA K M zf → ShF (aC s) I K → LhF (aC s) L M → Q (.inl (some (.int (nI (aC s))))) (G X K M F)) :
    WP mX6_take 0 (am_ent 7 [.ref 9, .int (nI m), .ref o]) [] (G X I L F) 0 0 Q := by
  obtain ⟨w2, _⟩ := bind_w b
  refine k_X6_take_0 ho (sp_shelve ho o4 w (by omega) hm tx z fc (fun j hj u => ?_) (fun K M z2 sK lK => ?_))
  · have h := ((w2.2.1 (aC s) (by rw [entA_C]; omega)).2.1 j hj).2
    rw [entA_Tc, entA_Pc] at h
    have h2 := h.mpr u
    rw [if_pos u] at h2
    exact h2
  · refine k_X6_take_6 ho (sp_nextToBind w2 z2 (fun x fx => k_X6_take_11 ho ?_))
    exact sp_tk16 ho q n _ K M 0 x _ b z2 fx (by omega) (by rw [entA_C]; omega) (by rw [entA_C]; omega) sK lK
end TK2
