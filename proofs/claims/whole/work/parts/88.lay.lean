/-! own: closures over models, the model's -/
set_option maxRecDepth 100000
/-- what a model's latest version names, in the model -/
def NM (I : Nat → Nat → Int32) (k : Nat) : Int32 := if I 505 k = -1 then 0 else msk 0 (vT (I 502) (I 503) (I 505 k).toNatClampNeg)
def LatOk (I : Nat → Nat → Int32) (c : Nat) : Prop := ∀ k, k < 6 → I 505 k = -1 ∨ ∃ v, v < c ∧ I 505 k = nI v
section LR
variable {X : Nat × (Nat → Int32)} {I : Nat → Nat → Int32} {L : Nat → Nat → Int64} {F : Nat → Nat → UInt32} {Q : AQ} {c : Nat} {N : Nat → Int32}
theorem Fr1.nm {J : Nat → Nat → Int32} (h : Fr1 506 I J) : NM J = NM I := by
  funext k
  unfold NM
  rw [h 505 k (by decide), show J 502 = I 502 from funext fun k => h 502 k (by decide), show J 503 = I 503 from funext fun k => h 503 k (by decide)]
theorem sub6_refl {U : Int32} : Sub6 U U := fun _ _ h => h
theorem rt_closed {U : Int32} {x y : Nat} (cl : Closed N U) (hx : x < 6) (hy : y < 6) (u : ib U x = true) (h : RT N x y) : ib U y = true := closed_rt cl hy (cl x hx u) h
theorem sp_lay63 {k : Nat} {x1 : Int32} {U0 : Int32} (hk : k < 6) : ∀ (n j : Nat) (J : Nat → Nat → Int32), j + n = 6 → (∀ x, x < 6 → Sub6 (N x) (J 506 x)) → (∀ x, x < 6 → ∀ y, y < 6 → ib (J 506 x) y = true → RT N x y) → Sub6 (N k) U0 → Sub6 U0 (J 506 k) → (∀ x, x < j → ib U0 x = true → Sub6 (N x) (J 506 k)) → (Closed N U0 → Sub6 (J 506 k) U0) →
    (∀ K, Fr1 506 J K → (∀ x, x ≠ k → K 506 x = J 506 x) → (∀ y, y < 6 → ib (K 506 k) y = true → RT N k y) → Sub6 U0 (K 506 k) → (∀ x, x < 6 → ib U0 x = true → Sub6 (N x) (K 506 k)) → (Closed N U0 → Sub6 (K 506 k) U0) → ∀ d3, WP mX10_laysReach 55 [some (.ref 498), some (.int x1), some (.int (nI k + 1)), d3] [] (G X K L F) 0 0 Q) →
    WP mX10_laysReach 63 [some (.ref 498), some (.int x1), some (.int (nI k)), some (.int (nI j))] [] (G X J L F) 0 0 Q
  | 0, j, J, hj, hs, hr, nk, a1, a2, a3, q => by
    have e : j = 6 := by omega
    subst e
    exact k_X10_laysReach_63 ⟨fun _ => q J Fr1.refl (fun _ _ => rfl) (hr k hk) a1 a2 a3 _, fun n => absurd (by decide) n⟩
  | n + 1, j, J, hj, hs, hr, nk, a1, a2, a3, q => by
    have ck : (nI k).toNatClampNeg = k := nI_clamp (by omega)
    have cj : (nI j).toNatClampNeg = j := nI_clamp (by omega)
    have hin : vp_in (nI k) 6 := nI_in hk (by decide)
    refine k_X10_laysReach_63 ⟨fun z => absurd ((nI_leI (a := 6) (by decide) (by omega)).mp z) (by omega), fun _ => ⟨hin, hin, fun _ => ⟨nI_in (by omega) (by decide), trivial⟩, fun s e => ⟨hin, ?_⟩⟩⟩
    rw [ck, i_test (show j < 32 by omega), cj] at e
    rw [ck, nI_1]
    have vs : s = if ib (J 506 k) j = true then J 506 j else 0 := by
      rw [e]
      by_cases c : ib (J 506 k) j = true
      · rw [if_pos c, if_pos c, if_pos rfl]
      · rw [if_neg c, if_neg c, if_neg (by decide)]
    generalize hK : am_u J 506 k (J 506 k ||| s) = K
    have kk : K 506 k = J 506 k ||| s := by rw [← hK, am_u_eq]
    have kx : ∀ x, x ≠ k → K 506 x = J 506 x := fun x hx => by rw [← hK, am_u_ne (Or.inr hx)]
    have fr : Fr1 506 J K := by rw [← hK]; exact Fr1_u Fr1.refl
    have up : ∀ y, ib (J 506 k) y = true → ib (K 506 k) y = true := fun y h => by rw [kk, ib_or, h]; rfl
    have dn : ∀ y, ib (K 506 k) y = true → ib (J 506 k) y = true ∨ (ib (J 506 k) j = true ∧ ib (J 506 j) y = true) := fun y h => by
      rw [kk, ib_or] at h
      rcases Bool.or_eq_true_iff.mp h with h | h
      · exact Or.inl h
      · rw [vs] at h
        by_cases c : ib (J 506 k) j = true
        · rw [if_pos c] at h; exact Or.inr ⟨c, h⟩
        · rw [if_neg c, ib_0] at h; cases h
    have jl : j < 6 := by omega
    refine sp_lay63 hk n (j + 1) K (by omega) (fun x hx => ?_) (fun x hx y hy h => ?_) nk (fun y hy h => up y (a1 y hy h)) (fun x hx h => ?_) (fun cl y hy h => ?_) (fun K2 b1 b2 b3 b4 b5 b6 d3 => q K2 (fr.trans b1) (fun x hx => (b2 x hx).trans (kx x hx)) b3 b4 b5 b6 d3)
    · by_cases xk : x = k
      · subst xk; intro y hy h; exact up y (hs x hx y hy h)
      · rw [kx x xk]; exact hs x hx
    · by_cases xk : x = k
      · subst xk
        rcases dn y h with h | ⟨a, b⟩
        · exact hr x hx y hy h
        · exact (hr x hx j jl a).trans jl (hr j jl y hy b)
      · rw [kx x xk] at h; exact hr x hx y hy h
    · by_cases xj : x = j
      · subst xj
        intro y hy ny
        have uj := a1 x jl h
        rw [kk, ib_or, vs, if_pos uj, hs x jl y hy ny, Bool.or_true]
      · intro y hy ny
        exact up y (a2 x (by omega) h y hy ny)
    · rcases dn y h with h | ⟨a, b⟩
      · exact a3 cl y hy h
      · exact rt_closed cl jl hy (a3 cl j jl a) (hr j jl y hy b)
/-- the rows of the reach in a turn -/
def LayInv (N : Nat → Int32) (J : Nat → Nat → Int32) (r k : Nat) : Prop := ∀ x, x < 6 → Sub6 (N x) (J 506 x) ∧ (∀ y, y < 6 → ib (J 506 x) y = true → RT N x y) ∧ Rnd N (if x < k then r + 1 else r) (J 506 x)
theorem sp_lay55 {r : Nat} : ∀ (n k : Nat) (J : Nat → Nat → Int32) (d3 : Option Value), k + n = 6 → LayInv N J r k →
    (∀ K, Fr1 506 J K → LayInv N K r 6 → ∀ d2 d3, WP mX10_laysReach 47 [some (.ref 498), some (.int (nI r + 1)), d2, d3] [] (G X K L F) 0 0 Q) →
    WP mX10_laysReach 55 [some (.ref 498), some (.int (nI r)), some (.int (nI k)), d3] [] (G X J L F) 0 0 Q
  | 0, k, J, d3, hk, li, q => by
    have e : k = 6 := by omega
    subst e
    exact k_X10_laysReach_55 ⟨fun _ => q J Fr1.refl li _ _, fun n => absurd (by decide) n⟩
  | n + 1, k, J, d3, hk, li, q => by
    refine k_X10_laysReach_55 ⟨fun z => absurd ((nI_leI (a := 6) (by decide) (by omega)).mp z) (by omega), fun _ => ?_⟩
    have lk := li k (by omega)
    have rk : Rnd N r (J 506 k) := by have := lk.2.2; rw [if_neg (by omega)] at this; exact this
    refine sp_lay63 (N := N) (k := k) (U0 := J 506 k) (by omega) 6 0 J rfl (fun x hx => (li x hx).1) (fun x hx => (li x hx).2.1) lk.1 sub6_refl (fun x hx => by omega) (fun _ => sub6_refl) (fun K b1 b2 b3 b4 b5 b6 d3 => ?_)
    rw [nI_1]
    refine sp_lay55 n (k + 1) K d3 (by omega) (fun x hx => ?_) (fun K2 c1 c2 => q K2 (b1.trans c1) c2)
    by_cases xk : x = k
    · subst xk
      rw [if_pos (by omega)]
      exact ⟨fun y hy h => b4 y hy (lk.1 y hy h), b3, rnd_next rk b4 b5 b6⟩
    · have lx := li x hx
      rw [b2 x xk]
      refine ⟨lx.1, lx.2.1, ?_⟩
      by_cases lt : x < k
      · rw [if_pos lt] at lx; rw [if_pos (by omega)]; exact lx.2.2
      · rw [if_neg lt] at lx; rw [if_neg (by omega)]; exact lx.2.2
theorem sp_lay47 : ∀ (n r : Nat) (J : Nat → Nat → Int32) (d2 d3 : Option Value), r + n = 6 → LayInv N J r 0 →
    (∀ K, Fr1 506 J K → (∀ k, k < 6 → ∀ y, y < 6 → (ib (K 506 k) y = true ↔ RT N k y)) → Q (.inl none) (G X K L F)) →
    WP mX10_laysReach 47 [some (.ref 498), some (.int (nI r)), d2, d3] [] (G X J L F) 0 0 Q
  | 0, r, J, d2, d3, hr, li, q => by
    have e : r = 6 := by omega
    subst e
    refine k_X10_laysReach_47 ⟨fun _ => q J Fr1.refl (fun k hk y hy => ?_), fun n => absurd (by decide) n⟩
    obtain ⟨a, b, d⟩ := li k hk
    rw [if_neg (by omega)] at d
    exact ⟨b y hy, closed_rt (rnd_6 d) hy a⟩
  | n + 1, r, J, d2, d3, hr, li, q => by
    refine k_X10_laysReach_47 ⟨fun z => absurd ((nI_leI (a := 6) (by decide) (by omega)).mp z) (by omega), fun _ => ?_⟩
    refine sp_lay55 6 0 J d3 rfl li (fun K b1 b2 d2 d3 => ?_)
    rw [nI_1]
    refine sp_lay47 n (r + 1) K d2 d3 (by omega) (fun x hx => ?_) (fun K2 c1 c2 => q K2 (b1.trans c1) c2)
    have z := b2 x hx
    rw [if_pos hx] at z
    rw [if_neg (by omega)]
    exact z
theorem sp_lay2 (hc : c ≤ 60) (wm : VM I c) (lo : LatOk I c) : ∀ (n k : Nat) (J : Nat → Nat → Int32), k + n = 6 → Fr1 506 I J → (∀ x, x < k → J 506 x = NM I x) →
    (∀ K, Fr1 506 I K → (∀ x, x < 6 → K 506 x = NM I x) → WP mX10_laysReach 47 [some (.ref 498), some (.int 0), none, none] [] (G X K L F) 0 0 Q) →
    WP mX10_laysReach 2 [some (.ref 498), some (.int (nI k)), none, none] [] (G X J L F) 0 0 Q
  | 0, k, J, hk, fr, h, q => by
    have e : k = 6 := by omega
    subst e
    exact k_X10_laysReach_2 ⟨fun _ => q J fr h, fun n => absurd (by decide) n⟩
  | n + 1, k, J, hk, fr, h, q => by
    have ck : (nI k).toNatClampNeg = k := nI_clamp (by omega)
    have hin : vp_in (nI k) 6 := nI_in (by omega) (by decide)
    have e505 : J 505 k = I 505 k := fr 505 k (by decide)
    have go : ∀ z, z = NM I k → WP mX10_laysReach 2 [some (.ref 498), some (.int (nI k + 1)), none, none] [] (G X (am_u J 506 k z) L F) 0 0 Q := fun z ez => by
      rw [nI_1]
      refine sp_lay2 hc wm lo n (k + 1) _ (by omega) (fr.trans (Fr1_u Fr1.refl)) (fun x hx => ?_) q
      by_cases xk : x = k
      · rw [xk, am_u_eq, ez]
      · rw [am_u_ne (Or.inr xk)]; exact h x (by omega)
    refine k_X10_laysReach_2 ⟨fun z => absurd ((nI_leI (a := 6) (by decide) (by omega)).mp z) (by omega), fun _ => ⟨hin, ?_⟩⟩
    rw [ck, e505]
    refine ⟨fun e => k_X10_laysReach_38 ⟨hin, ?_⟩, fun e => ⟨hin, ?_⟩⟩
    · rw [ck]
      exact go 0 (by unfold NM; rw [if_pos e])
    · rcases lo k (by omega) with z | ⟨v, hv, ev⟩
      · exact absurd z e
      · have t := wm v hv
        have e2 : J 502 = I 502 := funext fun x => fr 502 x (by decide)
        have e3 : J 503 = I 503 := funext fun x => fr 503 x (by decide)
        rw [ev]
        refine sp_names (areG := 0) (Or.inl rfl) (by omega) (by rw [e2, e3]; exact t.1) (by rw [e2, e3]; exact t.2.1) (k_X10_laysReach_38 ⟨hin, ?_⟩)
        rw [ck]
        refine go _ ?_
        unfold NM
        rw [if_neg e, ev, nI_clamp (by omega), e2, e3]
/-- the model's closures -/
theorem sp_laysReach (hc : c ≤ 60) (wm : VM I c) (lo : LatOk I c) (q : ∀ K, Fr1 506 I K → (∀ k, k < 6 → ∀ y, y < 6 → (ib (K 506 k) y = true ↔ RT (NM I) k y)) → Q (.inl none) (G X K L F)) : WP mX10_laysReach 0 (am_ent 4 [.ref 498]) [] (G X I L F) 0 0 Q := by
  refine k_X10_laysReach_0 (sp_lay2 hc wm lo 6 0 I rfl Fr1.refl (fun x hx => by omega) (fun K fr h => ?_))
  refine sp_lay47 (N := NM I) 6 0 K none none rfl (fun x hx => ?_) (fun K2 b1 b2 => q K2 (fr.trans b1) b2)
  rw [h x hx, if_neg (by omega)]
  exact ⟨sub6_refl, fun y _ u => RT.one u, rnd_0⟩
end LR
