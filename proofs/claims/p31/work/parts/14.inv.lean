/-! own: calls, and the whole of it: what WP says, the machine does -/
section AMI
variable {sa1 sa2 : Nat} {dC : Nat → ClassId} {dI : Nat → Nat → Nat} {dA : Nat → ClassId} {l : Launch} {k pc a b : Nat} {L : List (Option Value)} {st : List Value} {h : AH} {c s' : Nat} {Q : AQ} {p : Program} {e : Env} {R : Room} {s : State} {m : MethodId} {args : Array Value} {below : List Frame} {meth : Method} {cd : Code} {A : Nat → Prop} {ad0 : Nat → Nat} {n0 : Nat} {X0 : Nat × (Nat → Int32)} {Qf : State → Prop} {ad : Nat → Nat} {H : Heap} {locs : List Loc} {ls : Array Slot}
theorem am_pop_spec {f : List Value → List Value → Prop} : ∀ (n : Nat) (st acc : List Value), am_pop n st acc f → ∃ xs r, st = xs ++ r ∧ xs.length = n ∧ f (xs.reverse ++ acc) r
  | 0, st, acc, q => ⟨[], st, rfl, rfl, q⟩
  | n + 1, [], acc, q => q.elim
  | n + 1, v :: r, acc, q => by
    obtain ⟨xs, r', e1, e2, e3⟩ := am_pop_spec n r (v :: acc) q
    refine ⟨v :: xs, r', by rw [e1]; rfl, by rw [List.length_cons, e2], ?_⟩
    rw [List.reverse_cons, List.append_assoc]
    exact e3
theorem am_ones_cat : ∀ {as : List Value}, am_ones as → ∀ v ∈ as, v.category = 1
  | [], _, v, hv => absurd hv List.not_mem_nil
  | a :: as, h1, v, hv => by
    rcases List.mem_cons.mp hv with rfl | hv
    · cases v <;> first | rfl | exact h1.1.elim
    · exact am_ones_cat h1.2 v hv
theorem am_cats_sum (ad : Nat → Nat) : ∀ l : List Value, ((l.map (am_cv ad)).map fun v => v.category).sum = am_cats l
  | [] => rfl
  | v :: l => by
    rw [List.map_cons, List.map_cons, List.sum_cons, am_cats_sum ad l, am_cv_cat]
    rfl
theorem am_free (F : am_Fr sa1 sa2 dC dI dA l k p e R s m args below meth cd A ad0 n0 X0 Q Qf) (S : am_St dC dI dA k A s ad0 n0 X0 ad H locs ls L st h c s') : ∀ q, va_A (am_w dA ad h) H.size q → A q := by
  intro q hq
  rcases hq with ⟨i, e1, hi⟩ | hq
  · exact S.1.2.1.2 i (q, e1) hi
  · exact am_hA F q (Nat.le_trans S.1.2.2.1.1 hq)
/-- what a callee finds at its start -/
theorem am_pre {as : List Value} (F : am_Fr sa1 sa2 dC dI dA l k p e R s m args below meth cd A ad0 n0 X0 Q Qf) (S : am_St dC dI dA k A s ad0 n0 X0 ad H locs ls L st h c s') : ∀ U : State, U.heap = H → s.WarmedH U.vm → am_Pc sa1 sa2 dC dI dA ad h as H.size (as.map (am_cv ad)).toArray U := by
  intro U hU hW
  refine ⟨rfl, by rw [hU], by rw [hU]; exact S.1.1, va_K.moved hW.alike (am_hK F), S.1.2.1.weaken (fun _ _ _ _ => trivial), ?_, ?_⟩
  · rw [hU]
    exact am_gs_step hW (am_hgs F) (fun a h1 h2 => S.1.2.2.1.2.1 a h1 h2) (am_free F S)
  · obtain ⟨x1, x2, x3⟩ := F.2.2.1
    have e0 : ad 1000000 = ad0 1000000 := S.2.2.2.2.1 1000000 (Or.inr (by decide))
    have eX : hX h = X0 := S.2.2.2.2.2.2.1
    rw [e0, eX, hU]
    exact ⟨(x1.kept (S.1.2.2.1.2.1 _ x2 x3)).moved hW.alike, Nat.lt_of_lt_of_le x2 S.1.2.2.1.1, fun z => x3 (am_free F S _ z)⟩
/-- behind a call that has answered -/
theorem am_after {y : Nat} {Q' : AQ} {st0 rest : List Value} {aa : Array Value} (F : am_Fr sa1 sa2 dC dI dA l k p e R s m args below meth cd A ad0 n0 X0 Q Qf) (S : am_St dC dI dA k A s ad0 n0 X0 ad H locs ls L st h c s') (hrest : ∀ v ∈ rest, am_vok h v) (hc : c + am_bc y ≤ am_bc k) (hs : s' + am_bs y ≤ am_bs k) (hb : am_back (am_T sa1 sa2 dC dI dA l) k pc y L rest c s' Q Q')
    {v : Option Value} {st₀ t T' : State} {Lc : List Loc} (h0 : st₀.heap = H) (X' : Stand p l e R s m args below meth cd T' (locs ++ Lc) (c + am_bc y) (s' + am_bs y)) (hL : ∀ q ∈ Lc, va_A (am_w dA ad h) H.size q.base) (e1 : T'.heap = t.heap) (hq : am_Qc dC dI dA ad h H.size y Q' aa st₀ (.returned v) t) :
    ∃ t2, Steps p.tables e below (T'.setTop (F0 m (pc + 3) ls (v.toList ++ rest.map (am_cv ad)))) t2 ∧ Qf t2 := by
  obtain ⟨v', h1, ad1, hv, hQ, hrv, ⟨b1, b2, b3, b4, b5, b6⟩, hF⟩ := hq
  cases hv
  rw [← e1] at b4
  obtain ⟨k1, k2, k3⟩ := vx_keep h0 e1 S.1.2.2.1 (fun q _ z => am_free F S q z) (am_free F S) hL hF
  have hWd : am_Wd dC dI dA ad1 h1 A s T'.heap (locs ++ Lc) := ⟨b4, b5.weaken (fun _ q _ z => am_free F S q.1 z), k3, b6⟩
  have hag : ∀ i, (i < hn h ∨ 1000000 ≤ i) → ad1 i = ad i := b1
  have go : ∀ st', (∀ v ∈ st', am_vok h1 v) → am_T sa1 sa2 dC dI dA l k (pc + 3) L st' h1 (c + am_bc y) (s' + am_bs y) Q → ∃ t2, Steps p.tables e below (T'.setTop (F0 m (pc + 3) ls (st'.map (am_cv ad1)))) t2 ∧ Qf t2 := fun st' hv' q => am_go F q (am_grow S hag b2 b3 hWd hv' hc hs) T' rfl X'
  have hr1 : ∀ v ∈ rest, am_vok h1 v := fun v hv => am_vok_le b2 (hrest v hv)
  have er : rest.map (am_cv ad1) = rest.map (am_cv ad) := am_cv_ads hag hrest
  obtain ⟨q1, -⟩ := hb
  unfold am_rv at hrv
  split at hrv
  · rename_i e0
    rw [e0] at q1
    cases hrv
    have g := go rest hr1 (q1 h1 hQ)
    rw [er] at g
    exact g
  · rename_i e0
    rw [e0] at q1
    obtain ⟨x, rfl, -⟩ := hrv
    have g := go (.int x :: rest) (am_vok_cons trivial hr1) (q1 x h1 hQ)
    rw [List.map_cons, er] at g
    exact g
  · rename_i e0
    rw [e0] at q1
    obtain ⟨x, rfl⟩ := hrv
    have g := go (.long x :: rest) (am_vok_cons trivial hr1) (q1 x h1 hQ)
    rw [List.map_cons, er] at g
    exact g
  · rename_i z0 z1 z2
    obtain ⟨x, rfl⟩ := hrv
    have q2 : ∀ (x : UInt32) (h1 : AH), Q' (.inl (some (.float x))) h1 → am_T sa1 sa2 dC dI dA l k (pc + 3) L (.float x :: rest) h1 (c + am_bc y) (s' + am_bs y) Q := by
      revert q1
      split
      · rename_i e0; exact absurd e0 z0
      · rename_i e0; exact absurd e0 z1
      · rename_i e0; exact absurd e0 z2
      · exact id
    have g := go (.float x :: rest) (am_vok_cons trivial hr1) (q2 x h1 hQ)
    rw [List.map_cons, er] at g
    exact g
theorem am_callG {y : Nat} {Q' : AQ} {st0 rest : List Value} {aa : Array Value} (F : am_Fr sa1 sa2 dC dI dA l k p e R s m args below meth cd A ad0 n0 X0 Q Qf) (S : am_St dC dI dA k A s ad0 n0 X0 ad H locs ls L st h c s') (hrest : ∀ v ∈ rest, am_vok h v) (hc : c + am_bc y ≤ am_bc k) (hs : s' + am_bs y ≤ am_bs k) (hb : am_back (am_T sa1 sa2 dC dI dA l) k pc y L rest c s' Q Q')
    (hr : va_Run p l e R s m args below meth cd H locs c s' (am_bc y) (am_bs y) (F0 m pc ls st0) (rest.map (am_cv ad)) (am_Qc dC dI dA ad h H.size y Q' aa) (va_A (am_w dA ad h) H.size)) : W p l e R s m args below meth cd H locs c s' Qf (F0 m pc ls st0) := by
  intro T hT X
  obtain ⟨v, st₀, t, T', Lc, h0, X', hL, e1, e2, hq, stp⟩ := hr T hT X
  obtain ⟨t2, a1, b1⟩ := am_after (st0 := st0) F S hrest hc hs hb h0 X' hL e1 hq
  exact ⟨t2, stp t2 a1, b1⟩
/-- an entry of the methods' table -/
theorem am_mthP {k n kd a b : Nat} (hkd : kd < 10) (h1 : am_invB k n kd a b = true) : a < 133 ∧ am_nF a + 1 ≤ am_nF k ∧ 19 + am_ml a + am_nL a ≤ am_nL k ∧ b ≤ am_ml a ∧ (am_in (.methodLink (am_R (am_oc k)) n (am_y a)) ∨ (.methodLinkNest (am_R (am_oc k)) n (am_y a) RX9 ∈ am_NW ∧ (am_find am_mthL (am_oc k * 10000 + n)).any (fun q => Nat.beq q.2.2.1 kd) = false)) := by
  unfold am_invB at h1
  simp only [Bool.and_eq_true] at h1
  obtain ⟨⟨⟨⟨h1, h2⟩, h3⟩, h4⟩, h5⟩ := h1
  cases hf : am_find am_mthL (am_oc k * 10000 + n) with
  | none => rw [hf] at h1; cases h1
  | some x =>
    rw [hf] at h1
    obtain ⟨a', b', kd', w'⟩ := x
    have h1 : (Nat.beq a' a && Nat.beq b' b && (Nat.beq kd' kd || Nat.beq kd' (kd + 10))) = true := h1
    simp only [Bool.and_eq_true, Bool.or_eq_true] at h1
    obtain ⟨⟨q1, q2⟩, q3⟩ := h1
    have q1 := Nat.eq_of_beq_eq_true q1
    have q2 := Nat.eq_of_beq_eq_true q2
    subst q1
    subst q2
    have hm := am_find_mem hf
    obtain ⟨d1, d2⟩ := am_divmod (am_oc k) n (Nat.blt_eq.mp h5)
    have hw := List.all_eq_true.mp am_mth_ok _ hm
    have hml := Nat.le_of_ble_eq_true (List.all_eq_true.mp am_mlb_ok _ hm)
    unfold am_mthB at hw
    dsimp only at hw
    rw [d1, d2] at hw
    refine ⟨Nat.blt_eq.mp h2, Nat.le_of_ble_eq_true h3, Nat.le_of_ble_eq_true h4, hml, ?_⟩
    split at hw
    · exact Or.inl (am_get_in hw)
    · rename_i hlt
      refine Or.inr ⟨am_getN_in hw, ?_⟩
      show Nat.beq kd' kd = false
      cases hb : Nat.beq kd' kd with
      | false => rfl
      | true =>
        exact absurd (Nat.blt_eq.mpr (by have := Nat.eq_of_beq_eq_true hb; omega)) hlt
theorem am_recv {y o : Nat} {As : List Value} (F : am_Fr sa1 sa2 dC dI dA l k p e R s m args below meth cd A ad0 n0 X0 Q Qf) (S : am_St dC dI dA k A s ad0 n0 X0 ad H locs ls L st h c s') (hy : y < 133) (hst : am_st y ≠ 1) (hrc : am_rcv h y (.ref o :: As)) : ∃ cellB : Cell, H[ad o]? = some cellB ∧ cellB.vm.isStatics = false ∧ s.vm.findClass (am_y y).cls = some cellB.cls := by
  obtain ⟨-, -, -, hcls, -, -, -⟩ := am_pP hy
  rw [hcls]
  have hrc : (match am_oc y with
      | 15 => o = 1000001
      | c => am_is h o c) := by
    unfold am_rcv at hrc
    split at hrc
    · rename_i e0; exact absurd e0 hst
    · exact hrc
  by_cases e0 : am_oc y = 15
  · rw [e0] at hrc
    have hrc : o = 1000001 := hrc
    subst hrc
    rw [e0]
    obtain ⟨-, -, -, -, -, hS6, -, -, -, -⟩ := am_hgs F
    have e1 : ad 1000001 = sa1 := (S.2.2.2.2.1 1000001 (Or.inr (by decide))).trans F.2.1.1
    rw [e1]
    exact vk_recv hS6 (i := 0) (by decide) S.1.2.2.1
  · have hrc : am_is h o (am_oc y) := by
      revert hrc
      split
      · rename_i e9; exact absurd e9 e0
      · exact id
    have hc11 : am_oc y < 10 := by
      rcases S.1.2.2.2.2.1 o hrc.1 with z | z
      · rw [hrc.2] at z; exact z
      · rw [hrc.2] at z
        have h9 : ((List.range 133).all fun y => decide (am_oc y ∉ am_tysK)) = true := by decide +kernel
        exact absurd z (of_decide_eq_true (List.all_eq_true.mp h9 y (List.mem_range.mpr hy)))
    obtain ⟨hc1, -, -, -⟩ := am_class hc11
    exact va_recv (am_hK F) S.1.1 hc1 (am_obj_at hrc hc11)
theorem am_good1 {ws : List Jvm.Cond} {x : Jvm.Cond} (h : am_in x) (hw : GoodIn am_WS ws) : GoodIn am_WS (x :: ws) := fun w hw' => (List.mem_cons.mp hw').elim (fun e => by rw [e]; exact ⟨h, good_of_word (am_goodWS _ h)⟩) (hw w)
theorem am_room_le (F : am_Fr sa1 sa2 dC dI dA l k p e R s m args below meth cd A ad0 n0 X0 Q Qf) {y : Nat} (hc : c + am_bc y ≤ am_bc k) (hs : s' + am_bs y ≤ am_bs k) (h1 : am_nF y + 1 ≤ am_nF k) (h2 : 19 + am_ml y + am_nL y ≤ am_nL k) : ((am_rm y).frames + 1 ≤ R.frames ∧ 8 + (am_ml y + 11) + (am_rm y).locals ≤ R.locals) ∧ (c + am_bc y ≤ R.cells ∧ s' + am_bs y ≤ R.slots) := by
  obtain ⟨r1, r2, r3, r4⟩ := am_hroom F
  refine ⟨⟨?_, ?_⟩, ?_, ?_⟩
  · show am_nF y + 1 ≤ R.frames
    omega
  · show 8 + (am_ml y + 11) + am_nL y ≤ R.locals
    omega
  · omega
  · omega
theorem am_fix (F : am_Fr sa1 sa2 dC dI dA l k p e R s m args below meth cd A ad0 n0 X0 Q Qf) : CallFix p m cd (am_cc k) (am_ml k) s args am_WS (am_R (am_oc k)) := ⟨F.1.1, F.1.2.1, F.1.2.2.1, am_hown F, am_hts F⟩
theorem am_hstf (F : am_Fr sa1 sa2 dC dI dA l k p e R s m args below meth cd A ad0 n0 X0 Q Qf) : l.stackTraces = false := F.1.2.2.2.2.2.2.2.2.2.2.1
theorem am_hW0 {rest : List Value} (hr : am_cats rest ≤ 8) : 2 * (F0 m pc ls st).monitorRoom + ((rest.map (am_cv ad)).map fun v => v.category).sum ≤ 8 := lv_room (by rw [am_cats_sum]; exact hr)
theorem am_cwE {y : Nat} (h : (am_hh y).isEmpty = true) : am_cw y = Cond.code (am_y y) (am_cc y) (am_ml y) (am_rt y) := if_pos h
theorem am_had (F : am_Fr sa1 sa2 dC dI dA l k p e R s m args below meth cd A ad0 n0 X0 Q Qf) (S : am_St dC dI dA k A s ad0 n0 X0 ad H locs ls L st h c s') : ad 1000001 = sa1 ∧ ad 1000002 = sa2 := ⟨(S.2.2.2.2.1 1000001 (Or.inr (by decide))).trans F.2.1.1, (S.2.2.2.2.1 1000002 (Or.inr (by decide))).trans F.2.1.2⟩
/-- the parts of a call -/
theorem am_inv_parts {b y : Nat} (S : am_St dC dI dA k A s ad0 n0 X0 ad H locs ls L st h c s') (q : am_pop b st [] fun as r => (am_cats r ≤ 8 ∧ am_ones as ∧ am_rcv h y as) ∧ c + am_bc y ≤ am_bc k ∧ s' + am_bs y ≤ am_bs k ∧ ∃ Q' : AQ, am_T sa1 sa2 dC dI dA l y 0 (am_ent (am_ml y) as) [] h 0 0 Q' ∧ am_back (am_T sa1 sa2 dC dI dA l) k pc y L r c s' Q Q') :
    ∃ (as r : List Value) (Q' : AQ), st = as.reverse ++ r ∧ as.length = b ∧ am_cats r ≤ 8 ∧ (∀ v ∈ as, v.category = 1) ∧ am_rcv h y as ∧ (c + am_bc y ≤ am_bc k ∧ s' + am_bs y ≤ am_bs k) ∧ am_T sa1 sa2 dC dI dA l y 0 (am_ent (am_ml y) as) [] h 0 0 Q' ∧ am_back (am_T sa1 sa2 dC dI dA l) k pc y L r c s' Q Q' ∧ (∀ v ∈ as, am_vok h v) ∧ ∀ v ∈ r, am_vok h v := by
  obtain ⟨xs, r, e1, e2, ⟨z1, z2, z3⟩, z4, z5, Q', z6, z7⟩ := am_pop_spec _ _ _ q
  rw [List.append_nil] at z2 z3 z6
  refine ⟨xs.reverse, r, Q', by rw [List.reverse_reverse]; exact e1, by rw [List.length_reverse]; exact e2, z1, am_ones_cat z2, z3, ⟨z4, z5⟩, z6, z7, fun v hv => S.2.2.1 v ?_, fun v hv => S.2.2.1 v ?_⟩
  · rw [e1]
    exact List.mem_append_left _ (List.mem_reverse.mp hv)
  · rw [e1]
    exact List.mem_append_right _ hv
theorem am_nest {x : Jvm.Cond} (F : am_Fr sa1 sa2 dC dI dA l k p e R s m args below meth cd A ad0 n0 X0 Q Qf) (h : x ∈ am_NW) : va_Nw x s := by
  obtain ⟨-, -, -, -, -, -, -, -, hnw, -⟩ := am_hgs F
  exact hnw x h
theorem am_i_invokestatic {n : Nat} (F : am_Fr sa1 sa2 dC dI dA l k p e R s m args below meth cd A ad0 n0 X0 Q Qf) (S : am_St dC dI dA k A s ad0 n0 X0 ad H locs ls L st h c s') (hd : decode (am_cc k) pc = .ok (.invokestatic n, 3)) (hchk : am_chk k (pc, .invokestatic n, 3, a, b) = true) (q : am_x (am_T sa1 sa2 dC dI dA l) k pc (.invokestatic n) a b L st h c s' Q) : W p l e R s m args below meth cd H locs c s' Qf (F0 m pc ls (st.map (am_cv ad))) := by
  dsimp only [am_x, am_inv] at q
  dsimp only [am_chk] at hchk
  simp only [Bool.and_eq_true] at hchk
  obtain ⟨-, hchk⟩ := hchk
  split at q
  · exact absurd hchk Bool.false_ne_true
  · exact q.elim
  · rename_i h999 h998
    have hchk : (am_invB k n 0 a b && Nat.beq (am_st a) 1 && decide ((parseMethodDescriptor (am_y a).desc).map (fun d => d.parameters.length) = some b) && !(am_th a) && ((am_hh a).isEmpty || ((am_find am_mthL (am_oc k * 10000 + n)).any fun q => Nat.beq q.2.2.1 0))) = true := by
      revert hchk
      split
      · rename_i e0; exact absurd rfl h998
      · rename_i e0; exact absurd rfl h999
      · exact id
    simp only [Bool.and_eq_true, decide_eq_true_eq, Bool.not_eq_true'] at hchk
    obtain ⟨⟨⟨⟨hinv, hst1⟩, hdesc⟩, hth⟩, hhh⟩ := hchk
    have hst1 : am_st a = 1 := Nat.eq_of_beq_eq_true hst1
    obtain ⟨hy, hF1, hL1, hbl, hlk⟩ := am_mthP (by decide) hinv
    obtain ⟨p1, -, p3, p4, p5, p6, -⟩ := am_pP hy
    obtain ⟨as, r, Q', rfl, e2, c1, c2, c3, ⟨c4, c5⟩, c6, c7, c8, c9⟩ := am_inv_parts S q
    have hM := am_met hy hth c6 S.1.2.2.2 c8 (am_had F S) (sz := H.size) (by omega) c2 (am_hstf F)
    obtain ⟨rl1, rl2⟩ := am_room_le F c4 c5 hF1 hL1
    have hsplit : (as.reverse ++ r).map (am_cv ad) = (as.map (am_cv ad)).reverse ++ r.map (am_cv ad) := by rw [List.map_append, List.map_reverse]
    rw [hsplit]
    have hpre : PreS s H (am_Pc sa1 sa2 dC dI dA ad h as H.size) (as.map (am_cv ad)) := ⟨am_Pc_blind, am_pre F S⟩
    have hlen : (as.map (am_cv ad)).length = b := by rw [List.length_map]; exact e2
    rcases hlk with hlk | ⟨hlk, hno⟩
    · have hG : GoodIn am_WS (va_wsS (am_R (am_oc k)) n (am_y a) (am_ws a)) := am_good1 hlk (am_good1 (p1 hst1) (am_good1 p3 (am_good_ws hy)))
      by_cases he : (am_hh a).isEmpty = true
      · have hw : am_ws a = Cond.code (am_y a) (am_cc a) (am_ml a) (am_rt a) :: am_WS := by unfold am_ws; rw [am_cwE he]
        exact am_callG F S c9 c4 c5 c7 (va_runS (As := as.map (am_cv ad)) (rest := r.map (am_cv ad)) (am_fix F) hM (va_cwS b (am_hts F) hG hw rfl rfl ⟨p5, p6, hdesc⟩ rl1) hpre rfl hlen S.2.1.1 rfl (am_hW0 c1) hd rl2)
      · have hw : am_ws a = Cond.codeWith (am_y a) (am_cc a) (am_ml a) (am_rt a) (am_hh a) :: am_WS := by unfold am_ws am_cw; rw [if_neg he]
        exact am_callG F S c9 c4 c5 c7 (vx_runSW (As := as.map (am_cv ad)) (rest := r.map (am_cv ad)) (am_fix F) hM (vx_cwSW b (am_hts F) hG hw rfl rfl ⟨p5, p6, hdesc⟩ rl1) hpre rfl hlen S.2.1.1 rfl (am_hW0 c1) hd rl2)
    · have he : (am_hh a).isEmpty = true := by
        rw [hno, Bool.or_false] at hhh
        exact hhh
      have hw : am_ws a = Cond.code (am_y a) (am_cc a) (am_ml a) (am_rt a) :: am_WS := by unfold am_ws; rw [am_cwE he]
      exact am_callG F S c9 c4 c5 c7 (va_runSN (host := RX9) (As := as.map (am_cv ad)) (rest := r.map (am_cv ad)) (am_fix F) hM ⟨va_cnB b (am_hts F) (am_good_ws hy) hw rfl rfl (am_nest F hlk) (am_hts F _ p3) ⟨p5, p6, hdesc⟩ rl1, am_hts F _ (p1 hst1), trivial⟩ hpre rfl hlen S.2.1.1 rfl (am_hW0 c1) hd rl2)
/-- the receiver comes first -/
theorem am_as_ref {y : Nat} {as : List Value} (hst : am_st y ≠ 1) (h1 : am_rcv h y as) : ∃ o As, as = .ref o :: As := by
  unfold am_rcv at h1
  split at h1
  · rename_i e0; exact absurd e0 hst
  · split at h1
    · exact ⟨_, _, rfl⟩
    · exact h1.elim
theorem am_desc1 {f : MethodName} {b : Nat} {As : List Value} (hd : (parseMethodDescriptor f.desc).map (fun d => d.parameters.length + 1) = some b) (hl : As.length + 1 = b) : (parseMethodDescriptor f.desc).map (fun d => d.parameters.length) = some As.length := by
  cases hp : parseMethodDescriptor f.desc with
  | none => rw [hp] at hd; cases hd
  | some d =>
    rw [hp] at hd
    have e1 : d.parameters.length + 1 = b := Option.some.inj hd
    exact congrArg some (show d.parameters.length = As.length by omega)
theorem am_vP {y : Nat} (h : y ∈ am_vL) : am_in (.selects (am_y y).cls (am_y y) (am_y y)) := am_get_in (List.all_eq_true.mp am_v_ok y h)
/-- the handler takes it -/
def am_hndB (q : Nat × Nat × Nat × Nat × Nat × Nat × Nat × Nat) : Bool := let i := (am_hh q.1).findIdx (fun z => z == (q.2.2.1, q.2.2.2.1, q.2.2.2.2.1, q.2.2.2.2.2.1));
  Nat.blt i (am_hh q.1).length && decide ((am_hh q.1)[i]? = some (q.2.2.1, q.2.2.2.1, q.2.2.2.2.1, q.2.2.2.2.2.1)) && (((am_hh q.1).take i).all fun z => Nat.blt z.2.2.2 10000 && (!(Nat.beq z.2.2.2 0)) && (am_find am_cpcL (am_oc q.1 * 10000 + z.2.2.2)).any fun u => Nat.ble 102 u.1 && Nat.ble u.1 102 && !(Nat.beq u.1 (100 + q.2.1))) &&
  Nat.blt q.2.2.2.2.2.1 10000 && !(Nat.beq q.2.2.2.2.2.1 0) && ((am_find am_cpcL (am_oc q.1 * 10000 + q.2.2.2.2.2.1)).any fun u => Nat.beq u.1 (100 + q.2.1)) && Nat.blt q.2.1 3 && Nat.blt q.2.2.2.2.2.2.1 (am_ml q.1) &&
  (match decode (am_cc q.1) q.2.2.2.2.1 with
    | .ok (.astore_n j, 1) => Nat.beq j q.2.2.2.2.2.2.1 && Nat.beq (q.2.2.2.2.1 + 1) q.2.2.2.2.2.2.2
    | .ok (.astore j, 2) => Nat.beq j q.2.2.2.2.2.2.1 && Nat.beq (q.2.2.2.2.1 + 2) q.2.2.2.2.2.2.2
    | _ => false)
set_option maxRecDepth 100000 in
theorem am_hnd_ok : am_hndL.all am_hndB = true := by decide +kernel
theorem am_castx {x : Nat} (hx : x < 3) (F : am_Fr sa1 sa2 dC dI dA l k p e R s m args below meth cd A ad0 n0 X0 Q Qf) : (Cond.castable (am_cpn (100 + x)) (am_cpn (100 + x))).before args s = true := by
  have h1 : Cond.castable (am_cpn (100 + x)) (am_cpn (100 + x)) ∈ am_NW := by
    have h9 : ((List.range 3).all fun x => decide (Cond.castable (am_cpn (100 + x)) (am_cpn (100 + x)) ∈ lw_tbl)) = true := by decide +kernel
    exact List.mem_filter.mpr ⟨of_decide_eq_true (List.all_eq_true.mp h9 x (List.mem_range.mpr hx)), rfl⟩
  exact va_Nw.use rfl (am_nest F h1)
theorem am_lv_drop {i : Nat} {x : Value} (h : lv_has ls n0 ((i, x) :: (am_lvl L ad).filter (fun q => !(q.1 == i) && !(q.1 + 1 == i && q.2.category == 2)))) (hN : am_nl L i) : am_lv ls n0 (am_set L i none) ad := by
  refine ⟨h.1, h.2.1, fun j w hw => ?_⟩
  have key : ∀ w, j ≠ i → am_nth L j = some w → ls[j]? = some (.val (am_cv ad w)) := by
    intro w hj hw
    refine h.2.2 (j, am_cv ad w) (List.mem_cons_of_mem _ (List.mem_filter.mpr ⟨am_lvl_mem.mpr ⟨w, hw, rfl⟩, ?_⟩))
    simp only [Bool.and_eq_true, Bool.not_eq_true', beq_eq_false_iff_ne, ne_eq, Bool.and_eq_false_iff]
    refine ⟨hj, ?_⟩
    by_cases he : j + 1 = i
    · right
      rw [am_cv_cat]
      exact am_nl_spec hN hw he
    · exact Or.inl he
  rcases am_nth_set hw with ⟨rfl, e⟩ | ⟨hj, hw⟩ | ⟨hw, hl⟩
  · cases e
  · exact key w hj hw
  · exact key w (fun e => absurd (am_nth_lt L j w hw) (by omega)) hw
theorem am_caught {x : Nat} {h1 : AH} {ad1 : Nat → Nat} {H1 : Heap} {locs1 : List Loc} {c1 s1 : Nat} {rest : List Value} {ce : Cell} {q9 : Nat} {hq : Nat × Nat × Nat × Nat × Nat × Nat × Nat × Nat} (F : am_Fr sa1 sa2 dC dI dA l k p e R s m args below meth cd A ad0 n0 X0 Q Qf) (S : am_St dC dI dA k A s ad0 n0 X0 ad1 H1 locs1 ls L [] h1 c1 s1) (hhnd : am_hnd k pc x = some hq) (hnl : am_nl L hq.2.2.2.2.2.2.1) (q : am_T sa1 sa2 dC dI dA l k hq.2.2.2.2.2.2.2 (am_set L hq.2.2.2.2.2.2.1 none) [] h1 c1 s1 Q) (hcell : H1[q9]? = some ce) (hv : ce.vm = .none) (hcl : s.vm.findClass (am_cpn (100 + x)) = some ce.cls) :
    vx_W p l e R s m args below meth cd H1 locs1 c1 s1 Qf (F0 m pc ls rest) q9 := by
  have hmem := List.mem_of_find?_eq_some hhnd
  have hok := List.find?_some hhnd
  have hB := List.all_eq_true.mp am_hnd_ok hq hmem
  obtain ⟨k', x', fr, tt, hp, ct, sl, nx⟩ := hq
  unfold am_hok at hok
  simp only [Bool.and_eq_true] at hok
  obtain ⟨⟨⟨o1, o2⟩, o3⟩, o4⟩ := hok
  have o1 : k' = k := Nat.eq_of_beq_eq_true o1
  have o2 : x' = x := Nat.eq_of_beq_eq_true o2
  have o3 := Nat.le_of_ble_eq_true o3
  have o4 := Nat.blt_eq.mp o4
  subst o1
  subst o2
  unfold am_hndB at hB
  dsimp only at hB o3 o4 hnl q
  generalize ((am_hh k').findIdx (fun z => z == (fr, tt, hp, ct))) = i at hB
  simp only [Bool.and_eq_true, decide_eq_true_eq, Bool.not_eq_true'] at hB
  obtain ⟨⟨⟨⟨⟨⟨⟨⟨b1, b2⟩, b3⟩, b4⟩, b5⟩, b6⟩, b7⟩, b8⟩, b9⟩ := hB
  have b7 := Nat.blt_eq.mp b7
  have hil := (List.getElem?_eq_some_iff.mp b2).1
  have hsp : am_hh k' = (am_hh k').take i ++ (fr, tt, hp, ct) :: (am_hh k').drop (i + 1) := by
    have e1 : (am_hh k')[i] = (fr, tt, hp, ct) := (List.getElem?_eq_some_iff.mp b2).2
    rw [← e1, List.getElem_cons_drop, List.take_append_drop]
  have htab : cd.exceptionTable.toList = tableOf (am_hh k') := F.1.2.2.2.2.2.2.2.1
  have hsplit : cd.exceptionTable.toList = tableOf ((am_hh k').take i) ++ ({ startPc := fr, endPc := tt, handlerPc := hp, catchType := ct } : ExceptionTableEntry) :: tableOf ((am_hh k').drop (i + 1)) := by
    rw [htab]
    conv => lhs; rw [hsp]
    unfold tableOf
    rw [List.map_append, List.map_cons]
  obtain ⟨-, -, -, -, -, -, -, -, -, hNc⟩ := am_hgs F
  refine vx_catch (name := am_cpn (100 + x')) (am_hown F) _ _ _ hsplit (fun z hz => ?_) ?_ (fun e0 => ?_) (am_hts F _ (am_cpcP b4 b6)) (am_castx b7 F) hcell hv hcl ?_
  · right
    unfold tableOf at hz
    obtain ⟨u, hu, rfl⟩ := List.mem_map.mp hz
    have h9 := List.all_eq_true.mp b3 u hu
    simp only [Bool.and_eq_true, Bool.not_eq_true'] at h9
    obtain ⟨⟨g1, g2⟩, g3⟩ := h9
    refine ⟨fun e0 => ?_, ?_⟩
    · have e1 : u.2.2.2 = 0 := e0
      rw [e1] at g2
      cases g2
    · cases hf : am_find am_cpcL (am_oc k' * 10000 + u.2.2.2) with
      | none => rw [hf] at g3; cases g3
      | some w9 =>
        rw [hf] at g3
        have g3 : (Nat.ble 102 w9.1 && Nat.ble w9.1 102 && !(Nat.beq w9.1 (100 + x'))) = true := g3
        simp only [Bool.and_eq_true, Bool.not_eq_true'] at g3
        obtain ⟨⟨g4, g5⟩, g6⟩ := g3
        have g4 := Nat.le_of_ble_eq_true g4
        have g5 := Nat.le_of_ble_eq_true g5
        have g6 : w9.1 ≠ 100 + x' := fun e0 => by rw [e0] at g6; simp at g6
        have hw9 : am_in (.classLink (am_R (am_oc k')) u.2.2.2 (am_cpn w9.1)) := am_cpcP g1 (by rw [hf]; exact Nat.beq_refl _)
        refine ⟨am_cpn w9.1, am_hts F _ hw9, ?_⟩
        have h3 := hNc x' (w9.1 - 100) (by omega) (by omega)
        rw [show 100 + (w9.1 - 100) = w9.1 by omega] at h3
        exact h3
  · unfold covers
    simp only [Bool.and_eq_true, decide_eq_true_eq]
    first | exact ⟨o3, o4⟩ | exact ⟨Nat.ble_eq.mpr o3, Nat.blt_eq.mpr o4⟩
  · have e1 : ct = 0 := e0
    rw [e1] at b5
    cases b5
  · have hgo : ∀ ls' : Array Slot, lv_has ls' (am_ml k') ((sl, .ref q9) :: (am_lvl L ad1).filter (fun q => !(q.1 == sl) && !(q.1 + 1 == sl && q.2.category == 2))) → W p l e R s m args below meth cd H1 locs1 c1 s1 Qf (F0 m nx ls' []) := fun ls' hl' => am_go F q (am_lcl S (am_lv_drop hl' hnl) (fun v hv => absurd hv List.not_mem_nil) (am_set_vok (fun v e1 => by cases e1) S.2.2.2.1))
    revert b9
    split
    · rename_i j hdj
      intro b9
      simp only [Bool.and_eq_true] at b9
      have j1 : (j : Nat) = sl := Nat.eq_of_beq_eq_true b9.1
      have j2 : hp + 1 = nx := Nat.eq_of_beq_eq_true b9.2
      subst j2
      exact lv_astore_n F.1.1 F.1.2.1 hdj j1 (am_lv_has S.2.1) (Nat.blt_eq.mp b8) rfl hgo
    · rename_i j hdj
      intro b9
      simp only [Bool.and_eq_true] at b9
      have j1 : j = sl := Nat.eq_of_beq_eq_true b9.1
      have j2 : hp + 2 = nx := Nat.eq_of_beq_eq_true b9.2
      subst j1
      subst j2
      exact lv_astore F.1.1 F.1.2.1 hdj (am_lv_has S.2.1) (Nat.blt_eq.mp b8) rfl hgo
    · intro b9
      cases b9
theorem am_i_invokevirtual {n : Nat} (F : am_Fr sa1 sa2 dC dI dA l k p e R s m args below meth cd A ad0 n0 X0 Q Qf) (S : am_St dC dI dA k A s ad0 n0 X0 ad H locs ls L st h c s') (hd : decode (am_cc k) pc = .ok (.invokevirtual n, 3)) (hchk : am_chk k (pc, .invokevirtual n, 3, a, b) = true) (q : am_x (am_T sa1 sa2 dC dI dA l) k pc (.invokevirtual n) a b L st h c s' Q) : W p l e R s m args below meth cd H locs c s' Qf (F0 m pc ls (st.map (am_cv ad))) := by
  dsimp only [am_x, am_inv] at q
  dsimp only [am_chk] at hchk
  simp only [Bool.and_eq_true] at hchk
  obtain ⟨-, hchk⟩ := hchk
  split at q
  · exact absurd hchk Bool.false_ne_true
  · exact absurd hchk Bool.false_ne_true
  · rename_i h999 h998
    have hchk : (am_invB k n 1 a b && Nat.beq (am_st a) 0 && decide (a ∈ am_vL) && decide ((parseMethodDescriptor (am_y a).desc).map (fun d => d.parameters.length + 1) = some b) && (am_hh a).isEmpty && (!(am_th a) || ((am_find am_mthL (am_oc k * 10000 + n)).any fun q => Nat.beq q.2.2.1 1))) = true := by
      revert hchk
      split
      · rename_i e0; exact absurd rfl h998
      · rename_i e0; exact absurd rfl h999
      · exact id
    simp only [Bool.and_eq_true, decide_eq_true_eq] at hchk
    obtain ⟨⟨⟨⟨⟨hinv, hst1⟩, hvL⟩, hdesc⟩, he⟩, hth⟩ := hchk
    have hst1 : am_st a ≠ 1 := by rw [Nat.eq_of_beq_eq_true hst1]; decide
    obtain ⟨hy, hF1, hL1, hbl, hlk⟩ := am_mthP (by decide) hinv
    obtain ⟨-, p2, p3, p4, p5, p6, -⟩ := am_pP hy
    have p2 := p2 hst1
    obtain ⟨as, r, Q', rfl, e2, c1, c2, c3, ⟨c4, c5⟩, c6, c7, c8, c9⟩ := am_inv_parts S q
    obtain ⟨o, As, rfl⟩ := am_as_ref hst1 c3
    have hrv := am_recv F S hy hst1 c3
    have hdesc := am_desc1 (As := As) hdesc (by rw [← e2]; rfl)
    obtain ⟨rl1, rl2⟩ := am_room_le F c4 c5 hF1 hL1
    have hsplit : ((.ref o :: As).reverse ++ r).map (am_cv ad) = (As.map (am_cv ad)).reverse ++ .ref (ad o) :: r.map (am_cv ad) := by
      rw [List.reverse_cons, List.append_assoc, List.map_append, List.map_reverse]
      rfl
    rw [hsplit]
    have hpre : PreV s H (am_y a).cls (ad o) (am_Pc sa1 sa2 dC dI dA ad h (.ref o :: As) H.size) (As.map (am_cv ad)) := ⟨am_Pc_blind, hrv, am_pre F S⟩
    have hw : am_ws a = Cond.code (am_y a) (am_cc a) (am_ml a) (am_rt a) :: am_WS := by unfold am_ws; rw [am_cwE he]
    have hlen : (As.map (am_cv ad)).length = As.length := List.length_map _
    have hG1 : am_in (.methodLink (am_R (am_oc k)) n (am_y a)) → GoodIn am_WS (wsV (am_R (am_oc k)) n (am_y a).cls (am_y a) (am_ws a)) := fun hlk => am_good1 hlk (am_good1 p2 (am_good1 (am_vP hvL) (am_good1 p3 (am_good_ws hy))))
    cases hta : am_th a with
    | false =>
      have hM := am_met hy hta c6 S.1.2.2.2 c8 (am_had F S) (sz := H.size) (by omega) c2 (am_hstf F)
      rcases hlk with hlk | ⟨hlk, hno⟩
      · exact am_callG F S c9 c4 c5 c7 (va_runV (C := (am_y a).cls) (b := ad o) (As := As.map (am_cv ad)) (rest := r.map (am_cv ad)) (am_fix F) hM (cwV As.length (am_hts F) (hG1 hlk) hw rfl rfl ⟨rfl, p5, p6, hdesc⟩ rl1) hpre rfl hlen S.2.1.1 rfl (am_hW0 c1) hd rl2)
      · exact am_callG F S c9 c4 c5 c7 (va_runVN (C := (am_y a).cls) (host := RX9) (b := ad o) (As := As.map (am_cv ad)) (rest := r.map (am_cv ad)) (am_fix F) hM ⟨va_cnB As.length (am_hts F) (am_good_ws hy) hw rfl rfl (am_nest F hlk) (am_hts F _ p3) ⟨p5, p6, hdesc⟩ rl1, am_hts F _ p2, am_hts F _ (am_vP hvL)⟩ hpre rfl hlen S.2.1.1 rfl (am_hW0 c1) hd rl2)
    | true =>
      rcases hlk with hlk | ⟨hlk, hno⟩
      · have hM := am_metx hy c6 S.1.2.2.2 c8 (am_had F S) (sz := H.size) (by omega) c2 (am_hstf F)
        have hR := vx_runV (meth := meth) (C := (am_y a).cls) (b := ad o) (H := H) (locs := locs) (cells := c) (slots := s') (As := As.map (am_cv ad)) (rest := r.map (am_cv ad)) (g := F0 m pc ls ((As.map (am_cv ad)).reverse ++ .ref (ad o) :: r.map (am_cv ad))) (e := e) (below := below) (am_fix F) hM (cwV As.length (am_hts F) (hG1 hlk) hw rfl rfl ⟨rfl, p5, p6, hdesc⟩ rl1) hpre rfl hlen S.2.1.1 rfl (am_hW0 c1) hd rl2
        intro T hT X
        rcases hR T hT X with ⟨v, st₀, t, T', Lc, h0, X', hL, e1, e3, hq, stp⟩ | ⟨q9, st₀, t, T', Lc, E9, ce, h0, X', hL, e1, e3, hq, hce, hcv, hcl, stp⟩
        · obtain ⟨t2, a1, b1⟩ := am_after (st0 := (As.map (am_cv ad)).reverse ++ .ref (ad o) :: r.map (am_cv ad)) F S c9 c4 c5 c7 h0 X' hL e1 hq
          exact ⟨t2, stp t2 a1, b1⟩
        · obtain ⟨x9, h1, ad1, rfl, hx3, hQ, ⟨b1, b2, b3, b4, b5, b6⟩, hF⟩ := hq
          obtain ⟨-, c72⟩ := c7
          rw [hta] at c72
          obtain ⟨hq8, k1, k2, k3⟩ := c72 x9 h1 hQ
          rw [← e1] at b4
          obtain ⟨kk1, kk2, kk3⟩ := vx_keep h0 e1 S.1.2.2.1 (fun q _ z => am_free F S q z) (am_free F S) hL hF
          have hWd : am_Wd dC dI dA ad1 h1 A s T'.heap (locs ++ Lc) := ⟨b4, b5.weaken (fun _ q _ z => am_free F S q.1 z), kk3, b6⟩
          have S1 := am_grow (st' := []) S b1 b2 b3 hWd (fun v hv => absurd hv List.not_mem_nil) c4 c5
          obtain ⟨t2, a1, b1⟩ := am_caught (rest := r.map (am_cv ad)) F S1 k1 k2 k3 (by rw [e1]; exact hce) hcv hcl T' rfl X'
          exact ⟨t2, stp.trans a1, b1⟩
      · rw [hta, hno] at hth
        simp at hth
theorem am_i_invokespecial {n : Nat} (F : am_Fr sa1 sa2 dC dI dA l k p e R s m args below meth cd A ad0 n0 X0 Q Qf) (S : am_St dC dI dA k A s ad0 n0 X0 ad H locs ls L st h c s') (hd : decode (am_cc k) pc = .ok (.invokespecial n, 3)) (hchk : am_chk k (pc, .invokespecial n, 3, a, b) = true) (q : am_x (am_T sa1 sa2 dC dI dA l) k pc (.invokespecial n) a b L st h c s' Q) : W p l e R s m args below meth cd H locs c s' Qf (F0 m pc ls (st.map (am_cv ad))) := by
  dsimp only [am_x, am_inv] at q
  dsimp only [am_chk] at hchk
  simp only [Bool.and_eq_true] at hchk
  obtain ⟨-, hchk⟩ := hchk
  split at q
  · simp only [Bool.and_eq_true] at hchk
    obtain ⟨⟨⟨ho, hn0⟩, hF1⟩, hL1⟩ := hchk
    obtain ⟨x0, hx0⟩ := Option.isSome_iff_exists.mp ho
    have hw := List.all_eq_true.mp am_oi_ok _ (am_find_mem hx0)
    obtain ⟨d1, d2⟩ := am_divmod (am_oc k) n (Nat.blt_eq.mp hn0)
    unfold am_oiB at hw
    rw [d1, d2] at hw
    have hr := am_hroom F
    have hF1 := Nat.le_of_ble_eq_true hF1
    have hL1 := Nat.le_of_ble_eq_true hL1
    unfold am_r1 at q
    split at q
    · rename_i x r
      obtain ⟨q1, q⟩ := q
      exact W.objInit F.1.1 F.1.2.1 (am_hown F) (am_hts F _ (am_get_in hw)) (am_hts F _ am_obj.1) (am_hts F _ am_obj.2) (g := F0 m pc ls (.ref (ad x) :: r.map (am_cv ad))) rfl (S.2.1.1.trans F.1.2.2.1.symm) rfl hd (by omega) (by have := am_hW0 (m := m) (pc := pc) (ls := ls) (st := []) (ad := ad) q1; have h9 : 2 * (F0 m pc ls (.ref (ad x) :: r.map (am_cv ad))).monitorRoom = 2 * (F0 m pc ls ([] : List Value)).monitorRoom := rfl; omega) (am_go F q (am_stk S (am_S1 S)))
    · exact q.elim
  · exact absurd hchk Bool.false_ne_true
  · rename_i h999 h998
    have hchk : (am_invB k n 2 a b && Nat.beq (am_st a) 0 && Nat.beq (am_rc a) 0 && decide ((am_y a).name = "<init>") && decide (am_rt a = none) && decide ((parseMethodDescriptor (am_y a).desc).map (fun d => d.parameters.length + 1) = some b) && (am_hh a).isEmpty && !(am_th a)) = true := by
      revert hchk
      split
      · rename_i e0; exact absurd rfl h998
      · rename_i e0; exact absurd rfl h999
      · exact id
    simp only [Bool.and_eq_true, decide_eq_true_eq, Bool.not_eq_true'] at hchk
    obtain ⟨⟨⟨⟨⟨⟨⟨hinv, hst1⟩, -⟩, hini⟩, hrt0⟩, hdesc⟩, he⟩, hta⟩ := hchk
    have hst1 : am_st a ≠ 1 := by rw [Nat.eq_of_beq_eq_true hst1]; decide
    obtain ⟨hy, hF1, hL1, hbl, hlk⟩ := am_mthP (by decide) hinv
    obtain ⟨-, p2, p3, p4, p5, p6, -⟩ := am_pP hy
    have p2 := p2 hst1
    obtain ⟨as, r, Q', rfl, e2, c1, c2, c3, ⟨c4, c5⟩, c6, c7, c8, c9⟩ := am_inv_parts S q
    obtain ⟨o, As, rfl⟩ := am_as_ref hst1 c3
    have hdesc := am_desc1 (As := As) hdesc (by rw [← e2]; rfl)
    obtain ⟨rl1, rl2⟩ := am_room_le F c4 c5 hF1 hL1
    have hsplit : ((.ref o :: As).reverse ++ r).map (am_cv ad) = (As.map (am_cv ad)).reverse ++ .ref (ad o) :: r.map (am_cv ad) := by
      rw [List.reverse_cons, List.append_assoc, List.map_append, List.map_reverse]
      rfl
    rw [hsplit]
    have hpre : PreS s H (am_Pc sa1 sa2 dC dI dA ad h (.ref o :: As) H.size) (.ref (ad o) :: As.map (am_cv ad)) := ⟨am_Pc_blind, am_pre F S⟩
    have hw : am_ws a = Cond.code (am_y a) (am_cc a) (am_ml a) none :: am_WS := by unfold am_ws; rw [am_cwE he, hrt0]
    have hlen : (As.map (am_cv ad)).length = As.length := List.length_map _
    have hM := am_met hy hta c6 S.1.2.2.2 c8 (am_had F S) (sz := H.size) (by omega) c2 (am_hstf F)
    rcases hlk with hlk | ⟨hlk, hno⟩
    · exact am_callG F S c9 c4 c5 c7 (va_runI (b := ad o) (As := As.map (am_cv ad)) (rest := r.map (am_cv ad)) (am_fix F) hM (cwI As.length (am_hts F) (am_good_ws hy) hw rfl rfl (am_hts F _ p3) (am_hts F _ hlk) (am_hts F _ p2) hini ⟨p5, p6, hdesc⟩ rl1) hpre rfl hlen S.2.1.1 rfl (am_hW0 c1) hd rl2)
    · exact am_callG F S c9 c4 c5 c7 (va_runIN (host := RX9) (b := ad o) (As := As.map (am_cv ad)) (rest := r.map (am_cv ad)) (am_fix F) hM ⟨va_cnB As.length (am_hts F) (am_good_ws hy) hw rfl rfl (am_nest F hlk) (am_hts F _ p3) ⟨p5, p6, hdesc⟩ rl1, hini, am_hts F _ p2⟩ hpre rfl hlen S.2.1.1 rfl (am_hW0 c1) hd rl2)
end AMI
