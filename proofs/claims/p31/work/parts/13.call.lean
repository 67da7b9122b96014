/-! own: a callee's contract out of the numbered machine; calls and throws -/
def am_rm (y : Nat) : Room := { frames := am_nF y, cells := am_bc y, slots := am_bs y, locals := am_nL y }
def am_ws (y : Nat) : List Jvm.Cond := am_cw y :: am_WS
def am_Pc (sa1 sa2 : Nat) (dC : Nat → ClassId) (dI : Nat → Nat → Nat) (dA : Nat → ClassId) (ad : Nat → Nat) (h : AH) (as : List Value) (sz : Nat) : Array Value → State → Prop := va_Pc (as.map (am_cv ad)) (fun U => U.heap.size = sz ∧ va_P (dC, dI) vwCl (am_w dA ad h) U.heap ∧ va_K (dC, dI) vwCl (am_tys dA) U ∧ va_D (fun _ => True) (am_w dA ad h) ∧ am_gs sa1 sa2 (va_A (am_w dA ad h) sz) U U.heap ∧ va_X (ad 1000000) (hX h).1 (hX h).2 U U.heap ∧ ad 1000000 < sz ∧ ¬ va_A (am_w dA ad h) sz (ad 1000000))
def am_Bk (dC : Nat → ClassId) (dI : Nat → Nat → Nat) (dA : Nat → ClassId) (ad : Nat → Nat) (h : AH) (sz : Nat) (ad1 : Nat → Nat) (h1 : AH) (t : State) : Prop := am_ag (hn h) ad ad1 ∧ hn h ≤ hn h1 ∧ hX h1 = hX h ∧ va_P (dC, dI) vwCl (am_w dA ad1 h1) t.heap ∧ va_D (va_A (am_w dA ad h) sz) (am_w dA ad1 h1) ∧ am_wf h1
def am_Qc (dC : Nat → ClassId) (dI : Nat → Nat → Nat) (dA : Nat → ClassId) (ad : Nat → Nat) (h : AH) (sz y : Nat) (Q' : AQ) : Array Value → State → Outcome → State → Prop := fun _ st oc t =>
  ∃ (v : Option Value) (h1 : AH) (ad1 : Nat → Nat), oc = .returned v ∧ Q' (.inl v) h1 ∧ am_rv y v ∧ am_Bk dC dI dA ad h sz ad1 h1 t ∧ va_F (va_A (am_w dA ad h) sz) st t
def am_XC (dC : Nat → ClassId) (dI : Nat → Nat → Nat) (dA : Nat → ClassId) (ad : Nat → Nat) (h : AH) (sz : Nat) (Q' : AQ) : String → State → State → Prop := fun E st t =>
  ∃ (x : Nat) (h1 : AH) (ad1 : Nat → Nat), E = am_cpn (100 + x) ∧ x < 3 ∧ Q' (.inr x) h1 ∧ am_Bk dC dI dA ad h sz ad1 h1 t ∧ va_F (va_A (am_w dA ad h) sz) st t
theorem am_gs_same {sa1 sa2 : Nat} {A : Nat → Prop} {s U : State} {H : Heap} (hv : U.vm = s.vm) (h : am_gs sa1 sa2 A s H) : am_gs sa1 sa2 A U H := am_gs_step (by rw [hv]; exact State.WarmedH.refl s) h (fun _ _ _ => rfl) (fun _ z => z)
theorem am_Pc_blind {sa1 sa2 : Nat} {dC : Nat → ClassId} {dI : Nat → Nat → Nat} {dA : Nat → ClassId} {ad : Nat → Nat} {h : AH} {as : List Value} {sz : Nat} : FrameBlind (am_Pc sa1 sa2 dC dI dA ad h as sz) := by
  intro a U g mk q
  obtain ⟨q0, q1, q2, q3, q4, q5, q6, q7⟩ := q
  exact ⟨q0, q1, q2, va_K.moved (u := U) (U := U.calling g mk a) (Vm.Alike.refl U.vm) q3, q4, am_gs_same (s := U) (U := U.calling g mk a) rfl q5, va_X.moved (u := U) (U := U.calling g mk a) (Vm.Alike.refl U.vm) q6, q7⟩
/-- a method's body, from its entry, by its code's word -/
theorem am_ofB {l : Launch} {y : MethodName} {ws : List Jvm.Cond} {rm : Room} {Pc : Array Value → State → Prop} {Qm : Array Value → State → Outcome → State → Prop} {cc : ByteArray} {maxL : Nat} {ret : Option FieldType} {hh : List (Nat × Nat × Nat × Nat)} (hy : plainFor y = true) (hw : (if hh.isEmpty then Cond.code y cc maxL ret else Cond.codeWith y cc maxL ret hh) ∈ ws)
    (body : ∀ p e s m args below meth c s₁, BodyLoose p l y (headSpec ws rm) cc maxL ret e s m args below meth c s₁ → c.maxLocals = maxL → c.exceptionTable.toList = tableOf hh → Pc args s →
      W p l e (headSpec ws rm).room s m args below meth c s.heap [] 0 0 (fun t => ∃ o, t.status = .running ∧ Ended t below o ∧ Qm args s o t) (entryFrame m args maxL)) : MetFree l y (headSpec ws rm) Pc (fun _ _ _ _ _ => True) Qm := by
  refine MetFree.of_bodySF (code := cc) (maxLocals := maxL) (ret := ret) hy ?_ ?_
  · intro args s m h hn
    have hz := atoms_spec (ws := ws) h _ hw
    split at hz
    · obtain ⟨meth, c, h1, h2, h3, h4, h5, h6, -, -⟩ := Cond.code_spec hn hz
      exact ⟨meth, c, h1, h2, h3, h4, h5, h6⟩
    · obtain ⟨m9, meth, c, hn9, h1, h2, h3, h4, -, h5, h6, -⟩ := Cond.codeWith_spec hz
      cases hn.symm.trans hn9
      exact ⟨meth, c, h1, h2, h3, h4, h5, h6⟩
  · intro p e s m args below meth c s₁ B hml hP _
    have hh0 : s₁.heap = s.heap := by rw [B.state]; rfl
    have hz := atoms_spec (ws := ws) B.pre _ hw
    have ht : c.exceptionTable.toList = tableOf hh := by
      split at hz
      · rename_i he
        obtain ⟨meth9, c9, h1, h2, -, -, -, -, h7, -⟩ := Cond.code_spec B.named hz
        cases Option.some.inj (h1.symm.trans B.method)
        cases Option.some.inj (h2.symm.trans (Stand.of_body B).code)
        rw [Array.isEmpty_iff.mp h7, List.isEmpty_iff.mp he]
        rfl
      · exact vx_table (x := y) B hz
    obtain ⟨t, a1, o, b1, b2, b3⟩ := body p e s m args below meth c s₁ B hml ht hP s₁ hh0 (Stand.of_body B)
    exact ⟨t, o, a1, b1, b2, b3⟩
theorem am_lg_sl : ∀ (vs : List Value), (∀ v ∈ vs, v.category = 1) → (lg_sl vs).length = vs.length
  | [], _ => rfl
  | v :: vs, h => by
    have h1 : ¬ v.category = 2 := by
      rw [h v List.mem_cons_self]
      decide
    have e := am_lg_sl vs (fun w hw => h w (List.mem_cons_of_mem _ hw))
    have e2 : lg_sl (v :: vs) = [.val v] ++ lg_sl vs := by
      unfold lg_sl
      rw [List.flatMap_cons, if_neg h1]
    rw [e2, List.length_append, e]
    simp [Nat.add_comm]
theorem am_lv_args : ∀ (vs : List Value) (i : Nat), (∀ v ∈ vs, v.category = 1) → ∀ j v, vs[j]? = some v → (i + j, v) ∈ lv_args i vs
  | [], i, _, j, v, h => by simp at h
  | w :: vs, i, hc, j, v, h => by
    have h1 : ¬ w.category = 2 := by
      rw [hc w List.mem_cons_self]
      decide
    unfold lv_args
    rw [if_neg h1]
    cases j with
    | zero =>
      cases h
      exact List.mem_cons_self
    | succ j =>
      have := am_lv_args vs (i + 1) (fun u hu => hc u (List.mem_cons_of_mem _ hu)) j v h
      rw [show i + (j + 1) = i + 1 + j by omega]
      exact List.mem_cons_of_mem _ this
theorem am_nth_ent : ∀ (as : List Value) (r : List (Option Value)) (i : Nat) (v : Value), (∀ x ∈ r, x = none) → am_nth (as.map some ++ r) i = some v → as[i]? = some v
  | [], [], i, v, _, h => by cases h
  | [], x :: r, 0, v, hr, h => by
    have := hr x List.mem_cons_self
    subst this
    cases h
  | [], x :: r, i + 1, v, hr, h => by
    have := am_nth_ent [] r i v (fun y hy => hr y (List.mem_cons_of_mem _ hy)) h
    simp at this
  | a :: as, r, 0, v, hr, h => h
  | a :: as, r, i + 1, v, hr, h => am_nth_ent as r i v hr h
theorem am_ent_at {n : Nat} {as : List Value} {i : Nat} {v : Value} (h : am_nth (am_ent n as) i = some v) : as[i]? = some v := am_nth_ent as _ i v (fun x hx => (List.mem_replicate.mp hx).2) h
theorem am_goodWS : ∀ w ∈ am_WS, goodWord w = true := fun w hw => (List.mem_filter.mp hw).2
theorem am_good_ws {y : Nat} (hy : y < 133) : GoodIn am_WS (am_ws y) := by
  intro w hw
  rcases List.mem_cons.mp hw with rfl | hw
  · exact ⟨am_cws y hy, good_of_word (am_goodWS _ (am_cws y hy))⟩
  · exact ⟨hw, good_of_word (am_goodWS w hw)⟩
/-- what a method's number says of it -/
theorem am_pP {y : Nat} (hy : y < 133) : (am_st y = 1 → am_in (.static (am_y y))) ∧ (am_st y ≠ 1 → am_in (.instanceMethod (am_y y))) ∧ am_in (.initialized (am_y y).cls) ∧ (am_y y).cls = am_R (am_oc y) ∧ (am_y y).cls ≠ "java/lang/invoke/MethodHandle" ∧ (am_y y).cls ≠ "java/lang/invoke/VarHandle" ∧ plainFor (am_y y) = true := by
  have h1 := List.all_eq_true.mp am_p_ok y (List.mem_range.mpr hy)
  unfold am_pB at h1
  simp only [Bool.and_eq_true, decide_eq_true_eq] at h1
  obtain ⟨⟨⟨⟨⟨h1, h2⟩, h3⟩, h4⟩, h5⟩, h6⟩ := h1
  refine ⟨fun e => ?_, fun e => ?_, am_get_in h2, h3, h4, h5, h6⟩
  · rw [e] at h1
    exact am_get_in h1
  · cases hb : Nat.beq (am_st y) 1 with
    | true => exact absurd (Nat.eq_of_beq_eq_true hb) e
    | false => rw [hb] at h1; exact am_get_in h1
section AMB
variable {sa1 sa2 : Nat} {dC : Nat → ClassId} {dI : Nat → Nat → Nat} {dA : Nat → ClassId} {l : Launch}
theorem am_body {y : Nat} (hy : y < 133) {as : List Value} {h : AH} {Q' : AQ} {ad : Nat → Nat} {sz : Nat} (hT : am_T sa1 sa2 dC dI dA l y 0 (am_ent (am_ml y) as) [] h 0 0 Q') (hwf : am_wf h) (hvs : ∀ v ∈ as, am_vok h v) (had : ad 1000001 = sa1 ∧ ad 1000002 = sa2) (hlen : as.length ≤ am_ml y) (hcat : ∀ v ∈ as, v.category = 1) (hst : l.stackTraces = false)
    {p : Program} {e : Env} {s : State} {m : MethodId} {args : Array Value} {below : List Frame} {meth : Method} {c : Code} {s₁ : State} (B : BodyLoose p l (am_y y) (headSpec (am_ws y) (am_rm y)) (am_cc y) (am_ml y) (am_rt y) e s m args below meth c s₁) (hml : c.maxLocals = am_ml y) (htab : c.exceptionTable.toList = tableOf (am_hh y)) (hP : am_Pc sa1 sa2 dC dI dA ad h as sz args s)
    {Qf : State → Prop} (hE : am_E dC dI dA l y p e (am_rm y) s m args below meth c (va_A (am_w dA ad h) sz) ad (hn h) (hX h) Q' Qf) : W p l e (am_rm y) s m args below meth c s.heap [] 0 0 Qf (entryFrame m args (am_ml y)) := by
  obtain ⟨rfl, rfl, hP0, hK, hD0, hgs, hx6, hx7⟩ := hP
  obtain ⟨-, -, -, hcls, -, -, -⟩ := am_pP hy
  have hts : ∀ w ∈ am_WS, w.before (as.map (am_cv ad)).toArray s = true := fun w hw => atoms_spec (ws := am_ws y) B.pre w (List.mem_cons_of_mem _ hw)
  have hown : s.vm.findClass (am_R (am_oc y)) = some m.cls := hcls ▸ findClass_of_methodNamed B.named
  have hcat2 : ∀ v ∈ as.map (am_cv ad), v.category = 1 := fun v hv => by
    obtain ⟨w, hw, rfl⟩ := List.mem_map.mp hv
    rw [am_cv_cat]
    exact hcat w hw
  have hl := lv_entry (as.map (am_cv ad)) (n := am_ml y) (by rw [am_lg_sl _ hcat2, List.length_map]; exact hlen)
  rw [lg_entry_eq]
  generalize (lg_sl (as.map (am_cv ad)) ++ List.replicate (am_ml y - (lg_sl (as.map (am_cv ad))).length) Slot.unset).toArray = ls at hl ⊢
  refine hT p e (am_rm y) s m (as.map (am_cv ad)).toArray below meth c (va_A (am_w dA ad h) s.heap.size) ad (hn h) (hX h) Qf ⟨⟨B.exec, B.bytes, hml, hown, hts, B.returns, B.notSynchronized, htab, (name_of_methodNamed B.named B.method).1, ⟨Nat.le_refl _, Nat.le_refl _, Nat.le_refl _, Nat.le_refl _⟩, hst, hK, fun q hq => Or.inr hq, hgs⟩, had, ⟨hx6, hx7⟩, hE⟩ ad s.heap [] ls ⟨⟨hP0, hD0.self, va_S.rf, hwf⟩, ⟨hl.1, hl.2.1, fun i v z => ?_⟩, fun v hv => absurd hv List.not_mem_nil, fun i v z => ?_, fun _ _ => rfl, Nat.le_refl _, rfl, Nat.zero_le _, Nat.zero_le _⟩
  · have h1 := am_ent_at z
    have h2 := am_lv_args (as.map (am_cv ad)) 0 hcat2 i (am_cv ad v) (by rw [List.getElem?_map, h1]; rfl)
    rw [Nat.zero_add] at h2
    exact hl.2.2 _ h2
  · exact hvs v (List.mem_of_getElem? (am_ent_at z))
theorem am_Ec {y : Nat} (hy : y < 134) {h : AH} {Q' : AQ} {ad : Nat → Nat} {sz : Nat} {p : Program} {e : Env} {R : Room} {s : State} {m : MethodId} {args : Array Value} {below : List Frame} {meth : Method} {c : Code} (hsz : s.heap.size = sz) (hx : p.tables.exec = Jvm.exec) (hb : c.code = am_cc y) (hr : meth.sig.returnType = am_rt y) (hlk : meth.locks = false)
    {v : Option Value} {h1 : AH} {ad1 : Nat → Nat} {H1 : Heap} {locs1 : List Loc} {ls1 : Array Slot} {pc1 : Nat} (q : Q' (.inl v) h1) (hW : am_Wd dC dI dA ad1 h1 (va_A (am_w dA ad h) sz) s H1 locs1) (hag : am_ag (hn h) ad ad1) (hle : hn h ≤ hn h1) (hX1 : hX h1 = hX h) (hv : am_rv y v) (hd : decode (am_cc y) pc1 = .ok (am_ri y, 1)) :
    W p l e R s m args below meth c H1 locs1 (am_bc y) (am_bs y) (MQ below (am_Qc dC dI dA ad h sz y Q') args s (am_bc y) (am_bs y) (va_A (am_w dA ad h) sz)) (F0 m pc1 ls1 v.toList) := by
  have hq : ∀ t : State, t.heap = H1 → s.WarmedH t.vm → am_Qc dC dI dA ad h sz y Q' args s (.returned v) t := fun t ht hWt => ⟨v, h1, ad1, rfl, q, hv, ⟨hag, hle, hX1, by rw [ht]; exact hW.1, hW.2.1, hW.2.2.2⟩, hW.2.2.1.F ht⟩
  have hrt := List.all_eq_true.mp am_rt_ok y (List.mem_range.mpr hy)
  unfold am_rtB at hrt
  unfold am_rv at hv
  unfold am_ri at hd
  split at hv
  · rename_i e0
    rw [e0] at hrt hd
    cases hv
    exact W.vret hx hb (hr.trans (of_decide_eq_true hrt)) hq hW.2.2.1.2.2 hd hlk
  · rename_i e0
    rw [e0] at hrt hd
    obtain ⟨x, rfl, hx01⟩ := hv
    have hrt : (match am_rz y with
      | 0 => decide (am_rt y = some .int)
      | _ => decide (am_rt y = some .boolean) || decide (am_rt y = some .byte)) = true := hrt
    have key : ∃ ty, am_rt y = some ty ∧ narrow ty (.int x) = .int x := by
      split at hrt
      · exact ⟨.int, of_decide_eq_true hrt, rfl⟩
      · rename_i ez
        have hx01 : x = 0 ∨ x = 1 := by
          unfold am_b01 at hx01
          split at hx01
          · rename_i e9; exact absurd e9 ez
          · exact hx01
        simp only [Bool.or_eq_true, decide_eq_true_eq] at hrt
        rcases hrt with e1 | e1
        · exact ⟨.boolean, e1, by rcases hx01 with rfl | rfl <;> rfl⟩
        · exact ⟨.byte, e1, by rcases hx01 with rfl | rfl <;> rfl⟩
    obtain ⟨ty, k1, k2⟩ := key
    exact W.zret hx hb (hr.trans k1) k2 hq hW.2.2.1.2.2 hd hlk
  · rename_i e0
    rw [e0] at hrt hd
    obtain ⟨x, rfl⟩ := hv
    exact W.lret hx hb (hr.trans (of_decide_eq_true hrt)) hq hW.2.2.1.2.2 hd hlk
  · rename_i n0 n1 n2
    obtain ⟨x, rfl⟩ := hv
    have hrt' : am_rt y = some .float := by
      revert hrt
      split
      · rename_i e0; exact absurd e0 n0
      · rename_i e0; exact absurd e0 n1
      · rename_i e0; exact absurd e0 n2
      · exact fun z => of_decide_eq_true z
    have hd' : decode (am_cc y) pc1 = .ok (.freturn, 1) := by
      revert hd
      split
      · rename_i e0; exact absurd e0 n0
      · rename_i e0; exact absurd e0 n1
      · rename_i e0; exact absurd e0 n2
      · exact id
    exact W.fret hx hb (hr.trans hrt') hq hW.2.2.1.2.2 hd' hlk
theorem am_thr_th {k pc : Nat} {q : Nat × Nat × Nat × Nat × Nat × String} (h : am_thx k pc = some q) : ∃ e, e ∈ am_thrL ∧ am_thrC e = true ∧ e.1 / 10000 = k ∧ e.1 % 10000 = pc ∧ e.2 = q := by
  unfold am_thx at h
  cases hb : Nat.blt pc 10000 with
  | false => rw [hb] at h; cases h
  | true =>
    rw [hb] at h
    have hm := am_find_mem (show am_find am_thrL (k * 10000 + pc) = some q from h)
    obtain ⟨d1, d2⟩ := am_divmod k pc (Nat.blt_eq.mp hb)
    exact ⟨_, hm, List.all_eq_true.mp am_thr_ok _ hm, d1, d2, rfl⟩
theorem am_met {y : Nat} (hy : y < 133) (hth : am_th y = false) {as : List Value} {h : AH} {Q' : AQ} {ad : Nat → Nat} {sz : Nat} (hT : am_T sa1 sa2 dC dI dA l y 0 (am_ent (am_ml y) as) [] h 0 0 Q') (hwf : am_wf h) (hvs : ∀ v ∈ as, am_vok h v) (had : ad 1000001 = sa1 ∧ ad 1000002 = sa2) (hlen : as.length ≤ am_ml y) (hcat : ∀ v ∈ as, v.category = 1) (hst : l.stackTraces = false) :
    Met l (am_y y) (am_ws y) (am_rm y) (am_Pc sa1 sa2 dC dI dA ad h as sz) (am_Qc dC dI dA ad h sz y Q') (am_bc y) (am_bs y) (va_A (am_w dA ad h) sz) := by
  obtain ⟨-, -, -, -, -, -, hpl⟩ := am_pP hy
  refine am_ofB (hh := am_hh y) hpl List.mem_cons_self (fun p e s m args below meth c s₁ B hml htab hP => ?_)
  refine am_body hy hT hwf hvs had hlen hcat hst B hml htab hP (Qf := MQ below (am_Qc dC dI dA ad h sz y Q') args s (am_bc y) (am_bs y) (va_A (am_w dA ad h) sz)) ⟨fun v h1 ad1 H1 locs1 ls1 pc1 q hW hag hle hX hv hd => am_Ec (Nat.lt_succ_of_lt hy) hP.2.1 B.exec B.bytes B.returns B.notSynchronized q hW hag hle hX hv hd, fun q h1 ad1 H1 locs1 ls1 pc1 c1 s1 st1 hq hW hag hle hX hthr => ?_⟩
  obtain ⟨e9, -, h2, h3, -, -⟩ := am_thr_th hthr
  unfold am_thrC at h2
  simp only [Bool.and_eq_true, h3] at h2
  have h4 : am_th y = true := h2.1.1.1.1.1.1.1.2
  rw [hth] at h4
  cases h4
theorem am_xw {q : Nat × Nat} (hm : q ∈ am_xL) {args : Array Value} {s : State} (hts : ∀ w ∈ am_WS, w.before args s = true) (hnw : ∀ w ∈ am_NW, va_Nw w s) : (Cond.initialized (am_cpn q.1)).before args s = true ∧ (∀ w ∈ vx_atS RX9 q.2 (am_cpn q.1) am_xn, w.before args s = true) ∧ ∀ w ∈ Cond.initialized (am_cpn q.1) :: vx_atS RX9 q.2 (am_cpn q.1) am_xn, vx_ot w = true := by
  have h1 := List.all_eq_true.mp am_x_ok q hm
  unfold am_xB at h1
  have h2 : ∀ w ∈ Cond.initialized (am_cpn q.1) :: vx_atS RX9 q.2 (am_cpn q.1) am_xn, w.before args s = true ∧ vx_ot w = true := by
    intro w hw
    have h3 := List.all_eq_true.mp h1 w hw
    simp only [Bool.and_eq_true, decide_eq_true_eq, Bool.or_eq_true] at h3
    obtain ⟨⟨h4, h5⟩, h6⟩ := h3
    refine ⟨?_, h6⟩
    rcases h5 with h5 | h5
    · exact hts w (List.mem_filter.mpr ⟨h4, h5⟩)
    · exact va_Nw.use (am_nw_tab h5) (hnw w (List.mem_filter.mpr ⟨h4, h5⟩))
  exact ⟨(h2 _ List.mem_cons_self).1, fun w hw => (h2 w (List.mem_cons_of_mem _ hw)).1, fun w hw => (h2 w hw).2⟩
theorem am_fit {x : Nat} (hx : x < 3) : Bundle.fit (am_cpn (100 + x)) = true := by
  have h : x = 0 ∨ x = 1 ∨ x = 2 := by omega
  rcases h with rfl | rfl | rfl <;> decide +kernel
theorem am_fitn : ∀ n ∈ am_xn, Bundle.fit n = true := by decide +kernel
theorem am_Ext {y : Nat} {h : AH} {Q' : AQ} {ad : Nat → Nat} {sz : Nat} {p : Program} {e : Env} {s : State} {m : MethodId} {args : Array Value} {below : List Frame} {meth : Method} {c : Code} {Qc : Array Value → State → Outcome → State → Prop} (hx : p.tables.exec = Jvm.exec) (hb : c.code = am_cc y) (hml : c.maxLocals = am_ml y) (hlk : meth.locks = false) (htab : c.exceptionTable.toList = tableOf (am_hh y)) (hst : l.stackTraces = false) (hown : s.vm.findClass (am_R (am_oc y)) = some m.cls) (hts : ∀ w ∈ am_WS, w.before args s = true) (hgs : am_gs sa1 sa2 (va_A (am_w dA ad h) sz) s s.heap)
    {q : Nat × Nat × Nat × Nat × Nat × String} {h1 : AH} {ad1 : Nat → Nat} {H1 : Heap} {locs1 : List Loc} {ls1 : Array Slot} {pc1 c1 s1 : Nat} {st1 : List Value} (hq : Q' (.inr q.1) h1) (hW : am_Wd dC dI dA ad1 h1 (va_A (am_w dA ad h) sz) s H1 locs1) (hag : am_ag (hn h) ad ad1) (hle : hn h ≤ hn h1) (hX1 : hX h1 = hX h) (hthr : am_thx y pc1 = some q) (hls : ls1.size = am_ml y) (hcat : am_cats st1 ≤ 8) (hc : c1 + 1 ≤ am_bc y) (hs : s1 + 6 ≤ am_bs y) :
    W p l e (am_rm y) s m args below meth c H1 locs1 c1 s1 (vx_MQ below Qc (am_XC dC dI dA ad h sz Q') args s (am_bc y) (am_bs y) (va_A (am_w dA ad h) sz)) (F0 m pc1 ls1 (st1.map (am_cv ad1))) := by
  obtain ⟨⟨key, x, ik, is, ic, wd, tx⟩, hm, h2, h3, h4, h5⟩ := am_thr_th hthr
  subst h5
  dsimp only at h3 h4 hq
  have hxL := of_decide_eq_true (List.all_eq_true.mp am_x_in _ hm)
  unfold am_thrC at h2
  simp only [Bool.and_eq_true, h3, h4, decide_eq_true_eq] at h2
  obtain ⟨⟨⟨⟨⟨⟨⟨⟨⟨⟨⟨d0, d3⟩, dw⟩, hoc⟩, -⟩, hhe⟩, hF6⟩, hL90⟩, -⟩, hx3⟩, hik⟩, hcp⟩ := h2
  have hoc : am_oc y = 9 := Nat.eq_of_beq_eq_true hoc
  have hx3 := Nat.blt_eq.mp hx3
  have hF6 := Nat.le_of_ble_eq_true hF6
  have hL90 := Nat.le_of_ble_eq_true hL90
  obtain ⟨hU, hN, hS3, -, -, -, -, -, hnw, -⟩ := hgs
  obtain ⟨sa, hstr⟩ := hS3 _ hm
  obtain ⟨hini, hat, hgood⟩ := am_xw hxL hts hnw
  have hlk0 : am_in (.classLink (am_R (am_oc y)) ik (am_cpn (100 + x))) := am_cpcP hik (by rw [hoc]; exact hcp)
  rw [hoc] at hown hlk0
  have hout : ∀ z ∈ c.exceptionTable.toList, covers z (pc1 + 9) = false := by
    rw [htab, List.isEmpty_iff.mp hhe]
    intro z hz
    exact absurd hz List.not_mem_nil
  have hout2 : ∀ z ∈ c.exceptionTable.toList, covers z (pc1 + 10) = false := by
    rw [htab, List.isEmpty_iff.mp hhe]
    intro z hz
    exact absurd hz List.not_mem_nil
  have hcat2 : ((st1.map (am_cv ad1)).map fun v => v.category).sum ≤ 8 := by
    have e : ∀ l : List Value, ((l.map (am_cv ad1)).map fun v => v.category).sum = am_cats l := by
      intro l
      induction l with
      | nil => rfl
      | cons v l ih =>
        rw [List.map_cons, List.map_cons, List.sum_cons, ih, am_cv_cat]
        rfl
    rw [e]
    exact hcat
  have hXC : ∀ t : State, s.vm.Alike t.vm → H1.size ≤ t.heap.size → (∀ q : Nat, q < H1.size → t.heap[q]? = H1[q]?) → am_XC dC dI dA ad h sz Q' (am_cpn (100 + x)) s t := by
    intro t _ hz hk
    exact ⟨x, h1, ad1, rfl, hx3, hq, ⟨hag, hle, hX1, hW.1.kept (fun k q hq => hk _ ((hW.1 k q hq).lt)), hW.2.1, hW.2.2.2⟩, Nat.le_trans hW.2.2.1.1 hz, fun a ha hna => (hk a (Nat.lt_of_lt_of_le ha hW.2.2.1.1)).trans (hW.2.2.1.2.1 a ha hna)⟩
  have hgood2 : ∀ w ∈ Cond.classLink RX9 ik (am_cpn (100 + x)) :: Cond.initialized (am_cpn (100 + x)) :: vx_atS RX9 ic (am_cpn (100 + x)) am_xn, vx_ot w = true := by
    intro w hw
    rcases List.mem_cons.mp hw with rfl | hw
    · rfl
    · exact hgood w hw
  split at dw
  · simp only [Bool.and_eq_true, decide_eq_true_eq] at dw
    exact vx_throwS (cls := am_cpn (100 + x)) (text := tx) (names := am_xn) (sa := sa) hx hb hst hown (am_fit hx3) am_fitn (hts _ hlk0) hini hstr hat hgood2 hU hN hW.2.2.1 (hls.trans hml.symm) d0 d3 dw.1.1 dw.1.2 dw.2 hout (show am_xn.length + 3 < am_nF y by show 2 + 3 < am_nF y; omega) (show _ + (13 * (am_xn.length + 1) + 43) ≤ am_nL y by show _ + (13 * (2 + 1) + 43) ≤ am_nL y; omega) hc hs hlk hXC hW.2.2.1.2.2 hc hs
  · simp only [Bool.and_eq_true, decide_eq_true_eq] at dw
    exact vx_throwSW (cls := am_cpn (100 + x)) (text := tx) (names := am_xn) (sa := sa) hx hb hst hown (am_fit hx3) am_fitn (hts _ hlk0) hini hstr hat hgood2 hU hN hW.2.2.1 (hls.trans hml.symm) d0 d3 dw.1.1 dw.1.2 dw.2 hout2 (show am_xn.length + 3 < am_nF y by show 2 + 3 < am_nF y; omega) (show _ + (13 * (am_xn.length + 1) + 43) ≤ am_nL y by show _ + (13 * (2 + 1) + 43) ≤ am_nL y; omega) hc hs hlk hXC hW.2.2.1.2.2 hc hs
theorem am_metx {y : Nat} (hy : y < 133) {as : List Value} {h : AH} {Q' : AQ} {ad : Nat → Nat} {sz : Nat} (hT : am_T sa1 sa2 dC dI dA l y 0 (am_ent (am_ml y) as) [] h 0 0 Q') (hwf : am_wf h) (hvs : ∀ v ∈ as, am_vok h v) (had : ad 1000001 = sa1 ∧ ad 1000002 = sa2) (hlen : as.length ≤ am_ml y) (hcat : ∀ v ∈ as, v.category = 1) (hst : l.stackTraces = false) :
    vx_Met l (am_y y) (am_ws y) (am_rm y) (am_Pc sa1 sa2 dC dI dA ad h as sz) (am_Qc dC dI dA ad h sz y Q') (am_XC dC dI dA ad h sz Q') (am_bc y) (am_bs y) (va_A (am_w dA ad h) sz) := by
  obtain ⟨-, -, -, hcls, -, -, hpl⟩ := am_pP hy
  refine am_ofB (hh := am_hh y) hpl List.mem_cons_self (fun p e s m args below meth c s₁ B hml htab hP => ?_)
  have hP2 := hP
  obtain ⟨rfl, hsz, -, -, -, hgs, -⟩ := hP2
  have hts : ∀ w ∈ am_WS, w.before (as.map (am_cv ad)).toArray s = true := fun w hw => atoms_spec (ws := am_ws y) B.pre w (List.mem_cons_of_mem _ hw)
  have hown : s.vm.findClass (am_R (am_oc y)) = some m.cls := hcls ▸ findClass_of_methodNamed B.named
  exact am_body hy hT hwf hvs had hlen hcat hst B hml htab hP (Qf := vx_MQ below (am_Qc dC dI dA ad h sz y Q') (am_XC dC dI dA ad h sz Q') (as.map (am_cv ad)).toArray s (am_bc y) (am_bs y) (va_A (am_w dA ad h) sz)) ⟨fun v h1 ad1 H1 locs1 ls1 pc1 q hW hag hle hX hv hd => vx_ret (am_Ec (Nat.lt_succ_of_lt hy) hsz B.exec B.bytes B.returns B.notSynchronized q hW hag hle hX hv hd), fun q h1 ad1 H1 locs1 ls1 pc1 c1 s1 st1 hq hW hag hle hX hthr hls hcat2 hc hs => am_Ext B.exec B.bytes hml B.notSynchronized htab hst hown hts hgs hq hW hag hle hX hthr hls hcat2 hc hs⟩
end AMB
