/-! own: the start, on the real machine -/
def am_h0 (L : Nat) (xs : Nat → Int32) : AH := (0, fun _ => 0, fun _ => 0, fun _ _ => 0, fun _ _ => 0, fun _ _ => 0, fun _ _ => none, (L, xs))
def am_Q1 : AQ := fun r _ => r = .inl (some (.int 1))
def am_fl : List Jvm.Cond := flatC (Jvm.Cond.and given_1 narrow_1)
section AMST
variable {s : State} {args : Array Value}
theorem am_s_class (hts : ∀ w ∈ lw_tbl, w.before args s = true) : ∃ (dC : Nat → ClassId) (dI : Nat → Nat → Nat), ∀ c, c < 10 → u_Kn s (am_R c) (am_TX c) (am_nf c) (dC c) (dI c) := by
  have hts2 : ∀ w ∈ am_WS, w.before args s = true := fun w hw => hts w (List.mem_filter.mp hw).1
  have h : ∀ c : Nat, ∃ q : ClassId × (Nat → Nat), c < 10 → u_Kn s (am_R c) (am_TX c) (am_nf c) q.1 q.2 := by
    intro c
    by_cases hc : c < 10
    · obtain ⟨cC, iS, h⟩ := u_known (C := am_R c) (T := am_TX c) (N := am_nf c) (n := am_nf c) hts2 (am_class hc).2.1 (hts2 _ (am_inst hc).1)
      exact ⟨(cC, iS), fun _ => h⟩
    · exact ⟨(0, fun _ => 0), fun q => absurd q hc⟩
  obtain ⟨f, hf⟩ := Classical.axiomOfChoice h
  exact ⟨fun c => (f c).1, fun c => (f c).2, hf⟩
theorem am_s_arrO {C : String} (h : (Jvm.Cond.arrayOver (.object C)).before args s = true) : ∃ cA, ArrOfT s cA (.object C) ∧ va_RA s cA (.object C) := by
  obtain ⟨comp, c, k, h1, -, h3, h4, h5⟩ := Cond.arrayOver_spec h
  exact ⟨c, fun N z => ⟨(fun k h => by cases h), k, h3, comp, h4⟩, k, comp, h3, h4, h1, h5⟩
theorem am_s_arrA (h : (Jvm.Cond.arrayOver (.array .int)).before args s = true) : ∃ cA, ArrOfT s cA (.array .int) ∧ va_RA s cA (.array .int) := by
  obtain ⟨comp, c, k, h1, -, h3, h4, h5⟩ := arrayOverA_spec h
  exact ⟨c, fun N z => ⟨(fun k h => by cases h), k, h3, comp, h4⟩, h5⟩
theorem am_s_arrP {ty : FieldType} (hty : ty = .int ∨ ty = .long ∨ ty = .float ∨ ty = .boolean ∨ ty = .char) (h : (Jvm.Cond.arrayClass ty).before args s = true) : ∃ cA, ArrOfT s cA ty ∧ va_RA s cA ty := by
  obtain ⟨c, k, comp, f1, f2, f3⟩ := Cond.arrayClass_spec h
  refine ⟨c, fun N z => ⟨(fun k h => by cases h), k, f2, comp, f3⟩, ?_⟩
  rcases hty with rfl | rfl | rfl | rfl | rfl <;> exact f1
theorem am_s_arr (hts : ∀ w ∈ lw_tbl, w.before args s = true) : ∃ dA : Nat → ClassId, ∀ kd ∈ am_tysK, ArrOfT s (dA kd) (am_aty kd) ∧ va_RA s (dA kd) (am_aty kd) := by
  have hts2 : ∀ w, am_in w → w.before args s = true := fun w hw => hts w (List.mem_filter.mp hw).1
  have h : ∀ kd : Nat, ∃ cA : ClassId, kd ∈ am_tysK → ArrOfT s cA (am_aty kd) ∧ va_RA s cA (am_aty kd) := by
    intro kd
    by_cases hk : kd ∈ am_tysK
    · have h2 : kd = 20 ∨ kd = 22 ∨ kd = 24 ∨ kd = 30 ∨ kd = 31 ∨ kd = 32 ∨ kd = 33 ∨ kd = 34 := by
        simpa [am_tysK] using hk
      rcases h2 with rfl | rfl | rfl | rfl | rfl | rfl | rfl | rfl
      · obtain ⟨c, hc⟩ := am_s_arrP (ty := .int) (by simp) (hts2 _ (am_arrc (by simp)))
        exact ⟨c, fun _ => hc⟩
      · obtain ⟨c, hc⟩ := am_s_arrP (ty := .float) (by simp) (hts2 _ (am_arrc (by simp)))
        exact ⟨c, fun _ => hc⟩
      · obtain ⟨c, hc⟩ := am_s_arrP (ty := .char) (by simp) (hts2 _ (am_arrc (by simp)))
        exact ⟨c, fun _ => hc⟩
      · obtain ⟨c, hc⟩ := am_s_arrO (C := RX8) (hts _ (by decide +kernel))
        exact ⟨c, fun _ => hc⟩
      · obtain ⟨c, hc⟩ := am_s_arrO (C := RX5) (hts _ (by decide +kernel))
        exact ⟨c, fun _ => hc⟩
      · obtain ⟨c, hc⟩ := am_s_arrO (C := RX0) (hts _ (by decide +kernel))
        exact ⟨c, fun _ => hc⟩
      · obtain ⟨c, hc⟩ := am_s_arrO (C := RX7) (hts _ (by decide +kernel))
        exact ⟨c, fun _ => hc⟩
      · obtain ⟨c, hc⟩ := am_s_arrA (hts _ (by decide +kernel))
        exact ⟨c, fun _ => hc⟩
    · exact ⟨0, fun q => absurd q hk⟩
  exact Classical.axiomOfChoice h
def am_thrS (e : Nat × Nat × Nat × Nat × Nat × Nat × String) : Bool := decide (Cond.stringRef RX9 e.2.2.2.1 e.2.2.2.2.2.2 ∈ lw_tbl) && decide (Cond.exactly (.string RX9 e.2.2.2.1) "java/lang/String" ∈ am_fl)
theorem am_thrS_ok : am_thrL.all am_thrS = true := by decide +kernel
def am_ncL : List (Nat × Nat) := [(0, 2), (1, 2)]
theorem am_nc_ok : am_ncL.all (fun q => decide (Cond.not (Cond.castable (am_cpn (100 + q.1)) (am_cpn (100 + q.2))) ∈ am_fl)) = true := by decide +kernel
def am_sv : Term := .field (.string RX1 19) "java/lang/String" "value" "[B"
theorem am_s_gs (hts : ∀ w ∈ lw_tbl, w.before args s = true) (hq : ∀ w ∈ am_fl, w.before args s = true) {A : Nat → Prop} (hA : ∀ a : Nat, a < s.heap.size → ¬ A a) : ∃ sa1 sa2, am_gs sa1 sa2 A s s.heap := by
  obtain ⟨adK, adV, hS, hev⟩ := vk_Sof (args := args) (s := s) (N := 1) (tm := fun _ => .string RX1 19) (len := [8]) (byt := [[43, 45, 42, 47, 40, 41, 44, 46]]) (A := A) (fun i hi => by
      have : i = 0 := by omega
      subst this
      decide) (fun i hi => hq _ (by decide +kernel)) (fun i hi => hq _ (by decide +kernel)) (fun i hi => hq _ (by decide +kernel)) (fun i hi => by
      have : i = 0 := by omega
      subst this
      exact hq _ (by decide +kernel)) (fun i hi j hj => by
      have : i = 0 := by omega
      subst this
      have hj : j < 8 := hj
      have h8 : j = 0 ∨ j = 1 ∨ j = 2 ∨ j = 3 ∨ j = 4 ∨ j = 5 ∨ j = 6 ∨ j = 7 := by omega
      rcases h8 with rfl | rfl | rfl | rfl | rfl | rfl | rfl | rfl <;> exact hq _ (by decide +kernel)) (fun i j hi hj hij => by omega) hA
  refine ⟨adK 0, adV 0, vx_Zqof (hts _ (by decide +kernel)) (hts _ (by decide +kernel)) (hq _ (by decide +kernel)) hA, vx_Zqof (hts _ (by decide +kernel)) (hts _ (by decide +kernel)) (hq _ (by decide +kernel)) hA, fun e he => ?_, fun kd k1 k2 => ?_, hts (.arrayOver (.array .int)) (by decide +kernel), ?_, vk_R.of (A := args) (hts _ (by decide +kernel)) (hev 0 (by decide)), va_Zof (hts _ (by decide +kernel)) (hts _ (by decide +kernel)) (va_eqi (hq _ (by decide +kernel))) hA, fun w hw => va_Nw.of (am_nw_tab (List.mem_filter.mp hw).2) (hts w (List.mem_filter.mp hw).1), fun x y hx hy => ?_⟩
  · have h1 := List.all_eq_true.mp am_thrS_ok e he
    unfold am_thrS at h1
    simp only [Bool.and_eq_true, decide_eq_true_eq] at h1
    obtain ⟨a, c, cA, kA, q1, -⟩ := Cond.exactly_spec (args := args) (first := s) (o := none) (s := s) (idx := []) (hq _ h1.2)
    exact ⟨a, vk_R.of (A := args) (hts _ h1.1) q1⟩
  · have h5 : kd = 30 ∨ kd = 31 ∨ kd = 32 ∨ kd = 33 := by omega
    rcases h5 with rfl | rfl | rfl | rfl
    · exact va_AO.of (A := args) (hts _ (by decide +kernel))
    · exact va_AO.of (A := args) (hts _ (by decide +kernel))
    · exact va_AO.of (A := args) (hts _ (by decide +kernel))
    · exact va_AO.of (A := args) (hts _ (by decide +kernel))
  · have e1 : (fun _ : Nat => adK 0) = fun _ => adK 0 := rfl
    refine ⟨fun i hi => ?_, fun i j hi hj _ => by omega⟩
    have h0 : i = 0 := by omega
    subst h0
    exact hS.1 0 hi
  · have hm : (x, y) ∈ am_ncL := by
      have h1 : x = 0 ∨ x = 1 := by omega
      subst hy
      rcases h1 with rfl | rfl <;> decide
    exact va_Nc.of (args := args) (hq _ (of_decide_eq_true (List.all_eq_true.mp am_nc_ok _ hm)))
end AMST
theorem am_thx_law (pc : Nat) (q : Nat × Nat × Nat × Nat × Nat × String) (h : am_thx mL_law pc = some q) : False := by
  obtain ⟨e, -, h2, h3, -, -⟩ := am_thr_th h
  unfold am_thrC at h2
  simp only [Bool.and_eq_true, h3] at h2
  have h4 : Nat.blt mL_law 133 = true := h2.1.1.1.2
  exact absurd h4 (by decide)
/-- the whole claim's walk, out of what the numbered machine does -/
theorem am_start {p : Program} {e : Env} {s : State} {m : MethodId} {below : List Frame} {meth : Method} {c : Code} (l : Launch) (hflags : l.flags = flags0) {b L : Nat} {xs : Nat → Int32} (htab : c.exceptionTable.toList = []) (hnm : meth.name = x.name) (C0 : lw_At p s m meth c b L xs) (hWP : WP mL_law 0 (am_ent 10 [.ref 1000000]) [] (am_h0 L xs) 0 0 am_Q1) : W p l e room_1 s m #[Value.ref b] below meth c s.heap [] 0 0 (lw_Z below #[Value.ref b] s) (entryFrame m ([Value.ref b] : List Value).toArray 10) := by
  obtain ⟨hx, hb, hr, hml, hown, hts, hX, hbl, hlk, hgv⟩ := C0
  have hq : ∀ w ∈ am_fl, w.before #[Value.ref b] s = true := flat_of_before _ hgv
  obtain ⟨dC, dI, hC⟩ := am_s_class hts
  obtain ⟨dA, hAr⟩ := am_s_arr hts
  obtain ⟨sa1, sa2, hgs⟩ := am_s_gs (A := fun q => s.heap.size ≤ q) hts hq (fun a h1 h2 => absurd h1 (Nat.not_lt.mpr h2))
  have hK : va_K (dC, dI) vwCl (am_tys dA) s := by
    refine ⟨fun c q hq => ?_, fun k q hq => ?_⟩
    · have hc : c < 10 := (List.getElem?_eq_some_iff.mp hq).1
      have h1 := (am_class hc).1
      rw [hq] at h1
      cases h1
      exact hC c hc
    · have hm := List.mem_of_getElem? hq
      obtain ⟨kd, hkd, rfl⟩ := List.mem_map.mp hm
      exact hAr kd hkd
  let ad0 : Nat → Nat := fun i => if i = 1000000 then b else if i = 1000001 then sa1 else if i = 1000002 then sa2 else 0
  have hl := lv_entry ([Value.ref b] : List Value) (n := 10) (by rw [am_lg_sl _ (fun v hv => by rw [List.mem_singleton.mp hv]; rfl)]; exact Nat.succ_le_succ (Nat.zero_le 9))
  rw [lg_entry_eq]
  generalize (lg_sl ([Value.ref b] : List Value) ++ List.replicate (10 - (lg_sl ([Value.ref b] : List Value)).length) Slot.unset).toArray = ls at hl ⊢
  have hd0 := Drawn.sameBut.refl s.drawn lw_cs
  refine am_sim (sa1 := sa1) (sa2 := sa2) (dC := dC) (dI := dI) (dA := dA) (l := l) hWP p e room_1 s m #[Value.ref b] below meth c (fun q => s.heap.size ≤ q) ad0 0 (L, xs) (lw_Z below #[Value.ref b] s) ⟨⟨hx, hb, hml, hown, fun w hw => hts w (List.mem_filter.mp hw).1, hr, hlk, htab, hnm, ?_, ?_, hK, fun q hq => hq, hgs⟩, ⟨rfl, rfl⟩, ⟨hX, hbl, Nat.not_le.mpr hbl⟩, ?_, ?_⟩ ad0 s.heap [] ls ⟨⟨?_, ?_, va_S.rf, ?_⟩, ⟨hl.1, hl.2.1, fun i v z => ?_⟩, fun v hv => absurd hv List.not_mem_nil, fun i v z => ?_, fun _ _ => rfl, Nat.le_refl _, rfl, Nat.zero_le _, Nat.zero_le _⟩
  · decide
  · show (!l.flags.contains noTraceFlag) = false
    rw [hflags]
    decide
  · intro v h1 ad1 H1 locs1 ls1 pc1 q hW hag hle hX1 hv hd
    cases q
    refine va_forget (fun q hq => hW.2.2.1.2.2 q hq) (W.widen (k := 600104) (n := 7301314) (by decide) (by decide) ?_)
    exact lw_ret (d0 := s.drawn) hd0 hx hb hr hlk hd
  · intro q h1 ad1 H1 locs1 ls1 pc1 c1 s1 st1 _ _ _ _ _ ht
    exact (am_thx_law pc1 q ht).elim
  · intro k q hq
    cases hq
  · exact ⟨fun i j p q hi => (by cases hi), fun k q hq => (by cases hq)⟩
  · exact ⟨Nat.zero_le _, fun o ho => absurd ho (Nat.not_lt_zero _), fun o j a ho => absurd ho (Nat.not_lt_zero _)⟩
  · have h1 := am_ent_at z
    cases i with
    | zero =>
      cases h1
      exact hl.2.2 _ (am_lv_args [Value.ref b] 0 (fun v hv => by rw [List.mem_singleton.mp hv]; rfl) 0 _ rfl)
    | succ i => simp at h1
  · have h1 := am_ent_at z
    cases i with
    | zero =>
      cases h1
      exact Or.inr (Nat.le_refl _)
    | succ i => simp at h1
