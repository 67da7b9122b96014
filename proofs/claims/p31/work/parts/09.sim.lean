/-! own: the numbered machine on the real one: what is carried, and from where to where -/
def am_AOA (U : State) : Prop := (Cond.arrayOver (.array .int)).before #[] U = true
theorem am_AOA_moved {u U : State} (hvm : u.vm.Alike U.vm) (h : am_AOA u) : am_AOA U := by
  obtain ⟨comp, c, k, h1, h2, h3, h4, h5⟩ := arrayOverA_spec h
  obtain ⟨k', hk', he⟩ := hvm.2.2 _ _ h3
  have hi : (U.vm.classes.findIdx? fun (x : Class) => match x.kind with | .array component _ => component == comp | _ => false) = some c := by
    have hb : U.vm.bare = u.vm.bare := by first | exact hvm.bare_eq | exact hvm.bare_eq.symm
    have q1 := va_idx_bare U.vm comp
    have q2 := va_idx_bare u.vm comp
    rw [hb] at q1
    exact q1.symm.trans (q2.trans h2)
  have hkind : k'.kind = .array comp (.array .int) := by rw [he]; exact h4
  have f1 : U.vm.findClass (FieldType.array .int).toString = some comp := by rw [hvm.findClass]; exact h1
  have f2 : U.vm.findClass ("[" ++ (FieldType.array .int).toString) = some c := by rw [hvm.findClass]; exact h5
  unfold am_AOA Cond.before Cond.holds
  simp only [Cond.value]
  rw [f1, Option.bind_some]
  refine (congrArg (fun o : Option Nat => (o.bind (fun c => (U.vm.classes[c]?).map fun (k : Class) => match k.kind with | .array _ ty => decide (ty = FieldType.array .int) && decide (U.vm.findClass ("[" ++ (FieldType.array .int).toString) = some c) | _ => false) == some true)) hi).trans ?_
  simp [hk', hkind, f2]
/-- what stays beside the worlds: statics of the JDK's, texts, words that the kit's good ones are not -/
def am_gs (sa1 sa2 : Nat) (A : Nat → Prop) (U : State) (H : Heap) : Prop :=
  vx_Zq Bundle.tN "UNASSIGNED_STACK" Bundle.steD A U H ∧ vx_Zq Bundle.tN "SUPPRESSED_SENTINEL" Bundle.listD A U H ∧
  (∀ e ∈ am_thrL, ∃ sa, vk_R RX9 e.2.2.2.1 e.2.2.2.2.2.2 sa U) ∧ (∀ kd, 30 ≤ kd → kd ≤ 33 → va_AO (am_cpn kd) U) ∧ am_AOA U ∧
  vk_S 1 [8] [[43, 45, 42, 47, 40, 41, 44, 46]] (fun _ => sa1) (fun _ => sa2) A U H ∧ vk_R RX1 19 "+-*/(),." sa1 U ∧ va_Z "java/lang/String" "COMPACT_STRINGS" "Z" (.int 1) A U H ∧ (∀ w ∈ am_NW, va_Nw w U) ∧ ∀ x y, x < 2 → y = 2 → va_Nc (am_cpn (100 + x)) (am_cpn (100 + y)) U
theorem am_gs_step {sa1 sa2 : Nat} {A B : Nat → Prop} {s U : State} {H H1 : Heap} (hW : s.WarmedH U.vm) (h : am_gs sa1 sa2 A s H) (hq : ∀ a : Nat, a < H.size → ¬ A a → H1[a]? = H[a]?) (hAB : ∀ q, B q → A q) : am_gs sa1 sa2 B U H1 := by
  obtain ⟨h1, h2, h3, h4, h5, h6, h7, h8, h9, h10⟩ := h
  refine ⟨((h1.kept hq).narrow hAB).moved hW.alike, ((h2.kept hq).narrow hAB).moved hW.alike, fun e he => ?_, fun kd k1 k2 => (h4 kd k1 k2).moved hW.alike, am_AOA_moved hW.alike h5, ((h6.kept hq).narrow hAB).moved hW.alike, h7.warm hW, ((h8.kept hq).narrow hAB).moved hW.alike, fun w hw => am_nw_warm (List.mem_filter.mp hw).2 hW (h9 w hw), fun x y q1 q2 => (h10 x y q1 q2).moved hW.alike⟩
  obtain ⟨sa, hz⟩ := h3 e he
  exact ⟨sa, hz.warm hW⟩
def am_C (sa1 sa2 : Nat) (dC : Nat → ClassId) (dI : Nat → Nat → Nat) (dA : Nat → ClassId) (l : Launch) (k : Nat) (p : Program) (R : Room) (s : State) (m : MethodId) (args : Array Value) (meth : Method) (cd : Code) (A : Nat → Prop) : Prop :=
  p.tables.exec = Jvm.exec ∧ cd.code = am_cc k ∧ cd.maxLocals = am_ml k ∧ s.vm.findClass (am_R (am_oc k)) = some m.cls ∧ (∀ w ∈ am_WS, w.before args s = true) ∧ meth.sig.returnType = am_rt k ∧ meth.locks = false ∧ cd.exceptionTable.toList = tableOf (am_hh k) ∧ meth.name = (am_y k).name ∧
  (am_nF k ≤ R.frames ∧ am_nL k ≤ R.locals ∧ am_bc k ≤ R.cells ∧ am_bs k ≤ R.slots) ∧ l.stackTraces = false ∧ va_K (dC, dI) vwCl (am_tys dA) s ∧ (∀ q, s.heap.size ≤ q → A q) ∧ am_gs sa1 sa2 A s s.heap
def am_Wd (dC : Nat → ClassId) (dI : Nat → Nat → Nat) (dA : Nat → ClassId) (ad : Nat → Nat) (h : AH) (A : Nat → Prop) (s : State) (H : Heap) (locs : List Loc) : Prop :=
  va_P (dC, dI) vwCl (am_w dA ad h) H ∧ va_D A (am_w dA ad h) ∧ va_S A s.heap H locs ∧ am_wf h
/-- the record that the walk is at: the world, the locals, the stack -/
def am_St (dC : Nat → ClassId) (dI : Nat → Nat → Nat) (dA : Nat → ClassId) (k : Nat) (A : Nat → Prop) (s : State) (ad0 : Nat → Nat) (n0 : Nat) (X0 : Nat × (Nat → Int32)) (ad : Nat → Nat) (H : Heap) (locs : List Loc) (ls : Array Slot) (L : List (Option Value)) (st : List Value) (h : AH) (c s' : Nat) : Prop :=
  am_Wd dC dI dA ad h A s H locs ∧ am_lv ls (am_ml k) L ad ∧ (∀ v ∈ st, am_vok h v) ∧ (∀ i v, am_nth L i = some v → am_vok h v) ∧ am_ag n0 ad0 ad ∧ n0 ≤ hn h ∧ hX h = X0 ∧ c ≤ am_bc k ∧ s' ≤ am_bs k
def am_ri (k : Nat) : Instr := match am_rc k with
  | 0 => .return_
  | 1 => .ireturn
  | 2 => .lreturn
  | _ => .freturn
def am_rv (k : Nat) (v : Option Value) : Prop := match am_rc k with
  | 0 => v = none
  | 1 => ∃ x : Int32, v = some (.int x) ∧ am_b01 (am_rz k) x
  | 2 => ∃ x : Int64, v = some (.long x)
  | _ => ∃ x : UInt32, v = some (.float x)
/-- what the ends owe: at a return, at a throw -/
def am_E (dC : Nat → ClassId) (dI : Nat → Nat → Nat) (dA : Nat → ClassId) (l : Launch) (k : Nat) (p : Program) (e : Env) (R : Room) (s : State) (m : MethodId) (args : Array Value) (below : List Frame) (meth : Method) (cd : Code) (A : Nat → Prop) (ad0 : Nat → Nat) (n0 : Nat) (X0 : Nat × (Nat → Int32)) (Q : AQ) (Qf : State → Prop) : Prop :=
  (∀ (v : Option Value) (h1 : AH) (ad1 : Nat → Nat) (H1 : Heap) (locs1 : List Loc) (ls1 : Array Slot) (pc1 : Nat), Q (.inl v) h1 → am_Wd dC dI dA ad1 h1 A s H1 locs1 → am_ag n0 ad0 ad1 → n0 ≤ hn h1 → hX h1 = X0 → am_rv k v → decode (am_cc k) pc1 = .ok (am_ri k, 1) →
    W p l e R s m args below meth cd H1 locs1 (am_bc k) (am_bs k) Qf (F0 m pc1 ls1 v.toList)) ∧
  (∀ (q : Nat × Nat × Nat × Nat × Nat × String) (h1 : AH) (ad1 : Nat → Nat) (H1 : Heap) (locs1 : List Loc) (ls1 : Array Slot) (pc1 c1 s1 : Nat) (st1 : List Value), Q (.inr q.1) h1 → am_Wd dC dI dA ad1 h1 A s H1 locs1 → am_ag n0 ad0 ad1 → n0 ≤ hn h1 → hX h1 = X0 → am_thx k pc1 = some q → ls1.size = am_ml k → am_cats st1 ≤ 8 → c1 + 1 ≤ am_bc k → s1 + 6 ≤ am_bs k →
    W p l e R s m args below meth cd H1 locs1 c1 s1 Qf (F0 m pc1 ls1 (st1.map (am_cv ad1))))
def am_Fr (sa1 sa2 : Nat) (dC : Nat → ClassId) (dI : Nat → Nat → Nat) (dA : Nat → ClassId) (l : Launch) (k : Nat) (p : Program) (e : Env) (R : Room) (s : State) (m : MethodId) (args : Array Value) (below : List Frame) (meth : Method) (cd : Code) (A : Nat → Prop) (ad0 : Nat → Nat) (n0 : Nat) (X0 : Nat × (Nat → Int32)) (Q : AQ) (Qf : State → Prop) : Prop :=
  am_C sa1 sa2 dC dI dA l k p R s m args meth cd A ∧ (ad0 1000001 = sa1 ∧ ad0 1000002 = sa2) ∧ (va_X (ad0 1000000) X0.1 X0.2 s s.heap ∧ ad0 1000000 < s.heap.size ∧ ¬ A (ad0 1000000)) ∧ am_E dC dI dA l k p e R s m args below meth cd A ad0 n0 X0 Q Qf
def am_T (sa1 sa2 : Nat) (dC : Nat → ClassId) (dI : Nat → Nat → Nat) (dA : Nat → ClassId) (l : Launch) : AP := fun k pc L st h c s' Q =>
  ∀ (p : Program) (e : Env) (R : Room) (s : State) (m : MethodId) (args : Array Value) (below : List Frame) (meth : Method) (cd : Code) (A : Nat → Prop) (ad0 : Nat → Nat) (n0 : Nat) (X0 : Nat × (Nat → Int32)) (Qf : State → Prop), am_Fr sa1 sa2 dC dI dA l k p e R s m args below meth cd A ad0 n0 X0 Q Qf →
    ∀ (ad : Nat → Nat) (H : Heap) (locs : List Loc) (ls : Array Slot), am_St dC dI dA k A s ad0 n0 X0 ad H locs ls L st h c s' → W p l e R s m args below meth cd H locs c s' Qf (F0 m pc ls (st.map (am_cv ad)))
theorem am_vok_cons {h : AH} {v : Value} {st : List Value} (h1 : am_vok h v) (h2 : ∀ w ∈ st, am_vok h w) : ∀ w ∈ v :: st, am_vok h w := fun w hw => (List.mem_cons.mp hw).elim (fun e => e ▸ h1) (h2 w)
theorem am_vok_tl {h : AH} {v : Value} {st : List Value} (h2 : ∀ w ∈ v :: st, am_vok h w) : ∀ w ∈ st, am_vok h w := fun w hw => h2 w (List.mem_cons_of_mem _ hw)
theorem am_set_vok {h : AH} {L : List (Option Value)} {i : Nat} {x : Option Value} (h1 : ∀ v, x = some v → am_vok h v) (h2 : ∀ i v, am_nth L i = some v → am_vok h v) : ∀ j v, am_nth (am_set L i x) j = some v → am_vok h v := by
  intro j v hv
  rcases am_nth_set hv with ⟨rfl, e⟩ | ⟨_, hw⟩ | ⟨hw, _⟩
  · exact h1 v e
  · exact h2 j v hw
  · exact h2 j v hw
/-- the class's facts, by its number -/
theorem am_class {c : Nat} (hc : c < 10) : vwCl[c]? = some (am_R c, am_TX c, am_nf c) ∧ (∀ w ∈ u_ws (am_R c) (am_TX c) (am_nf c), w ∈ am_WS) ∧ (∀ k, k < am_nf c → parseFieldDescriptor (am_TX c k).2.2.1 = some (am_tyX c k)) ∧ (∀ a, a < am_nf c → ∀ b, b < am_nf c → a ≠ b → (am_TX c a).2.1 ≠ (am_TX c b).2.1) := by
  have hw : ∀ w ∈ u_ws (am_R c) (am_TX c) (am_nf c), w ∈ am_WS := by
    have h1 := List.all_eq_true.mp am_cls_ok c (List.mem_range.mpr hc)
    intro w hw
    have h2 := List.all_eq_true.mp h1 w hw
    simp only [Bool.and_eq_true, decide_eq_true_eq] at h2
    exact List.mem_filter.mpr h2
  have h : c = 0 ∨ c = 1 ∨ c = 2 ∨ c = 3 ∨ c = 4 ∨ c = 5 ∨ c = 6 ∨ c = 7 ∨ c = 8 ∨ c = 9 := by omega
  rcases h with rfl | rfl | rfl | rfl | rfl | rfl | rfl | rfl | rfl | rfl
  · exact ⟨rfl, hw, tyX0_ok, nmX0⟩
  · exact ⟨rfl, hw, tyX1_ok, nmX1⟩
  · exact ⟨rfl, hw, tyX2_ok, nmX2⟩
  · exact ⟨rfl, hw, tyX3_ok, nmX3⟩
  · exact ⟨rfl, hw, tyX4_ok, nmX4⟩
  · exact ⟨rfl, hw, tyX5_ok, nmX5⟩
  · exact ⟨rfl, hw, tyX6_ok, nmX6⟩
  · exact ⟨rfl, hw, tyX7_ok, nmX7⟩
  · exact ⟨rfl, hw, tyX8_ok, nmX8⟩
  · exact ⟨rfl, hw, tyX9_ok, nmX9⟩
theorem am_tyF {c b : Nat} (hc : c < 10) (hb : b < am_nf c) : defaultValue (am_tyX c b) = am_dv (am_ft c b) ∧ (am_ft c b = 0 → (am_fz c b = 1 ∧ am_tyX c b = .boolean) ∨ (am_fz c b ≠ 1 ∧ am_tyX c b = .int)) ∧ (am_ft c b = 1 → am_tyX c b = .long) ∧ (am_ft c b = 2 → am_tyX c b = .float) ∧ (am_ft c b ≠ 0 → am_ft c b ≠ 1 → am_ft c b ≠ 2 → ∀ q, fits (am_tyX c b) (.ref q) = true ∧ narrow (am_tyX c b) (.ref q) = .ref q) := by
  have h1 := List.all_eq_true.mp (List.all_eq_true.mp am_ty_ok c (List.mem_range.mpr hc)) b (List.mem_range.mpr hb)
  simp only [Bool.and_eq_true, decide_eq_true_eq] at h1
  obtain ⟨h1, h2⟩ := h1
  refine ⟨h1, fun h => ?_, fun h => ?_, fun h => ?_, fun n0 n1 n2 q => ?_⟩
  · rw [h] at h2
    have h2 : (if Nat.beq (am_fz c b) 1 then decide (am_tyX c b = .boolean) else decide (am_tyX c b = .int)) = true := h2
    split at h2
    · rename_i hz
      exact Or.inl ⟨Nat.eq_of_beq_eq_true hz, of_decide_eq_true h2⟩
    · rename_i hz
      exact Or.inr ⟨fun e => hz (by rw [e]; rfl), of_decide_eq_true h2⟩
  · rw [h] at h2
    exact of_decide_eq_true h2
  · rw [h] at h2
    exact of_decide_eq_true h2
  · split at h2
    · contradiction
    · contradiction
    · contradiction
    · split at h2
      · rename_i e
        rw [e]
        exact ⟨rfl, rfl⟩
      · rename_i e
        rw [e]
        exact ⟨rfl, rfl⟩
      · exact absurd h2 Bool.false_ne_true
theorem am_ty_at (dA : Nat → ClassId) {kd : Nat} (h : kd ∈ am_tysK) : ∃ t0 : Nat, (am_tys dA)[t0]? = some (dA kd, am_aty kd) := by
  obtain ⟨i, hi⟩ := List.getElem?_of_mem h
  exact ⟨i, by simp [am_tys, List.getElem?_map, hi]⟩
/-- the class of a row is told by its kind -/
theorem am_cA {D : va_G} {cl : List vw_C} {tys : List (ClassId × FieldType)} {dA : Nat → ClassId} {cA : ClassId} {kd : Nat} {s : State} (h : kd ∈ am_tysK) (hK : va_K D cl (am_tys dA) s) (hK2 : va_K D cl (tys ++ [(cA, am_aty kd)]) s) : cA = dA kd := by
  obtain ⟨t0, ht⟩ := am_ty_at dA h
  have a1 := (hK.2 t0 _ ht).2
  have a2 := (hK2.2 tys.length (cA, am_aty kd) (by rw [List.getElem?_append_right (Nat.le_refl _), Nat.sub_self]; rfl)).2
  have nm : ∀ (c : ClassId) (ty : FieldType), va_RA s c ty → s.vm.findClass ("[" ++ ty.toString) = some c := by
    intro c ty hh
    cases ty with
    | object C => obtain ⟨_, _, _, _, _, h4⟩ := hh; exact h4
    | _ => exact hh
  exact Option.some.inj ((nm _ _ a2).symm.trans (nm _ _ a1))
