/-! own: three rows of ints and the row of them, on the real one -/
section AMM3
variable {sa1 sa2 : Nat} {dC : Nat → ClassId} {dI : Nat → Nat → Nat} {dA : Nat → ClassId} {l : Launch} {k pc a b : Nat} {L : List (Option Value)} {st : List Value} {h : AH} {c s' : Nat} {Q : AQ} {p : Program} {e : Env} {R : Room} {s : State} {m : MethodId} {args : Array Value} {below : List Frame} {meth : Method} {cd : Code} {A : Nat → Prop} {ad0 : Nat → Nat} {n0 : Nat} {X0 : Nat × (Nat → Int32)} {Qf : State → Prop} {ad : Nat → Nat} {H : Heap} {locs : List Loc} {ls : Array Slot}
def am_ad4 (ad : Nat → Nat) (n z : Nat) : Nat → Nat := fun i => if n ≤ i ∧ i < n + 4 then z + (i - n) else ad i
theorem am_ad4_old {ad : Nat → Nat} {n z i : Nat} (h : i < n ∨ n + 4 ≤ i) : am_ad4 ad n z i = ad i := if_neg (by omega)
theorem am_ad4_new {ad : Nat → Nat} {n z j : Nat} (h : j < 4) : am_ad4 ad n z (n + j) = z + j := by
  unfold am_ad4
  rw [if_pos (by omega)]
  omega
def am_rowsR (n : Nat) (j : Nat) : Option Nat := if j = 0 then some (n + 1) else if j = 1 then some (n + 2) else if j = 2 then some (n + 3) else none
theorem am_grid_n {n : Nat} : hn (hgrid h n) = hn h + 4 := rfl
theorem am_grid_K {n o : Nat} : hK (hgrid h n) o = if o = hn h then 34 else if hn h < o ∧ o < hn h + 4 then 20 else hK h o := by
  show va_up (va_up (va_up (va_up (hK h) (hn h) 34) (hn h + 1) 20) (hn h + 2) 20) (hn h + 3) 20 o = _
  unfold va_up
  repeat' split
  all_goals first | rfl | (exfalso; omega)
theorem am_grid_N {n o : Nat} : hN (hgrid h n) o = if o = hn h then 3 else if hn h < o ∧ o < hn h + 4 then n else hN h o := by
  show va_up (va_up (va_up (va_up (hN h) (hn h) 3) (hn h + 1) n) (hn h + 2) n) (hn h + 3) n o = _
  unfold va_up
  repeat' split
  all_goals first | rfl | (exfalso; omega)
theorem am_z4 {α : Type} {f : Nat → Nat → α} {n : Nat} {z : α} {o : Nat} : am_z (am_z (am_z (am_z f n z) (n + 1) z) (n + 2) z) (n + 3) z o = fun j => if n ≤ o ∧ o < n + 4 then z else f o j := by
  funext j
  unfold am_z
  split
  · rw [if_pos (by omega)]
  · split
    · rw [if_pos (by omega)]
    · split
      · rw [if_pos (by omega)]
      · split
        · rw [if_pos (by omega)]
        · rw [if_neg (by omega)]
theorem am_grid_I {n o : Nat} : hI (hgrid h n) o = fun j => if hn h ≤ o ∧ o < hn h + 4 then 0 else hI h o j := am_z4
theorem am_grid_L {n o : Nat} : hL (hgrid h n) o = fun j => if hn h ≤ o ∧ o < hn h + 4 then 0 else hL h o j := am_z4
theorem am_grid_F {n o : Nat} : hF (hgrid h n) o = fun j => if hn h ≤ o ∧ o < hn h + 4 then 0 else hF h o j := am_z4
theorem am_grid_R {n o : Nat} : hR (hgrid h n) o = fun j => if o = hn h then am_rowsR (hn h) j else if hn h ≤ o ∧ o < hn h + 4 then none else hR h o j := by
  funext j
  show am_u (am_u (am_u (am_z (am_z (am_z (am_z (hR h) (hn h) none) (hn h + 1) none) (hn h + 2) none) (hn h + 3) none) (hn h) 0 (some (hn h + 1))) (hn h) 1 (some (hn h + 2))) (hn h) 2 (some (hn h + 3)) o j = _
  unfold am_u am_rowsR
  have e := congrFun (am_z4 (f := hR h) (n := hn h) (z := (none : Option Nat)) (o := o)) j
  rw [e]
  by_cases ho : o = hn h
  · subst ho
    by_cases h0 : j = 0
    · subst h0; simp
    · by_cases h1 : j = 1
      · subst h1; simp
      · by_cases h2 : j = 2
        · subst h2; simp
        · simp [h0, h1, h2]
  · simp [ho]
theorem am_grid_old {n o : Nat} (ho : o < hn h) {ad' : Nat → Nat} : am_ce dA ad' (hgrid h n) o = am_ce dA ad' h o := by
  refine am_ce_of ?_ ?_ ?_ ?_ ?_ ?_
  · rw [am_grid_K, if_neg (by omega), if_neg (by omega)]
  · rw [am_grid_N, if_neg (by omega), if_neg (by omega)]
  · rw [am_grid_I]; funext j; rw [if_neg (by omega)]
  · rw [am_grid_L]; funext j; rw [if_neg (by omega)]
  · rw [am_grid_F]; funext j; rw [if_neg (by omega)]
  · rw [am_grid_R]; funext j; rw [if_neg (by omega), if_neg (by omega)]
theorem am_wf_grid {n : Nat} (hw : am_wf h) (h4 : hn h + 4 ≤ 1000000) : am_wf (hgrid h n) := by
  refine ⟨h4, fun o ho => ?_, fun o j a ho hr => ?_⟩
  · rw [am_grid_K]
    split
    · exact Or.inr (by decide)
    · split
      · exact Or.inr (by decide)
      · exact hw.2.1 o (by have : o < hn h + 4 := ho; omega)
  · rw [am_grid_R] at hr
    dsimp only at hr
    show a < hn h + 4
    have ho : o < hn h + 4 := ho
    split at hr
    · unfold am_rowsR at hr
      split at hr
      · cases hr; omega
      · split at hr
        · cases hr; omega
        · split at hr
          · cases hr; omega
          · cases hr
    · split at hr
      · cases hr
      · have := hw.2.2 o j a (by omega) hr
        omega
theorem am_outer (cA : ClassId) (z n : Nat) (ad : Nat → Nat) : Jvm.Free.Multi.outerC cA 3 z 3 = arrV cA 3 (fun j => va_rf ((am_rowsR n j).map (am_ad4 ad n z))) := by
  show (((({ cls := cA, slots := Array.replicate 3 .null, vm := .none } : Cell).setSlot 0 (.ref (z + 1 + 0))).setSlot 1 (.ref (z + 1 + 1))).setSlot 2 (.ref (z + 1 + 2))) = _
  rw [arrV_new, arrV_store, arrV_store, arrV_store]
  refine congrArg (arrV cA 3) (funext fun j => ?_)
  by_cases h2 : j = 2
  · subst h2
    have e1 : am_ad4 ad n z (n + 3) = z + 3 := am_ad4_new (by decide)
    simp [updV, am_rowsR, va_rf, e1]
  · by_cases h1 : j = 1
    · subst h1
      have e1 : am_ad4 ad n z (n + 2) = z + 2 := am_ad4_new (by decide)
      simp [updV, am_rowsR, va_rf, e1]
    · by_cases h0 : j = 0
      · subst h0
        have e1 : am_ad4 ad n z (n + 1) = z + 1 := am_ad4_new (by decide)
        simp [updV, am_rowsR, va_rf, e1]
      · simp [updV, am_rowsR, va_rf, h0, h1, h2]
theorem am_i_multianewarray {n d : Nat} (F : am_Fr sa1 sa2 dC dI dA l k p e R s m args below meth cd A ad0 n0 X0 Q Qf) (S : am_St dC dI dA k A s ad0 n0 X0 ad H locs ls L st h c s') (hd : decode (am_cc k) pc = .ok (.multianewarray n d, 4)) (hchk : am_chk k (pc, .multianewarray n d, 4, a, b) = true) (q : am_x (am_T sa1 sa2 dC dI dA l) k pc (.multianewarray n d) a b L st h c s' Q) : W p l e R s m args below meth cd H locs c s' Qf (F0 m pc ls (st.map (am_cv ad))) := by
  dsimp only [am_x, am_i2] at q
  dsimp only [am_chk] at hchk
  simp only [Bool.and_eq_true] at hchk
  obtain ⟨⟨⟨-, hn0⟩, hd2⟩, hcp⟩ := hchk
  have hd2 : d = 2 := Nat.eq_of_beq_eq_true hd2
  subst hd2
  obtain ⟨x0, hx0, hlk⟩ := am_cpqP hn0 hcp
  have e0 : x0.1 = 34 := Nat.eq_of_beq_eq_true hx0
  rw [e0] at hlk
  have hlk2 : am_in (.classLink (am_R (am_oc k)) n ("[" ++ (FieldType.array .int).toString)) := hlk
  have hroom := am_hroom F
  split at q
  · rename_i y x r
    obtain ⟨q1, q2, q3, ⟨q4, q5, q6⟩, q⟩ := q
    subst q1
    obtain ⟨-, -, -, -, hAOA, -⟩ := am_hgs F
    have e3 : (3 : Int32).toNatClampNeg = 3 := by decide
    intro T hT Xs
    obtain ⟨vm₁, cA, comp, -, fA, fC, hO, -, X', step⟩ := Xs.multianewarray2F F.1.1 (am_hown F) (ty := .int) (am_hts F _ hlk2) hAOA (am_hts F _ (am_arrc (ty := .int) (by simp))) (g := F0 m pc ls (.int y :: .int 3 :: r.map (am_cv ad))) rfl (by rw [F.1.2.1]; exact hd) rfl (by decide) q2 (by rw [e3]; decide) (by simp only [componentBytes]; omega) (by omega) rfl rfl (by rw [e3]; omega) (by rw [e3]; omega)
    rw [e3] at X' step
    obtain ⟨a1, a2⟩ : va_RA s (dA 20) .int ∧ ArrOfT s (dA 34) (.array .int) := by
      obtain ⟨t0, ht⟩ := am_ty_at dA (kd := 20) (by decide)
      obtain ⟨t1, ht1⟩ := am_ty_at dA (kd := 34) (by decide)
      exact ⟨((am_hK F).2 t0 _ ht).2, ((am_hK F).2 t1 _ ht1).1⟩
    have ec : comp = dA 20 := Option.some.inj (fC.symm.trans a1)
    have a3 : va_RA s (dA 34) (.array .int) := by
      obtain ⟨t1, ht1⟩ := am_ty_at dA (kd := 34) (by decide)
      exact ((am_hK F).2 t1 _ ht1).2
    have eA : cA = dA 34 := Option.some.inj (fA.symm.trans a3)
    subst ec
    subst eA
    generalize hF : Jvm.Free.Multi.fill (T.setVm vm₁) (dA 34) (dA 20) 3 y.toNatClampNeg (defaultValue .int) 3 = V at X' step
    have hTh : (T.setVm vm₁).heap = H := hT
    obtain ⟨f1, f2, -, -⟩ := Jvm.Free.Multi.fill_facts (T.setVm vm₁) (dA 34) (dA 20) 3 y.toNatClampNeg (defaultValue .int) 3
    rw [hF, hTh] at f1 f2
    have hold : ∀ x : Nat, x < H.size → V.heap[x]? = H[x]? := fun x hx => by
      have := Jvm.Free.Multi.fill_old (T.setVm vm₁) (dA 34) (dA 20) 3 y.toNatClampNeg (defaultValue .int) (a := x) (by rw [hTh]; exact hx) 3
      rw [hF, hTh] at this
      exact this
    have hrow : ∀ j : Nat, j < 3 → V.heap[H.size + 1 + j]? = some (vp_cell (dA 20) (y.toNatClampNeg, .inl (fun _ => 0))) := fun j hj => by
      have := Jvm.Free.Multi.fill_inner (T.setVm vm₁) (dA 34) (dA 20) 3 y.toNatClampNeg (defaultValue .int) 3 j hj
      rw [hF, hTh] at this
      rw [this, vp_cell_i, ← arrV_new]
      rfl
    rw [am_outer (dA 34) H.size (hn h) ad] at f2
    have hgn : hn (hgrid h y.toNatClampNeg) = hn h + 4 := rfl
    have hag : ∀ i, (i < hn h ∨ 1000000 ≤ i) → am_ad4 ad (hn h) H.size i = ad i := fun i hi => am_ad4_old (by omega)
    have hw2 : ∀ i, i < hn h → am_ce dA (am_ad4 ad (hn h) H.size) (hgrid h y.toNatClampNeg) i = am_ce dA ad h i := fun i hi => by
      rw [am_grid_old hi]
      exact am_ce_ad (n := hn h) (fun j a hr => S.1.2.2.2.2.2 i j a hi hr) (fun a ha => hag a (Or.inl ha))
    have get : ∀ (k9 : Nat) (x : Nat × va_E), (am_w dA (am_ad4 ad (hn h) H.size) (hgrid h y.toNatClampNeg))[k9]? = some x → (k9 < hn h ∧ (am_w dA ad h)[k9]? = some x) ∨ (∃ j, j < 4 ∧ k9 = hn h + j ∧ x = (H.size + j, am_ce dA (am_ad4 ad (hn h) H.size) (hgrid h y.toNatClampNeg) (hn h + j))) := by
      intro k9 x hx
      have hlt : k9 < hn h + 4 := by
        have := (List.getElem?_eq_some_iff.mp hx).1
        rw [am_w_len] at this
        exact this
      rw [am_w_get dA _ _ hlt] at hx
      by_cases hk : k9 < hn h
      · left
        refine ⟨hk, ?_⟩
        rw [am_w_get dA ad h hk, ← hx, hw2 k9 hk, hag k9 (Or.inl hk)]
      · right
        refine ⟨k9 - hn h, by omega, by omega, ?_⟩
        have e9 : k9 = hn h + (k9 - hn h) := by omega
        have e8 := am_ad4_new (ad := ad) (n := hn h) (z := H.size) (j := k9 - hn h) (by omega)
        rw [← e9] at e8 ⊢
        rw [e8] at hx
        exact (Option.some.inj hx).symm
    have hP1 : va_P (dC, dI) vwCl (am_w dA (am_ad4 ad (hn h) H.size) (hgrid h y.toNatClampNeg)) V.heap := by
      intro k9 x hx
      rcases get k9 x hx with ⟨hk, hx0⟩ | ⟨j, hj, rfl, rfl⟩
      · exact (S.1.1.kept (H1 := V.heap) (fun k8 q8 h8 => hold q8.1 ((S.1.1 k8 q8 h8).lt))) k9 x hx0
      · by_cases j0 : j = 0
        · subst j0
          have e1 : am_ce dA (am_ad4 ad (hn h) H.size) (hgrid h y.toNatClampNeg) (hn h + 0) = .inl (dA 34, 3, .inr (.inr (.inr (.inr (fun j => (am_rowsR (hn h) j).map (am_ad4 ad (hn h) H.size)))))) := by
            show am_ce dA (am_ad4 ad (hn h) H.size) (hgrid h y.toNatClampNeg) (hn h) = _
            rw [am_ce_arr (c := 34) (by rw [am_grid_K, if_pos rfl]) (by decide), am_arq (by decide), am_grid_N, if_pos rfl, am_grid_R]
            simp
          show va_at (dC, dI) vwCl (H.size + 0, _) V.heap
          rw [e1]
          show V.heap[H.size]? = some (vp_cell (dA 34) (3, _))
          rw [f2, vp_cell_q]
        · have e1 : am_ce dA (am_ad4 ad (hn h) H.size) (hgrid h y.toNatClampNeg) (hn h + j) = .inl (dA 20, y.toNatClampNeg, .inl (fun _ => 0)) := by
            rw [am_ce_arr (c := 20) (by rw [am_grid_K, if_neg (by omega), if_pos (by omega)]) (by decide)]
            unfold am_ar
            rw [am_grid_N, if_neg (by omega), if_pos (by omega), am_grid_I]
            have e2 : (fun j_1 : Nat => if hn h ≤ hn h + j ∧ hn h + j < hn h + 4 then (0 : Int32) else hI h (hn h + j) j_1) = fun _ => 0 := funext fun _ => if_pos (by omega)
            rw [e2]
            rfl
          rw [e1]
          have e3 : H.size + j = H.size + 1 + (j - 1) := by omega
          show V.heap[H.size + j]? = some (vp_cell (dA 20) (y.toNatClampNeg, _))
          rw [e3]
          exact hrow (j - 1) (by omega)
    have hD1 : va_D A (am_w dA (am_ad4 ad (hn h) H.size) (hgrid h y.toNatClampNeg)) := by
      refine ⟨fun i j x z hi hj hxz => ?_, fun k9 x hx => ?_⟩
      · rcases get i x hi with ⟨hk, hx0⟩ | ⟨i', hi', rfl, rfl⟩ <;> rcases get j z hj with ⟨hk2, hz0⟩ | ⟨j', hj', rfl, rfl⟩
        · exact S.1.2.1.1 i j x z hx0 hz0 hxz
        · have := (S.1.1 i x hx0).lt
          have hxz : x.1 = H.size + j' := hxz
          omega
        · have := (S.1.1 j z hz0).lt
          have hxz : H.size + i' = z.1 := hxz
          omega
        · have hxz : H.size + i' = H.size + j' := hxz
          omega
      · rcases get k9 x hx with ⟨hk, hx0⟩ | ⟨i', hi', rfl, rfl⟩
        · exact S.1.2.1.2 k9 x hx0
        · exact am_hA F _ (by have := S.1.2.2.1.1; show s.heap.size ≤ H.size + i'; omega)
    have hS1 : va_S A s.heap V.heap locs := ⟨by rw [f1]; have := S.1.2.2.1.1; omega, fun x h1 h2 => (hold x (Nat.lt_of_lt_of_le h1 S.1.2.2.1.1)).trans (S.1.2.2.1.2.1 x h1 h2), S.1.2.2.1.2.2⟩
    have e5 : ((.ref (hn h) :: r).map (am_cv (am_ad4 ad (hn h) H.size))) = .ref H.size :: r.map (am_cv ad) := by
      rw [List.map_cons, am_cv_ads hag (am_S2 S)]
      exact congrArg (fun z => Value.ref z :: r.map (am_cv ad)) (am_ad4_new (j := 0) (by decide))
    have g := am_go F q (am_grow S hag (by show hn h ≤ hn h + 4; omega) rfl ⟨hP1, hD1, hS1, am_wf_grid S.1.2.2.2 q4⟩ (am_vok_cons (Or.inl (by show hn h < hn h + 4; omega)) (fun v hv => am_vok_le (by show hn h ≤ hn h + 4; omega) (am_S2 S v hv))) (by omega) (by omega))
    rw [e5] at g
    obtain ⟨t, b1, b2⟩ := g V rfl (by
      have e6 : s' + 3 + 3 * y.toNatClampNeg = s' + (3 + 3 * y.toNatClampNeg) := by omega
      rw [e6] at X'
      exact X')
    refine ⟨t, step t ?_, b2⟩
    have e7 : T.heap.size = H.size := by rw [hT]
    rw [e7]
    exact b1
  · exact q.elim
end AMM3
