/-! own: what a numbered heap is on the real one -/
def am_tysK : List Nat := [20, 22, 24, 30, 31, 32, 33, 34]
def am_aty (kd : Nat) : FieldType := match kd with
  | 20 => .int
  | 21 => .long
  | 22 => .float
  | 23 => .boolean
  | 24 => .char
  | 30 => .object RX8
  | 31 => .object RX5
  | 32 => .object RX0
  | 33 => .object RX7
  | _ => .array .int
def am_tys (dA : Nat → ClassId) : List (ClassId × FieldType) := am_tysK.map fun kd => (dA kd, am_aty kd)
def am_fv (ad : Nat → Nat) (h : AH) (i c j : Nat) : Value := match am_ft c j with
  | 0 => .int (hI h i j)
  | 1 => .long (hL h i j)
  | 2 => .float (hF h i j)
  | _ => va_rf ((hR h i j).map ad)
def am_ar (ad : Nat → Nat) (h : AH) (i kd : Nat) : vp_A := match kd with
  | 20 => (hN h i, .inl (hI h i))
  | 21 => (hN h i, .inr (.inl (hL h i)))
  | 22 => (hN h i, .inr (.inr (.inl (hF h i))))
  | 23 => (hN h i, .inl (hI h i))
  | 24 => (hN h i, .inl (hI h i))
  | _ => (hN h i, .inr (.inr (.inr (.inr (fun j => (hR h i j).map ad)))))
def am_ce (dA : Nat → ClassId) (ad : Nat → Nat) (h : AH) (i : Nat) : va_E :=
  if hK h i < 20 then .inr (hK h i, (List.range (am_nf (hK h i))).map (am_fv ad h i (hK h i))) else .inl (dA (hK h i), am_ar ad h i (hK h i))
def am_w (dA : Nat → ClassId) (ad : Nat → Nat) (h : AH) : va_W := (List.range (hn h)).map fun i => (ad i, am_ce dA ad h i)
def am_wf (h : AH) : Prop := hn h ≤ 1000000 ∧ (∀ o, o < hn h → hK h o < 10 ∨ hK h o ∈ am_tysK) ∧ ∀ o j a, o < hn h → hR h o j = some a → a < hn h
def am_ag (n0 : Nat) (ad0 ad : Nat → Nat) : Prop := ∀ i, (i < n0 ∨ 1000000 ≤ i) → ad i = ad0 i
def am_vok (h : AH) (v : Value) : Prop := match v with
  | .ref a => a < hn h ∨ 1000000 ≤ a
  | _ => True
def am_lv (ls : Array Slot) (n : Nat) (L : List (Option Value)) (ad : Nat → Nat) : Prop := ls.size = n ∧ lv_wf ls ∧ ∀ i v, am_nth L i = some v → ls[i]? = some (.val (am_cv ad v))
theorem am_w_len (dA : Nat → ClassId) (ad : Nat → Nat) (h : AH) : (am_w dA ad h).length = hn h := by simp [am_w]
theorem am_w_get (dA : Nat → ClassId) (ad : Nat → Nat) (h : AH) {i : Nat} (hi : i < hn h) : (am_w dA ad h)[i]? = some (ad i, am_ce dA ad h i) := by
  simp [am_w, List.getElem?_map, List.getElem?_range hi]
theorem am_ce_obj {dA : Nat → ClassId} {ad : Nat → Nat} {h : AH} {i c : Nat} (hk : hK h i = c) (hc : c < 20) : am_ce dA ad h i = .inr (c, (List.range (am_nf c)).map (am_fv ad h i c)) := by
  subst hk
  exact if_pos hc
theorem am_ce_arr {dA : Nat → ClassId} {ad : Nat → Nat} {h : AH} {i c : Nat} (hk : hK h i = c) (hc : 20 ≤ c) : am_ce dA ad h i = .inl (dA c, am_ar ad h i c) := by
  subst hk
  exact if_neg (Nat.not_lt.mpr hc)
theorem am_rset {n b : Nat} {f g : Nat → Value} {v : Value} (hb : ∀ j, j ≠ b → g j = f j) (hv : g b = v) : ((List.range n).map f).set b v = (List.range n).map g := by
  apply List.ext_getElem?
  intro j
  by_cases hj : j = b
  · subst hj
    by_cases hl : j < n
    · rw [List.getElem?_set_self (by simpa using hl)]
      simp [List.getElem?_range hl, hv]
    · rw [List.getElem?_eq_none (by simpa using hl), List.getElem?_eq_none (by simpa using hl)]
  · rw [List.getElem?_set_ne (Ne.symm hj)]
    by_cases hl : j < n
    · simp [List.getElem?_range hl, hb j hj]
    · rw [List.getElem?_eq_none (by simpa using hl), List.getElem?_eq_none (by simpa using hl)]
theorem am_w_set {dA : Nat → ClassId} {ad : Nat → Nat} {h h' : AH} {o : Nat} {e : va_E} (hnn : hn h' = hn h) (he : am_ce dA ad h' o = e) (hr : ∀ i, i ≠ o → am_ce dA ad h' i = am_ce dA ad h i) : (am_w dA ad h).set o (ad o, e) = am_w dA ad h' := by
  apply List.ext_getElem?
  intro j
  by_cases hj : j = o
  · subst hj
    by_cases hl : j < hn h
    · rw [List.getElem?_set_self (by rw [am_w_len]; exact hl), am_w_get dA ad h' (by rw [hnn]; exact hl), he]
    · rw [List.getElem?_eq_none (by rw [List.length_set, am_w_len]; omega), List.getElem?_eq_none (by rw [am_w_len]; omega)]
  · rw [List.getElem?_set_ne (Ne.symm hj)]
    by_cases hl : j < hn h
    · rw [am_w_get dA ad h hl, am_w_get dA ad h' (by rw [hnn]; exact hl), hr j hj]
    · rw [List.getElem?_eq_none (by rw [am_w_len]; omega), List.getElem?_eq_none (by rw [am_w_len]; omega)]
theorem am_u_ne {α : Type} {f : Nat → Nat → α} {o k : Nat} {v : α} {a b : Nat} (h : a ≠ o ∨ b ≠ k) : am_u f o k v a b = f a b := by
  unfold am_u
  exact if_neg (fun q => h.elim (fun z => z q.1) (fun z => z q.2))
theorem am_u_eq {α : Type} {f : Nat → Nat → α} {o k : Nat} {v : α} : am_u f o k v o k = v := if_pos ⟨rfl, rfl⟩
/-- other cells stay when one is written -/
theorem am_ce_of {dA : Nat → ClassId} {ad : Nat → Nat} {h h' : AH} {i : Nat} (h1 : hK h' i = hK h i) (h2 : hN h' i = hN h i) (h3 : hI h' i = hI h i) (h4 : hL h' i = hL h i) (h5 : hF h' i = hF h i) (h6 : hR h' i = hR h i) : am_ce dA ad h' i = am_ce dA ad h i := by
  have e1 : ∀ c j, am_fv ad h' i c j = am_fv ad h i c j := by
    intro c j
    unfold am_fv
    rw [h3, h4, h5, h6]
  have e2 : ∀ c, am_ar ad h' i c = am_ar ad h i c := by
    intro c
    unfold am_ar
    rw [h2, h3, h4, h5, h6]
  have e3 : am_fv ad h' i (hK h i) = am_fv ad h i (hK h i) := funext fun j => e1 _ j
  unfold am_ce
  rw [h1, e2, e3]
theorem am_u_row {α : Type} {f : Nat → Nat → α} {o k : Nat} {v : α} {i : Nat} (h : i ≠ o) : am_u f o k v i = f i := funext fun b => am_u_ne (Or.inl h)
theorem am_ce_sI {dA : Nat → ClassId} {ad : Nat → Nat} {h : AH} {o k : Nat} {v : Int32} {i : Nat} (hi : i ≠ o) : am_ce dA ad (sI h o k v) i = am_ce dA ad h i := am_ce_of rfl rfl (am_u_row hi) rfl rfl rfl
theorem am_ce_sL {dA : Nat → ClassId} {ad : Nat → Nat} {h : AH} {o k : Nat} {v : Int64} {i : Nat} (hi : i ≠ o) : am_ce dA ad (sL h o k v) i = am_ce dA ad h i := am_ce_of rfl rfl rfl (am_u_row hi) rfl rfl
theorem am_ce_sF {dA : Nat → ClassId} {ad : Nat → Nat} {h : AH} {o k : Nat} {v : UInt32} {i : Nat} (hi : i ≠ o) : am_ce dA ad (sF h o k v) i = am_ce dA ad h i := am_ce_of rfl rfl rfl rfl (am_u_row hi) rfl
theorem am_ce_sR {dA : Nat → ClassId} {ad : Nat → Nat} {h : AH} {o k : Nat} {v : Option Nat} {i : Nat} (hi : i ≠ o) : am_ce dA ad (sR h o k v) i = am_ce dA ad h i := am_ce_of rfl rfl rfl rfl rfl (am_u_row hi)
theorem am_u_upd {f : Nat → Nat → Int32} {o k : Nat} {v : Int32} : am_u f o k v o = upd (f o) k v := by
  funext b
  unfold am_u upd
  by_cases h : b = k <;> simp [h]
theorem am_u_updL {f : Nat → Nat → Int64} {o k : Nat} {v : Int64} : am_u f o k v o = vp_updL (f o) k v := by
  funext b
  unfold am_u vp_updL
  by_cases h : b = k <;> simp [h]
theorem am_u_updF {f : Nat → Nat → UInt32} {o k : Nat} {v : UInt32} : am_u f o k v o = vf_upd (f o) k v := by
  funext b
  unfold am_u vf_upd
  by_cases h : b = k <;> simp [h]
/-- the world behind a write of a field -/
theorem am_w_fI {dA : Nat → ClassId} {ad : Nat → Nat} {h : AH} {o c b : Nat} {v : Int32} (hk : hK h o = c) (hc : c < 20) (ht : am_ft c b = 0) : (am_w dA ad h).set o (ad o, .inr (c, ((List.range (am_nf c)).map (am_fv ad h o c)).set b (.int v))) = am_w dA ad (sI h o b v) := by
  refine am_w_set rfl ?_ (fun i hi => am_ce_sI hi)
  rw [am_ce_obj (h := sI h o b v) (c := c) hk hc, am_rset (g := am_fv ad (sI h o b v) o c)]
  · intro j hj
    unfold am_fv
    rw [show hI (sI h o b v) o j = hI h o j from am_u_ne (Or.inr hj)]
    rfl
  · unfold am_fv
    rw [ht]
    exact congrArg Value.int am_u_eq
theorem am_w_fL {dA : Nat → ClassId} {ad : Nat → Nat} {h : AH} {o c b : Nat} {v : Int64} (hk : hK h o = c) (hc : c < 20) (ht : am_ft c b = 1) : (am_w dA ad h).set o (ad o, .inr (c, ((List.range (am_nf c)).map (am_fv ad h o c)).set b (.long v))) = am_w dA ad (sL h o b v) := by
  refine am_w_set rfl ?_ (fun i hi => am_ce_sL hi)
  rw [am_ce_obj (h := sL h o b v) (c := c) hk hc, am_rset (g := am_fv ad (sL h o b v) o c)]
  · intro j hj
    unfold am_fv
    rw [show hL (sL h o b v) o j = hL h o j from am_u_ne (Or.inr hj)]
    rfl
  · unfold am_fv
    rw [ht]
    exact congrArg Value.long am_u_eq
theorem am_w_fF {dA : Nat → ClassId} {ad : Nat → Nat} {h : AH} {o c b : Nat} {v : UInt32} (hk : hK h o = c) (hc : c < 20) (ht : am_ft c b = 2) : (am_w dA ad h).set o (ad o, .inr (c, ((List.range (am_nf c)).map (am_fv ad h o c)).set b (.float v))) = am_w dA ad (sF h o b v) := by
  refine am_w_set rfl ?_ (fun i hi => am_ce_sF hi)
  rw [am_ce_obj (h := sF h o b v) (c := c) hk hc, am_rset (g := am_fv ad (sF h o b v) o c)]
  · intro j hj
    unfold am_fv
    rw [show hF (sF h o b v) o j = hF h o j from am_u_ne (Or.inr hj)]
    rfl
  · unfold am_fv
    rw [ht]
    exact congrArg Value.float am_u_eq
theorem am_w_fR {dA : Nat → ClassId} {ad : Nat → Nat} {h : AH} {o c b x : Nat} (hk : hK h o = c) (hc : c < 20) (ht : am_ft c b = 3) : (am_w dA ad h).set o (ad o, .inr (c, ((List.range (am_nf c)).map (am_fv ad h o c)).set b (.ref (ad x)))) = am_w dA ad (sR h o b (some x)) := by
  refine am_w_set rfl ?_ (fun i hi => am_ce_sR hi)
  rw [am_ce_obj (h := sR h o b (some x)) (c := c) hk hc, am_rset (g := am_fv ad (sR h o b (some x)) o c)]
  · intro j hj
    unfold am_fv
    rw [show hR (sR h o b (some x)) o j = hR h o j from am_u_ne (Or.inr hj)]
    rfl
  · unfold am_fv
    rw [ht, show hR (sR h o b (some x)) o b = some x from am_u_eq]
    rfl
/-- the world behind a write into a row -/
theorem am_w_aI {dA : Nat → ClassId} {ad : Nat → Nat} {h : AH} {o c k : Nat} {v : Int32} (hk : hK h o = c) (hc : c = 20 ∨ c = 23 ∨ c = 24) : (am_w dA ad h).set o (ad o, .inl (dA c, hN h o, .inl (upd (hI h o) k v))) = am_w dA ad (sI h o k v) := by
  refine am_w_set rfl ?_ (fun i hi => am_ce_sI hi)
  rw [am_ce_arr (h := sI h o k v) (c := c) hk (by omega)]
  have e : hI (sI h o k v) o = upd (hI h o) k v := am_u_upd
  unfold am_ar
  rw [e]
  rcases hc with rfl | rfl | rfl <;> rfl
theorem am_w_aL {dA : Nat → ClassId} {ad : Nat → Nat} {h : AH} {o k : Nat} {v : Int64} (hk : hK h o = 21) : (am_w dA ad h).set o (ad o, .inl (dA 21, hN h o, .inr (.inl (vp_updL (hL h o) k v)))) = am_w dA ad (sL h o k v) := by
  refine am_w_set rfl ?_ (fun i hi => am_ce_sL hi)
  rw [am_ce_arr (h := sL h o k v) (c := 21) hk (by omega)]
  have e : hL (sL h o k v) o = vp_updL (hL h o) k v := am_u_updL
  unfold am_ar
  rw [e]
  rfl
theorem am_w_aF {dA : Nat → ClassId} {ad : Nat → Nat} {h : AH} {o k : Nat} {v : UInt32} (hk : hK h o = 22) : (am_w dA ad h).set o (ad o, .inl (dA 22, hN h o, .inr (.inr (.inl (vf_upd (hF h o) k v))))) = am_w dA ad (sF h o k v) := by
  refine am_w_set rfl ?_ (fun i hi => am_ce_sF hi)
  rw [am_ce_arr (h := sF h o k v) (c := 22) hk (by omega)]
  have e : hF (sF h o k v) o = vf_upd (hF h o) k v := am_u_updF
  unfold am_ar
  rw [e]
  rfl
theorem am_arq {ad : Nat → Nat} {h : AH} {o c : Nat} (hc : 30 ≤ c) : am_ar ad h o c = (hN h o, .inr (.inr (.inr (.inr (fun j => (hR h o j).map ad))))) := by
  unfold am_ar
  split <;> first | omega | rfl
theorem am_w_aR {dA : Nat → ClassId} {ad : Nat → Nat} {h : AH} {o c k x : Nat} (hk : hK h o = c) (hc : 30 ≤ c) : (am_w dA ad h).set o (ad o, .inl (dA c, hN h o, .inr (.inr (.inr (.inr (va_up (fun j => (hR h o j).map ad) k (some (ad x)))))))) = am_w dA ad (sR h o k (some x)) := by
  refine am_w_set rfl ?_ (fun i hi => am_ce_sR hi)
  rw [am_ce_arr (h := sR h o k (some x)) (c := c) hk (by omega), am_arq hc]
  have e : (fun j => (hR (sR h o k (some x)) o j).map ad) = va_up (fun j => (hR h o j).map ad) k (some (ad x)) := by
    funext j
    by_cases hj : j = k
    · subst hj
      rw [va_up_self, show hR (sR h o j (some x)) o j = some x from am_u_eq]
      rfl
    · rw [va_up_ne _ _ hj, show hR (sR h o k (some x)) o j = hR h o j from am_u_ne (Or.inr hj)]
  rw [e]
  rfl
/-- a new cell -/
theorem am_z_ne {α : Type} {f : Nat → Nat → α} {o : Nat} {z : α} {i : Nat} (h : i ≠ o) : am_z f o z i = f i := funext fun b => if_neg h
theorem am_z_eq {α : Type} {f : Nat → Nat → α} {o : Nat} {z : α} : am_z f o z o = fun _ => z := funext fun b => if_pos rfl
theorem am_ad_R {ad ad' : Nat → Nat} {r : Option Nat} {n : Nat} (h : ∀ a, r = some a → a < n) (hag : ∀ a, a < n → ad' a = ad a) : r.map ad' = r.map ad := by
  cases r with
  | none => rfl
  | some a => exact congrArg some (hag a (h a rfl))
theorem am_ce_ad {dA : Nat → ClassId} {ad ad' : Nat → Nat} {h : AH} {i n : Nat} (hr : ∀ j a, hR h i j = some a → a < n) (hag : ∀ a, a < n → ad' a = ad a) : am_ce dA ad' h i = am_ce dA ad h i := by
  have e0 : ∀ j, (hR h i j).map ad' = (hR h i j).map ad := fun j => am_ad_R (hr j) hag
  have e1 : ∀ c, am_fv ad' h i c = am_fv ad h i c := by
    intro c
    funext j
    unfold am_fv
    rw [e0]
  have e2 : ∀ c, am_ar ad' h i c = am_ar ad h i c := by
    intro c
    unfold am_ar
    simp only [e0]
  unfold am_ce
  rw [e1, e2]
theorem am_w_ad {dA : Nat → ClassId} {ad ad' : Nat → Nat} {h : AH} (hw : am_wf h) (hag : ∀ a, a < hn h → ad' a = ad a) : am_w dA ad' h = am_w dA ad h := by
  unfold am_w
  apply List.map_congr_left
  intro i hi
  have hi := List.mem_range.mp hi
  rw [hag i hi, am_ce_ad (fun j a => hw.2.2 i j a hi) hag]
theorem am_w_new {dA : Nat → ClassId} {ad : Nat → Nat} {h : AH} {kd n q : Nat} (hw : am_wf h) : am_w dA (va_up ad (hn h) q) (hnew h kd n) = am_w dA ad h ++ [(q, am_ce dA (va_up ad (hn h) q) (hnew h kd n) (hn h))] := by
  have hag : ∀ a, a < hn h → va_up ad (hn h) q a = ad a := fun a ha => va_up_ne _ _ (Nat.ne_of_lt ha)
  unfold am_w
  rw [show hn (hnew h kd n) = hn h + 1 from rfl, List.range_succ, List.map_append]
  congr 1
  · apply List.map_congr_left
    intro i hi
    have hi := List.mem_range.mp hi
    have hne : i ≠ hn h := Nat.ne_of_lt hi
    rw [hag i hi]
    refine congrArg (Prod.mk _) ?_
    have e1 : am_ce dA (va_up ad (hn h) q) (hnew h kd n) i = am_ce dA (va_up ad (hn h) q) h i := am_ce_of (va_up_ne _ _ hne) (va_up_ne _ _ hne) (am_z_ne hne) (am_z_ne hne) (am_z_ne hne) (am_z_ne hne)
    rw [e1]
    exact am_ce_ad (fun j a => hw.2.2 i j a hi) hag
  · show [(va_up ad (hn h) q (hn h), _)] = _
    rw [va_up_self]
theorem am_wf_new {h : AH} {kd n : Nat} (hw : am_wf h) (h1 : hn h + 1 ≤ 1000000) (hk : kd < 10 ∨ kd ∈ am_tysK) : am_wf (hnew h kd n) := by
  refine ⟨h1, fun o ho => ?_, fun o j a ho hr => ?_⟩
  · by_cases e : o = hn h
    · subst e
      rw [show hK (hnew h kd n) (hn h) = kd from va_up_self _ _ _]
      exact hk
    · rw [show hK (hnew h kd n) o = hK h o from va_up_ne _ _ e]
      exact hw.2.1 o (Nat.lt_of_le_of_ne (Nat.le_of_lt_succ ho) e)
  · by_cases e : o = hn h
    · subst e
      rw [show hR (hnew h kd n) (hn h) j = none from if_pos rfl] at hr
      cases hr
    · rw [show hR (hnew h kd n) o j = hR h o j from if_neg e] at hr
      exact Nat.lt_succ_of_lt (hw.2.2 o j a (Nat.lt_of_le_of_ne (Nat.le_of_lt_succ ho) e) hr)
theorem am_wf_sI {h : AH} {o k : Nat} {v : Int32} (hw : am_wf h) : am_wf (sI h o k v) := hw
theorem am_wf_sL {h : AH} {o k : Nat} {v : Int64} (hw : am_wf h) : am_wf (sL h o k v) := hw
theorem am_wf_sF {h : AH} {o k : Nat} {v : UInt32} (hw : am_wf h) : am_wf (sF h o k v) := hw
theorem am_wf_sR {h : AH} {o k x : Nat} (hw : am_wf h) (hx : x < hn h) : am_wf (sR h o k (some x)) := by
  refine ⟨hw.1, hw.2.1, fun i j a hi hr => ?_⟩
  by_cases e : i = o ∧ j = k
  · obtain ⟨rfl, rfl⟩ := e
    rw [show hR (sR h i j (some x)) i j = some x from am_u_eq] at hr
    cases hr
    exact hx
  · rw [show hR (sR h o k (some x)) i j = hR h i j from if_neg e] at hr
    exact hw.2.2 i j a hi hr
/-! locals -/
theorem am_nth_set_eq : ∀ (L : List (Option Value)) (i : Nat) (v : Option Value), i < L.length → am_nth (am_set L i v) i = v
  | [], i, v, h => absurd h (Nat.not_lt_zero i)
  | a :: l, 0, v, h => rfl
  | a :: l, i + 1, v, h => am_nth_set_eq l i v (Nat.lt_of_succ_lt_succ h)
theorem am_nth_set_ne : ∀ (L : List (Option Value)) (i j : Nat) (v : Option Value), j ≠ i → am_nth (am_set L i v) j = am_nth L j
  | [], i, j, v, h => rfl
  | a :: l, 0, 0, v, h => absurd rfl h
  | a :: l, 0, j + 1, v, h => rfl
  | a :: l, i + 1, 0, v, h => rfl
  | a :: l, i + 1, j + 1, v, h => am_nth_set_ne l i j v (fun e => h (congrArg Nat.succ e))
theorem am_nth_set_big : ∀ (L : List (Option Value)) (i : Nat) (v : Option Value), L.length ≤ i → am_set L i v = L
  | [], i, v, h => rfl
  | a :: l, 0, v, h => absurd h (Nat.not_succ_le_zero _)
  | a :: l, i + 1, v, h => congrArg (List.cons a) (am_nth_set_big l i v (Nat.le_of_succ_le_succ h))
theorem am_nth_lt : ∀ (L : List (Option Value)) (i : Nat) (v : Value), am_nth L i = some v → i < L.length
  | [], i, v, h => by cases h
  | a :: l, 0, v, h => Nat.succ_pos _
  | a :: l, i + 1, v, h => Nat.succ_lt_succ (am_nth_lt l i v h)
theorem am_nth_set {L : List (Option Value)} {i j : Nat} {x : Option Value} {v : Value} (h : am_nth (am_set L i x) j = some v) : (j = i ∧ x = some v) ∨ (j ≠ i ∧ am_nth L j = some v) ∨ (am_nth L j = some v ∧ L.length ≤ i) := by
  by_cases hl : i < L.length
  · by_cases hj : j = i
    · subst hj
      rw [am_nth_set_eq L j x hl] at h
      exact Or.inl ⟨rfl, h⟩
    · rw [am_nth_set_ne L i j x hj] at h
      exact Or.inr (Or.inl ⟨hj, h⟩)
  · rw [am_nth_set_big L i x (Nat.le_of_not_lt hl)] at h
    exact Or.inr (Or.inr ⟨h, Nat.le_of_not_lt hl⟩)
/-- the listed locals, as the kit has them -/
def am_lvl (L : List (Option Value)) (ad : Nat → Nat) : List (Nat × Value) := (List.range L.length).filterMap fun i => (am_nth L i).map fun v => (i, am_cv ad v)
theorem am_lvl_mem {L : List (Option Value)} {ad : Nat → Nat} {q : Nat × Value} : q ∈ am_lvl L ad ↔ ∃ v, am_nth L q.1 = some v ∧ q.2 = am_cv ad v := by
  unfold am_lvl
  rw [List.mem_filterMap]
  constructor
  · rintro ⟨i, -, hi⟩
    obtain ⟨v, hv, rfl⟩ := Option.map_eq_some_iff.mp hi
    exact ⟨v, hv, rfl⟩
  · rintro ⟨v, hv, he⟩
    refine ⟨q.1, List.mem_range.mpr (am_nth_lt L q.1 v hv), ?_⟩
    rw [hv, Option.map_some, ← he]
theorem am_lv_has {ls : Array Slot} {n : Nat} {L : List (Option Value)} {ad : Nat → Nat} (h : am_lv ls n L ad) : lv_has ls n (am_lvl L ad) :=
  ⟨h.1, h.2.1, fun q hq => by obtain ⟨v, hv, he⟩ := am_lvl_mem.mp hq; rw [he]; exact h.2.2 q.1 v hv⟩
theorem am_cv_cat (ad : Nat → Nat) (v : Value) : (am_cv ad v).category = v.category := by cases v <;> rfl
theorem am_nl_spec {L : List (Option Value)} {i j : Nat} {v : Value} (h : am_nl L i) (hj : am_nth L j = some v) (he : j + 1 = i) : ¬ v.category = 2 := by
  subst he
  simp only [am_nl, hj] at h
  cases v <;> first | exact h.elim | (intro e; cases e)
theorem am_lv_store {ls : Array Slot} {n : Nat} {L : List (Option Value)} {ad : Nat → Nat} {i : Nat} {v : Value} (h : lv_has ls n ((i, am_cv ad v) :: (am_lvl L ad).filter (fun q => !(q.1 == i) && !(q.1 + 1 == i && q.2.category == 2)))) (hN : am_nl L i) : am_lv ls n (am_set L i (some v)) ad := by
  refine ⟨h.1, h.2.1, fun j w hw => ?_⟩
  have key : ∀ w, j ≠ i → am_nth L j = some w → ls[j]? = some (.val (am_cv ad w)) := by
    intro w hj hw
    refine h.2.2 (j, am_cv ad w) (List.mem_cons_of_mem _ (List.mem_filter.mpr ⟨am_lvl_mem.mpr ⟨w, hw, rfl⟩, ?_⟩))
    simp only [Bool.and_eq_true, Bool.not_eq_true', beq_eq_false_iff_ne, ne_eq, Bool.and_eq_false_iff]
    refine ⟨hj, ?_⟩
    by_cases he : j + 1 = i
    · right
      rw [am_cv_cat]
      exact am_nl_spec hN hw he
    · exact Or.inl he
  rcases am_nth_set hw with ⟨rfl, e⟩ | ⟨hj, hw⟩ | ⟨hw, hl⟩
  · cases e
    exact h.2.2 (j, am_cv ad v) List.mem_cons_self
  · exact key w hj hw
  · exact key w (fun e => absurd (am_nth_lt L j w hw) (by omega)) hw
theorem am_lv_store2 {ls : Array Slot} {n : Nat} {L : List (Option Value)} {ad : Nat → Nat} {i : Nat} {v : Value} (h : lv_has ls n ((i, am_cv ad v) :: (am_lvl L ad).filter (fun q => !(q.1 == i) && (!(q.1 == i + 1) && !(q.1 + 1 == i && q.2.category == 2))))) (hN : am_nl L i) : am_lv ls n (am_set (am_set L i (some v)) (i + 1) none) ad := by
  refine ⟨h.1, h.2.1, fun j w hw => ?_⟩
  have key : ∀ w, j ≠ i → j ≠ i + 1 → am_nth L j = some w → ls[j]? = some (.val (am_cv ad w)) := by
    intro w hj hj2 hw
    refine h.2.2 (j, am_cv ad w) (List.mem_cons_of_mem _ (List.mem_filter.mpr ⟨am_lvl_mem.mpr ⟨w, hw, rfl⟩, ?_⟩))
    simp only [Bool.and_eq_true, Bool.not_eq_true', beq_eq_false_iff_ne, ne_eq, Bool.and_eq_false_iff]
    refine ⟨hj, hj2, ?_⟩
    by_cases he : j + 1 = i
    · right
      rw [am_cv_cat]
      exact am_nl_spec hN hw he
    · exact Or.inl he
  have step : ∀ w, am_nth (am_set L i (some v)) j = some w → j ≠ i + 1 → ls[j]? = some (.val (am_cv ad w)) := by
    intro w hw hj2
    rcases am_nth_set hw with ⟨rfl, e⟩ | ⟨hj, hw⟩ | ⟨hw, hl⟩
    · cases e
      exact h.2.2 (j, am_cv ad v) List.mem_cons_self
    · exact key w hj hj2 hw
    · exact key w (fun e => absurd (am_nth_lt L j w hw) (by omega)) hj2 hw
  rcases am_nth_set hw with ⟨rfl, e⟩ | ⟨hj, hw⟩ | ⟨hw, hl⟩
  · cases e
  · exact step w hw hj
  · exact step w hw (fun e => absurd (am_nth_lt _ j w hw) (by omega))
