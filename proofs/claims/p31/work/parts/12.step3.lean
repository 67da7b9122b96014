/-! own: constants, switches, new cells, ends, calls and throws of the numbered machine, on the real one -/
section AMN
variable {sa1 sa2 : Nat} {dC : Nat → ClassId} {dI : Nat → Nat → Nat} {dA : Nat → ClassId} {l : Launch} {k pc a b : Nat} {L : List (Option Value)} {st : List Value} {h : AH} {c s' : Nat} {Q : AQ} {p : Program} {e : Env} {R : Room} {s : State} {m : MethodId} {args : Array Value} {below : List Frame} {meth : Method} {cd : Code} {A : Nat → Prop} {ad0 : Nat → Nat} {n0 : Nat} {X0 : Nat × (Nat → Int32)} {Qf : State → Prop} {ad : Nat → Nat} {H : Heap} {locs : List Loc} {ls : Array Slot}
theorem am_cstP {k n a b : Nat} (hb : Nat.blt n 10000 = true) (h1 : (am_find am_cstL (am_oc k * 10000 + n)).any (fun q => Nat.beq q.1 a && Nat.beq q.2.1 b) = true) : (a = 0 → am_in (.constant (am_R (am_oc k)) n (nI b))) ∧ (a = 1 → am_in (.constantFloat (am_R (am_oc k)) n (UInt32.ofNat b))) ∧ (a = 3 → am_in (.constant (am_R (am_oc k)) n (-(nI b)))) := by
  obtain ⟨⟨a', b', w'⟩, hf, hx⟩ := am_find_any h1
  simp only [Bool.and_eq_true] at hx
  have e1 : a' = a := Nat.eq_of_beq_eq_true hx.1
  have e2 : b' = b := Nat.eq_of_beq_eq_true hx.2
  subst e1
  subst e2
  have h2 := List.all_eq_true.mp am_cst_ok _ (am_find_mem hf)
  obtain ⟨d1, d2⟩ := am_divmod (am_oc k) n (Nat.blt_eq.mp hb)
  unfold am_cstB at h2
  rw [d1, d2] at h2
  refine ⟨fun e => ?_, fun e => ?_, fun e => ?_⟩
  · subst e
    exact am_get_in h2
  · subst e
    exact am_get_in h2
  · subst e
    exact am_get_in h2
theorem am_ldcfW {cc : ByteArray} {rest : List Value} {cells slots : Nat} (hexec : p.tables.exec = Jvm.exec) (hb : cd.code = cc) {own : String} {index : Nat} {v : UInt32} (hown : s.vm.findClass own = some m.cls) (hconst : (Jvm.Cond.constantFloat own index v).before args s = true) (hdg : decode cc pc = .ok (.ldc_w index, 3)) (kk : W p l e R s m args below meth cd H locs cells slots Qf (F0 m (pc + 3) ls (.float v :: rest))) : W p l e R s m args below meth cd H locs cells slots Qf (F0 m pc ls rest) := by
  intro T hT X
  obtain ⟨t, a1, b1⟩ := kk T hT X
  obtain ⟨k0, cf, hk, hcf, hcp⟩ := Cond.constantFloat_spec hown hconst
  obtain ⟨k', hk', he⟩ := X.warmed.alike.2.2 _ _ hk
  refine ⟨t, ?_, b1⟩
  jvm_step X.here [hexec, hb, hdg, ldc_w.wp_float (s := T) (f := F0 m pc ls rest) X.here.top hk' (by rw [he]; exact hcf) hcp]
  exact a1
theorem am_i_ldc {n : Nat} (F : am_Fr sa1 sa2 dC dI dA l k p e R s m args below meth cd A ad0 n0 X0 Q Qf) (S : am_St dC dI dA k A s ad0 n0 X0 ad H locs ls L st h c s') (hd : decode (am_cc k) pc = .ok (.ldc n, 2)) (hchk : am_chk k (pc, .ldc n, 2, a, b) = true) (q : am_x (am_T sa1 sa2 dC dI dA l) k pc (.ldc n) a b L st h c s' Q) : W p l e R s m args below meth cd H locs c s' Qf (F0 m pc ls (st.map (am_cv ad))) := by
  dsimp only [am_x] at q
  dsimp only [am_chk] at hchk
  simp only [Bool.and_eq_true] at hchk
  obtain ⟨⟨-, hn⟩, hchk⟩ := hchk
  split at q
  · exact lv_ldc F.1.1 F.1.2.1 (am_hown F) (am_hts F _ ((am_cstP hn hchk).1 rfl)) hd (am_go F q (am_stk S (am_vok_cons trivial S.2.2.1)))
  · exact lv_ldcf F.1.1 F.1.2.1 (am_hown F) (am_hts F _ ((am_cstP hn hchk).2.1 rfl)) hd (am_go F q (am_stk S (am_vok_cons trivial S.2.2.1)))
  · simp only [Bool.and_eq_true] at hchk
    have hoc : am_oc k = 1 := Nat.eq_of_beq_eq_true hchk.1
    have hi : n = 19 := Nat.eq_of_beq_eq_true hchk.2
    subst hi
    have hown := am_hown F
    rw [hoc] at hown
    obtain ⟨-, -, -, -, -, -, hZ, -, -, -⟩ := am_hgs F
    have e1 : ad 1000001 = sa1 := (S.2.2.2.2.1 1000001 (Or.inr (by decide))).trans F.2.1.1
    refine va_ldcS F.1.1 F.1.2.1 hown hZ hd ?_
    rw [← e1]
    exact am_go F q (am_stk S (am_vok_cons (v := .ref 1000001) (Or.inr (by decide)) S.2.2.1))
  · exact q.elim
theorem am_i_ldc_w {n : Nat} (F : am_Fr sa1 sa2 dC dI dA l k p e R s m args below meth cd A ad0 n0 X0 Q Qf) (S : am_St dC dI dA k A s ad0 n0 X0 ad H locs ls L st h c s') (hd : decode (am_cc k) pc = .ok (.ldc_w n, 3)) (hchk : am_chk k (pc, .ldc_w n, 3, a, b) = true) (q : am_x (am_T sa1 sa2 dC dI dA l) k pc (.ldc_w n) a b L st h c s' Q) : W p l e R s m args below meth cd H locs c s' Qf (F0 m pc ls (st.map (am_cv ad))) := by
  dsimp only [am_x] at q
  dsimp only [am_chk] at hchk
  simp only [Bool.and_eq_true] at hchk
  obtain ⟨⟨-, hn⟩, hchk⟩ := hchk
  split at q
  · exact lv_ldcw F.1.1 F.1.2.1 (am_hown F) (am_hts F _ ((am_cstP hn hchk).1 rfl)) hd (am_go F q (am_stk S (am_vok_cons trivial S.2.2.1)))
  · exact am_ldcfW F.1.1 F.1.2.1 (am_hown F) (am_hts F _ ((am_cstP hn hchk).2.1 rfl)) hd (am_go F q (am_stk S (am_vok_cons trivial S.2.2.1)))
  · exact lv_ldcw F.1.1 F.1.2.1 (am_hown F) (am_hts F _ ((am_cstP hn hchk).2.2 rfl)) hd (am_go F q (am_stk S (am_vok_cons trivial S.2.2.1)))
  · exact q.elim
theorem am_i_getstatic {n : Nat} (F : am_Fr sa1 sa2 dC dI dA l k p e R s m args below meth cd A ad0 n0 X0 Q Qf) (S : am_St dC dI dA k A s ad0 n0 X0 ad H locs ls L st h c s') (hd : decode (am_cc k) pc = .ok (.getstatic n, 3)) (hchk : am_chk k (pc, .getstatic n, 3, a, b) = true) (q : am_x (am_T sa1 sa2 dC dI dA l) k pc (.getstatic n) a b L st h c s' Q) : W p l e R s m args below meth cd H locs c s' Qf (F0 m pc ls (st.map (am_cv ad))) := by
  dsimp only [am_x] at q
  dsimp only [am_chk] at hchk
  simp only [Bool.and_eq_true] at hchk
  have hoc : am_oc k = 15 := Nat.eq_of_beq_eq_true hchk.1.1.2
  have hi : n = 38 := Nat.eq_of_beq_eq_true hchk.1.2
  have ha : a = 1 := Nat.eq_of_beq_eq_true hchk.2
  subst hi
  subst ha
  have hown := am_hown F
  rw [hoc] at hown
  obtain ⟨-, -, -, -, -, -, -, hZ, -, -⟩ := am_hgs F
  exact va_gets F.1.1 F.1.2.1 hZ S.1.2.2.1 hown (am_hts F _ am_sf38) (fun x z => z) hd (am_go F q (am_stk S (am_vok_cons trivial S.2.2.1)))
/-- a switch goes where its list says -/
theorem am_sw_at {x : Int32} {Fn : Nat → Prop} {d : Nat} : ∀ {l : List (Int32 × Nat)}, am_swc x Fn d l → (∃ q ∈ l, x = q.1 ∧ Fn q.2) ∨ ((∀ q ∈ l, ¬ x = q.1) ∧ Fn d)
  | [], h => Or.inr ⟨fun q hq => absurd hq List.not_mem_nil, h⟩
  | a :: l, h => by
    by_cases e : x = a.1
    · exact Or.inl ⟨a, List.mem_cons_self, e, h.1 e⟩
    · rcases am_sw_at (h.2 e) with ⟨q, h1, h2⟩ | ⟨h1, h2⟩
      · exact Or.inl ⟨q, List.mem_cons_of_mem _ h1, h2⟩
      · exact Or.inr ⟨fun q hq => (List.mem_cons.mp hq).elim (fun z => by rw [z]; exact e) (h1 q), h2⟩
theorem am_zip_mem {α : Type} {l : List α} {x : α} (h : x ∈ l) : ∃ j, l[j]? = some x ∧ (x, j) ∈ l.zip (List.range l.length) := by
  obtain ⟨j, hj⟩ := List.getElem?_of_mem h
  have hl : j < l.length := (List.getElem?_eq_some_iff.mp hj).1
  refine ⟨j, hj, List.mem_of_getElem? (i := j) ?_⟩
  rw [List.getElem?_zip_eq_some]
  exact ⟨hj, List.getElem?_range hl⟩
theorem am_i_tableswitch {dflt lo hi : Int} {offs : Array Int} {len : Nat} (F : am_Fr sa1 sa2 dC dI dA l k p e R s m args below meth cd A ad0 n0 X0 Q Qf) (S : am_St dC dI dA k A s ad0 n0 X0 ad H locs ls L st h c s') (hd : decode (am_cc k) pc = .ok (.tableswitch dflt lo hi offs, len)) (hchk : am_chk k (pc, .tableswitch dflt lo hi offs, len, a, b) = true) (q : am_x (am_T sa1 sa2 dC dI dA l) k pc (.tableswitch dflt lo hi offs) a b L st h c s' Q) : W p l e R s m args below meth cd H locs c s' Qf (F0 m pc ls (st.map (am_cv ad))) := by
  dsimp only [am_x, am_i1] at q
  dsimp only [am_chk, am_swT] at hchk
  simp only [Bool.and_eq_true, decide_eq_true_eq] at hchk
  obtain ⟨hhi, ⟨hdf, hlen⟩, hall⟩ := hchk
  have hlen : (am_sw k pc).2.length = offs.size := Nat.eq_of_beq_eq_true hlen
  split at q
  · rename_i x r
    rcases am_sw_at q with ⟨t, ht, hx, q⟩ | ⟨hno, q⟩
    · obtain ⟨j, hj, hm⟩ := am_zip_mem ht
      have h1 := List.all_eq_true.mp hall _ hm
      simp only [Bool.and_eq_true, decide_eq_true_eq] at h1
      obtain ⟨h1, h2⟩ := h1
      have hjl : j < offs.size := by rw [← hlen]; exact (List.getElem?_eq_some_iff.mp hj).1
      have ho : offs[j]? = some offs[j] := Array.getElem?_eq_getElem hjl
      rw [ho] at h2
      have hxi : x.toInt = lo + (j : Int) := by rw [hx]; exact h1
      refine lv_tableIn F.1.1 F.1.2.1 hd (by omega) (by omega) (off := offs[j]) ?_ (of_decide_eq_true h2) (am_go F q (am_stk S (am_S1 S)))
      rw [hxi, show (lo + (j : Int) - lo).toNat = j by omega]
      exact ho
    · refine lv_tableOut F.1.1 F.1.2.1 hd ?_ hdf (am_go F q (am_stk S (am_S1 S)))
      by_cases h1 : x.toInt < lo
      · exact Or.inl h1
      · by_cases h2 : hi < x.toInt
        · exact Or.inr h2
        · exfalso
          have hj : (x.toInt - lo).toNat < (am_sw k pc).2.length := by omega
          have hm : (am_sw k pc).2[(x.toInt - lo).toNat]? = some (am_sw k pc).2[(x.toInt - lo).toNat] := List.getElem?_eq_getElem hj
          have hz : ((am_sw k pc).2[(x.toInt - lo).toNat], (x.toInt - lo).toNat) ∈ (am_sw k pc).2.zip (List.range (am_sw k pc).2.length) := List.mem_of_getElem? (i := (x.toInt - lo).toNat) (by rw [List.getElem?_zip_eq_some]; exact ⟨hm, List.getElem?_range hj⟩)
          have h3 := List.all_eq_true.mp hall _ hz
          simp only [Bool.and_eq_true, decide_eq_true_eq] at h3
          have h4 : (am_sw k pc).2[(x.toInt - lo).toNat].1.toInt = x.toInt := by rw [h3.1]; omega
          exact hno _ (List.mem_of_getElem? hm) (Int32.toInt_inj.mp h4.symm)
  · exact q.elim
theorem am_lk_out {x : Int32} {dflt : Int} : ∀ (l : List (Int32 × Nat)) (ps : List (Int × Int)), l.length = ps.length → (∀ q ∈ l.zip ps, q.1.1.toInt = q.2.1) → (∀ q ∈ l, ¬ x = q.1) → Op.lookupswitch.offset ps dflt x.toInt = dflt
  | [], [], _, _, _ => rfl
  | [], p :: ps, h, _, _ => by cases h
  | a :: l, [], h, _, _ => by cases h
  | a :: l, (v, o) :: ps, h, h1, h2 => by
    have e : a.1.toInt = v := h1 (a, (v, o)) List.mem_cons_self
    rw [lv_osw (h2 a List.mem_cons_self) e]
    exact am_lk_out l ps (Nat.succ.inj h) (fun q hq => h1 q (List.mem_cons_of_mem _ hq)) (fun q hq => h2 q (List.mem_cons_of_mem _ hq))
theorem am_lk_in {x : Int32} {dflt : Int} {pc : Nat} {Fn : Nat → Prop} {d : Nat} (hdf : (pc : Int) + dflt = (d : Int)) : ∀ (l : List (Int32 × Nat)) (ps : List (Int × Int)), l.length = ps.length → (∀ q ∈ l.zip ps, q.1.1.toInt = q.2.1 ∧ (pc : Int) + q.2.2 = (q.1.2 : Int)) → am_swc x Fn d l → ∃ (off : Int) (t : Nat), Op.lookupswitch.offset ps dflt x.toInt = off ∧ (pc : Int) + off = (t : Int) ∧ Fn t
  | [], [], _, _, h3 => ⟨dflt, d, rfl, hdf, h3⟩
  | [], p :: ps, h, _, _ => by cases h
  | a :: l, [], h, _, _ => by cases h
  | a :: l, (v, o) :: ps, h, h1, h3 => by
    have e := h1 (a, (v, o)) List.mem_cons_self
    by_cases hx : x = a.1
    · refine ⟨o, a.2, ?_, e.2, h3.1 hx⟩
      have hv : x.toInt = v := by rw [hx]; exact e.1
      rw [hv]
      simp [Op.lookupswitch.offset]
    · rw [lv_osw hx e.1]
      exact am_lk_in hdf l ps (Nat.succ.inj h) (fun q hq => h1 q (List.mem_cons_of_mem _ hq)) (h3.2 hx)
theorem am_i_lookupswitch {dflt : Int} {ps : Array (Int × Int)} {len : Nat} (F : am_Fr sa1 sa2 dC dI dA l k p e R s m args below meth cd A ad0 n0 X0 Q Qf) (S : am_St dC dI dA k A s ad0 n0 X0 ad H locs ls L st h c s') (hd : decode (am_cc k) pc = .ok (.lookupswitch dflt ps, len)) (hchk : am_chk k (pc, .lookupswitch dflt ps, len, a, b) = true) (q : am_x (am_T sa1 sa2 dC dI dA l) k pc (.lookupswitch dflt ps) a b L st h c s' Q) : W p l e R s m args below meth cd H locs c s' Qf (F0 m pc ls (st.map (am_cv ad))) := by
  dsimp only [am_x, am_i1] at q
  dsimp only [am_chk, am_swK] at hchk
  simp only [Bool.and_eq_true, decide_eq_true_eq] at hchk
  obtain ⟨⟨⟨hdf, hlen⟩, hsort⟩, hall⟩ := hchk
  have hlen : (am_sw k pc).2.length = ps.toList.length := Nat.eq_of_beq_eq_true hlen
  split at q
  · rename_i x r
    obtain ⟨off, t, h1, h2, q⟩ := am_lk_in hdf _ _ hlen (fun q hq => by
      have h9 := List.all_eq_true.mp hall q hq
      simpa only [Bool.and_eq_true, decide_eq_true_eq] using h9) q
    exact lv_lookup F.1.1 F.1.2.1 hd hsort h1 h2 (am_go F q (am_stk S (am_S1 S)))
  · exact q.elim
theorem am_i_ireturn  (F : am_Fr sa1 sa2 dC dI dA l k p e R s m args below meth cd A ad0 n0 X0 Q Qf) (S : am_St dC dI dA k A s ad0 n0 X0 ad H locs ls L st h c s') (hd : decode (am_cc k) pc = .ok (.ireturn, 1)) (hrc : am_rc k = 1) (q : am_x (am_T sa1 sa2 dC dI dA l) k pc (.ireturn) a b L st h c s' Q) : W p l e R s m args below meth cd H locs c s' Qf (F0 m pc ls (st.map (am_cv ad))) := by
  dsimp only [am_x] at q
  split at q
  · rename_i x
    obtain ⟨q0, q⟩ := q
    have hri : am_ri k = .ireturn := by unfold am_ri; rw [hrc]; rfl
    have hrv : am_rv k (some (.int x)) := by unfold am_rv; rw [hrc]; exact ⟨x, rfl, q0⟩
    exact W.widen S.2.2.2.2.2.2.2.1 S.2.2.2.2.2.2.2.2 (F.2.2.2.1 (some (.int x)) h ad H locs ls pc q S.1 S.2.2.2.2.1 S.2.2.2.2.2.1 S.2.2.2.2.2.2.1 hrv (by rw [hri]; exact hd))
  · exact q.elim
theorem am_i_lreturn  (F : am_Fr sa1 sa2 dC dI dA l k p e R s m args below meth cd A ad0 n0 X0 Q Qf) (S : am_St dC dI dA k A s ad0 n0 X0 ad H locs ls L st h c s') (hd : decode (am_cc k) pc = .ok (.lreturn, 1)) (hrc : am_rc k = 2) (q : am_x (am_T sa1 sa2 dC dI dA l) k pc (.lreturn) a b L st h c s' Q) : W p l e R s m args below meth cd H locs c s' Qf (F0 m pc ls (st.map (am_cv ad))) := by
  dsimp only [am_x] at q
  split at q
  · rename_i x
    have hri : am_ri k = .lreturn := by unfold am_ri; rw [hrc]; rfl
    have hrv : am_rv k (some (.long x)) := by unfold am_rv; rw [hrc]; exact ⟨x, rfl⟩
    exact W.widen S.2.2.2.2.2.2.2.1 S.2.2.2.2.2.2.2.2 (F.2.2.2.1 (some (.long x)) h ad H locs ls pc q S.1 S.2.2.2.2.1 S.2.2.2.2.2.1 S.2.2.2.2.2.2.1 hrv (by rw [hri]; exact hd))
  · exact q.elim
theorem am_i_freturn  (F : am_Fr sa1 sa2 dC dI dA l k p e R s m args below meth cd A ad0 n0 X0 Q Qf) (S : am_St dC dI dA k A s ad0 n0 X0 ad H locs ls L st h c s') (hd : decode (am_cc k) pc = .ok (.freturn, 1)) (hrc : am_rc k = 3) (q : am_x (am_T sa1 sa2 dC dI dA l) k pc (.freturn) a b L st h c s' Q) : W p l e R s m args below meth cd H locs c s' Qf (F0 m pc ls (st.map (am_cv ad))) := by
  dsimp only [am_x] at q
  split at q
  · rename_i x
    have hri : am_ri k = .freturn := by unfold am_ri; rw [hrc]; rfl
    have hrv : am_rv k (some (.float x)) := by unfold am_rv; rw [hrc]; exact ⟨x, rfl⟩
    exact W.widen S.2.2.2.2.2.2.2.1 S.2.2.2.2.2.2.2.2 (F.2.2.2.1 (some (.float x)) h ad H locs ls pc q S.1 S.2.2.2.2.1 S.2.2.2.2.2.1 S.2.2.2.2.2.2.1 hrv (by rw [hri]; exact hd))
  · exact q.elim
theorem am_i_return_  (F : am_Fr sa1 sa2 dC dI dA l k p e R s m args below meth cd A ad0 n0 X0 Q Qf) (S : am_St dC dI dA k A s ad0 n0 X0 ad H locs ls L st h c s') (hd : decode (am_cc k) pc = .ok (.return_, 1)) (hrc : am_rc k = 0) (q : am_x (am_T sa1 sa2 dC dI dA l) k pc (.return_) a b L st h c s' Q) : W p l e R s m args below meth cd H locs c s' Qf (F0 m pc ls (st.map (am_cv ad))) := by
  dsimp only [am_x] at q
  split at q
  · have hri : am_ri k = .return_ := by unfold am_ri; rw [hrc]; rfl
    have hrv : am_rv k none := by unfold am_rv; rw [hrc]; exact (rfl : (none : Option Value) = none)
    exact W.widen S.2.2.2.2.2.2.2.1 S.2.2.2.2.2.2.2.2 (F.2.2.2.1 none h ad H locs ls pc q S.1 S.2.2.2.2.1 S.2.2.2.2.2.1 S.2.2.2.2.2.2.1 hrv (by rw [hri]; exact hd))
  · exact q.elim
/-- a new cell: what was known is known of the longer map -/
theorem am_cv_ad {ad' : Nat → Nat} {v : Value} (hv : am_vok h v) (hag : ∀ i, (i < hn h ∨ 1000000 ≤ i) → ad' i = ad i) : am_cv ad' v = am_cv ad v := by
  cases v <;> first | rfl | skip
  exact congrArg Value.ref (hag _ hv)
theorem am_cv_ads {ad' : Nat → Nat} (hag : ∀ i, (i < hn h ∨ 1000000 ≤ i) → ad' i = ad i) : ∀ {st : List Value}, (∀ v ∈ st, am_vok h v) → st.map (am_cv ad') = st.map (am_cv ad) := fun hv => List.map_congr_left (fun v hm => am_cv_ad (hv v hm) hag)
theorem am_vok_le {h' : AH} {v : Value} (hle : hn h ≤ hn h') (hv : am_vok h v) : am_vok h' v := by
  cases v <;> first | trivial | skip
  rcases (show _ < hn h ∨ 1000000 ≤ _ from hv) with z | z
  · exact Or.inl (Nat.lt_of_lt_of_le z hle)
  · exact Or.inr z
theorem am_ag_new {q : Nat} (hlt : hn h < 1000000) : ∀ i, (i < hn h ∨ 1000000 ≤ i) → va_up ad (hn h) q i = ad i := fun i hi => va_up_ne _ _ (by omega)
/-- the walk's record with another heap and map -/
theorem am_grow {h' : AH} {ad' : Nat → Nat} {H' : Heap} {locs' : List Loc} {c2 s2 : Nat} {st' : List Value} (S : am_St dC dI dA k A s ad0 n0 X0 ad H locs ls L st h c s') (hag : ∀ i, (i < hn h ∨ 1000000 ≤ i) → ad' i = ad i) (hle : hn h ≤ hn h') (hX' : hX h' = hX h) (hW : am_Wd dC dI dA ad' h' A s H' locs') (hv : ∀ v ∈ st', am_vok h' v) (hc : c2 ≤ am_bc k) (hs : s2 ≤ am_bs k) : am_St dC dI dA k A s ad0 n0 X0 ad' H' locs' ls L st' h' c2 s2 :=
  ⟨hW, ⟨S.2.1.1, S.2.1.2.1, fun i v z => by rw [am_cv_ad (S.2.2.2.1 i v z) hag]; exact S.2.1.2.2 i v z⟩, hv, fun i v z => am_vok_le hle (S.2.2.2.1 i v z), fun i hi => (hag i (hi.elim (fun z => Or.inl (Nat.lt_of_lt_of_le z S.2.2.2.2.2.1)) Or.inr)).trans (S.2.2.2.2.1 i hi), Nat.le_trans S.2.2.2.2.2.1 hle, hX'.trans S.2.2.2.2.2.2.1, hc, hs⟩
theorem am_ce_newO {q kd n : Nat} (hk : kd < 10) : am_ce dA (va_up ad (hn h) q) (hnew h kd n) (hn h) = .inr (kd, (List.range (am_nf kd)).map fun j => am_dv (am_ft kd j)) := by
  rw [am_ce_obj (show hK (hnew h kd n) (hn h) = kd from va_up_self _ _ _) (by omega)]
  refine congrArg (fun f => Sum.inr (kd, (List.range (am_nf kd)).map f)) (funext fun j => ?_)
  unfold am_fv am_dv
  rw [show hI (hnew h kd n) (hn h) j = 0 from if_pos rfl, show hL (hnew h kd n) (hn h) j = 0 from if_pos rfl, show hF (hnew h kd n) (hn h) j = 0 from if_pos rfl, show hR (hnew h kd n) (hn h) j = none from if_pos rfl]
  rfl
/-- the words of a class that can be made -/
theorem am_cpcP {k n a : Nat} (hb : Nat.blt n 10000 = true) (h1 : (am_find am_cpcL (am_oc k * 10000 + n)).any (fun q => Nat.beq q.1 a) = true) : am_in (.classLink (am_R (am_oc k)) n (am_cpn a)) := by
  cases hf : am_find am_cpcL (am_oc k * 10000 + n) with
  | none => rw [hf] at h1; cases h1
  | some x =>
    rw [hf] at h1
    have e1 : x.1 = a := Nat.eq_of_beq_eq_true h1
    subst e1
    have h2 := List.all_eq_true.mp am_cpc_ok _ (am_find_mem hf)
    obtain ⟨d1, d2⟩ := am_divmod (am_oc k) n (Nat.blt_eq.mp hb)
    unfold am_cpcB at h2
    rw [d1, d2] at h2
    exact am_get_in h2
theorem am_cpqP {k n : Nat} {f : Nat × Nat → Bool} (hb : Nat.blt n 10000 = true) (h1 : (am_find am_cpqL (am_oc k * 10000 + n)).any f = true) : ∃ x, f x = true ∧ am_in (.classLink (am_R (am_oc k)) n (am_cpn x.1)) := by
  cases hf : am_find am_cpqL (am_oc k * 10000 + n) with
  | none => rw [hf] at h1; cases h1
  | some x =>
    rw [hf] at h1
    refine ⟨x, h1, ?_⟩
    have h2 := List.all_eq_true.mp am_cpq_ok _ (am_find_mem hf)
    obtain ⟨d1, d2⟩ := am_divmod (am_oc k) n (Nat.blt_eq.mp hb)
    unfold am_cpcB at h2
    rw [d1, d2] at h2
    exact am_get_in h2
theorem am_cpn_lt {a : Nat} (ha : a < 10) : am_cpn a = am_R a := by
  have h : a = 0 ∨ a = 1 ∨ a = 2 ∨ a = 3 ∨ a = 4 ∨ a = 5 ∨ a = 6 ∨ a = 7 ∨ a = 8 ∨ a = 9 := by omega
  rcases h with rfl | rfl | rfl | rfl | rfl | rfl | rfl | rfl | rfl | rfl <;> rfl
theorem am_i_new {n : Nat} (F : am_Fr sa1 sa2 dC dI dA l k p e R s m args below meth cd A ad0 n0 X0 Q Qf) (S : am_St dC dI dA k A s ad0 n0 X0 ad H locs ls L st h c s') (hd : decode (am_cc k) pc = .ok (.new n, 3)) (hchk : am_chk k (pc, .new n, 3, a, b) = true) (q : am_x (am_T sa1 sa2 dC dI dA l) k pc (.new n) a b L st h c s' Q) : W p l e R s m args below meth cd H locs c s' Qf (F0 m pc ls (st.map (am_cv ad))) := by
  dsimp only [am_x] at q
  dsimp only [am_chk] at hchk
  simp only [Bool.and_eq_true] at hchk
  obtain ⟨⟨⟨-, hn0⟩, hcp⟩, ha⟩ := hchk
  have ha := Nat.blt_eq.mp ha
  obtain ⟨⟨hr1, hr2, hr3⟩, q⟩ := q
  obtain ⟨hc1, hc2, hc3, hc4⟩ := am_class ha
  obtain ⟨i1, i2⟩ := am_inst ha
  have hlk := am_cpcP hn0 hcp
  rw [am_cpn_lt ha] at hlk
  have hroom := am_hroom F
  refine va_new (ci := a) (fs := (List.range (am_nf a)).map fun j => am_dv (am_ft a j)) F.1.1 F.1.2.1 (am_hts F) hc2 (am_tyX a) hc3 (am_hown F) (am_hts F _ hlk) (am_hts F _ i1) (am_hts F _ i2) (am_hK F) S.1.1 S.1.2.1 S.1.2.2.1 (am_hA F) hc1 (fun j hj => ?_) (by omega) (by omega) hd (fun q0 H1 hP1 hD1 hS1 => ?_)
  · rw [(am_tyF ha hj).1]
    simp [vp_V, List.getD_eq_getElem?_getD, List.getElem?_map, List.getElem?_range hj]
  · have e1 := am_w_new (dA := dA) (ad := ad) (kd := a) (n := 0) (q := q0) S.1.2.2.2
    rw [am_ce_newO ha] at e1
    rw [← e1] at hP1 hD1
    have hag := am_ag_new (h := h) (ad := ad) (q := q0) (by omega)
    have e2 : ((.ref (hn h) :: st).map (am_cv (va_up ad (hn h) q0))) = .ref q0 :: st.map (am_cv ad) := by
      rw [List.map_cons, am_cv_ads hag S.2.2.1]
      exact congrArg (fun z => Value.ref z :: st.map (am_cv ad)) (va_up_self _ _ _)
    rw [← e2]
    exact am_go F q (am_grow S hag (Nat.le_succ _) rfl ⟨hP1, hD1, hS1, am_wf_new S.1.2.2.2 (by omega) (Or.inl ha)⟩ (am_vok_cons (Or.inl (Nat.lt_succ_self _)) (fun v hv => am_vok_le (Nat.le_succ _) (S.2.2.1 v hv))) hr2 hr3)
/-- a new row: the walk goes on over it -/
theorem am_newrow {kd q0 n : Nat} {r : List Value} {H1 : Heap} {pc1 : Nat} {x : Int32} (F : am_Fr sa1 sa2 dC dI dA l k p e R s m args below meth cd A ad0 n0 X0 Q Qf) (S : am_St dC dI dA k A s ad0 n0 X0 ad H locs ls L (.int x :: r) h c s') (hkd : kd ∈ am_tysK) (hroom : am_room h k c s' 1 n) (q : am_T sa1 sa2 dC dI dA l k pc1 L (.ref (hn h) :: r) (hnew h kd n) (c + 1) (s' + n) Q)
    (hP1 : va_P (dC, dI) vwCl (am_w dA ad h ++ [(q0, am_ce dA (va_up ad (hn h) q0) (hnew h kd n) (hn h))]) H1) (hD1 : va_D A (am_w dA ad h ++ [(q0, am_ce dA (va_up ad (hn h) q0) (hnew h kd n) (hn h))])) (hS1 : va_S A s.heap H1 locs) : W p l e R s m args below meth cd H1 locs (c + 1) (s' + n) Qf (F0 m pc1 ls (.ref q0 :: r.map (am_cv ad))) := by
  obtain ⟨hr1, hr2, hr3⟩ := hroom
  rw [← am_w_new S.1.2.2.2] at hP1 hD1
  have hag := am_ag_new (h := h) (ad := ad) (q := q0) (by omega)
  have e2 : ((.ref (hn h) :: r).map (am_cv (va_up ad (hn h) q0))) = .ref q0 :: r.map (am_cv ad) := by
    rw [List.map_cons, am_cv_ads hag (am_S1 S)]
    exact congrArg (fun z => Value.ref z :: r.map (am_cv ad)) (va_up_self _ _ _)
  rw [← e2]
  exact am_go F q (am_grow S hag (Nat.le_succ _) rfl ⟨hP1, hD1, hS1, am_wf_new S.1.2.2.2 (by omega) (Or.inr hkd)⟩ (am_vok_cons (Or.inl (Nat.lt_succ_self _)) (fun v hv => am_vok_le (Nat.le_succ _) (am_S1 S v hv))) hr2 hr3)
theorem am_ce_newI {q kd n : Nat} (hk : kd = 20 ∨ kd = 23 ∨ kd = 24) : am_ce dA (va_up ad (hn h) q) (hnew h kd n) (hn h) = .inl (dA kd, n, .inl (fun _ => 0)) := by
  rw [am_ce_arr (show hK (hnew h kd n) (hn h) = kd from va_up_self _ _ _) (by omega)]
  have e1 : hN (hnew h kd n) (hn h) = n := va_up_self _ _ _
  have e2 : hI (hnew h kd n) (hn h) = fun _ => 0 := am_z_eq
  unfold am_ar
  rw [e1, e2]
  rcases hk with rfl | rfl | rfl <;> rfl
theorem am_ce_newL {q n : Nat} : am_ce dA (va_up ad (hn h) q) (hnew h 21 n) (hn h) = .inl (dA 21, n, .inr (.inl (fun _ => 0))) := by
  rw [am_ce_arr (show hK (hnew h 21 n) (hn h) = 21 from va_up_self _ _ _) (by omega)]
  have e1 : hN (hnew h 21 n) (hn h) = n := va_up_self _ _ _
  have e2 : hL (hnew h 21 n) (hn h) = fun _ => 0 := am_z_eq
  unfold am_ar
  rw [e1, e2]
  rfl
theorem am_ce_newF {q n : Nat} : am_ce dA (va_up ad (hn h) q) (hnew h 22 n) (hn h) = .inl (dA 22, n, .inr (.inr (.inl (fun _ => 0)))) := by
  rw [am_ce_arr (show hK (hnew h 22 n) (hn h) = 22 from va_up_self _ _ _) (by omega)]
  have e1 : hN (hnew h 22 n) (hn h) = n := va_up_self _ _ _
  have e2 : hF (hnew h 22 n) (hn h) = fun _ => 0 := am_z_eq
  unfold am_ar
  rw [e1, e2]
  rfl
theorem am_ce_newR {q kd n : Nat} (hk : 30 ≤ kd) : am_ce dA (va_up ad (hn h) q) (hnew h kd n) (hn h) = .inl (dA kd, n, .inr (.inr (.inr (.inr (fun _ => none))))) := by
  rw [am_ce_arr (show hK (hnew h kd n) (hn h) = kd from va_up_self _ _ _) (by omega), am_arq hk]
  have e1 : hN (hnew h kd n) (hn h) = n := va_up_self _ _ _
  have e2 : ∀ j, hR (hnew h kd n) (hn h) j = none := fun j => if_pos rfl
  rw [e1]
  refine congrArg (fun f => Sum.inl (dA kd, n, Sum.inr (Sum.inr (Sum.inr (Sum.inr f))))) (funext fun j => ?_)
  rw [e2]
  rfl
theorem am_i_newarray {t : ArrayType} (F : am_Fr sa1 sa2 dC dI dA l k p e R s m args below meth cd A ad0 n0 X0 Q Qf) (S : am_St dC dI dA k A s ad0 n0 X0 ad H locs ls L st h c s') (hd : decode (am_cc k) pc = .ok (.newarray t, 2)) (hchk : am_chk k (pc, .newarray t, 2, a, b) = true) (q : am_x (am_T sa1 sa2 dC dI dA l) k pc (.newarray t) a b L st h c s' Q) : W p l e R s m args below meth cd H locs c s' Qf (F0 m pc ls (st.map (am_cv ad))) := by
  dsimp only [am_x, am_i1] at q
  dsimp only [am_chk] at hchk
  simp only [Bool.and_eq_true] at hchk
  obtain ⟨-, hchk⟩ := hchk
  have hroom := am_hroom F
  split at q
  · rename_i x r
    obtain ⟨q1, q2, q3, q⟩ := q
    match t, hd, hchk with
    | .int, hd, hchk =>
      have ha : a = 20 := Nat.eq_of_beq_eq_true hchk
      subst ha
      refine va_newa (atype := .int) (ty := .int) (a0 := (x.toNatClampNeg, .inl (fun _ => 0))) F.1.1 F.1.2.1 (am_hts F _ (am_arrc (ty := .int) (by simp))) rfl (am_hK F) S.1.1 S.1.2.1 S.1.2.2.1 (am_hA F) (fun cA => vp_cell_i _ _ _) q1 rfl (by simp only [componentBytes]; omega) (by have := q3.2.1; omega) (by have := q3.2.2; omega) hd (fun q0 cA H1 hK1 hP1 hD1 hS1 => ?_)
      have hcA : cA = dA 20 := am_cA (kd := 20) (by decide) (am_hK F) hK1
      subst hcA
      exact am_newrow (kd := 20) F S (by decide) q3 q (by rw [am_ce_newI (by decide)]; exact hP1) (by rw [am_ce_newI (by decide)]; exact hD1) hS1
    | .float, hd, hchk =>
      have ha : a = 22 := Nat.eq_of_beq_eq_true hchk
      subst ha
      refine va_newa (atype := .float) (ty := .float) (a0 := (x.toNatClampNeg, .inr (.inr (.inl (fun _ => 0))))) F.1.1 F.1.2.1 (am_hts F _ (am_arrc (ty := .float) (by simp))) rfl (am_hK F) S.1.1 S.1.2.1 S.1.2.2.1 (am_hA F) (fun cA => vp_cell_f _ _ _) q1 rfl (by simp only [componentBytes]; omega) (by have := q3.2.1; omega) (by have := q3.2.2; omega) hd (fun q0 cA H1 hK1 hP1 hD1 hS1 => ?_)
      have hcA : cA = dA 22 := am_cA (kd := 22) (by decide) (am_hK F) hK1
      subst hcA
      exact am_newrow (kd := 22) F S (by decide) q3 q (by rw [am_ce_newF]; exact hP1) (by rw [am_ce_newF]; exact hD1) hS1
    | .char, hd, hchk =>
      have ha : a = 24 := Nat.eq_of_beq_eq_true hchk
      subst ha
      refine va_newa (atype := .char) (ty := .char) (a0 := (x.toNatClampNeg, .inl (fun _ => 0))) F.1.1 F.1.2.1 (am_hts F _ (am_arrc (ty := .char) (by simp))) rfl (am_hK F) S.1.1 S.1.2.1 S.1.2.2.1 (am_hA F) (fun cA => vp_cell_i _ _ _) q1 rfl (by simp only [componentBytes]; omega) (by have := q3.2.1; omega) (by have := q3.2.2; omega) hd (fun q0 cA H1 hK1 hP1 hD1 hS1 => ?_)
      have hcA : cA = dA 24 := am_cA (kd := 24) (by decide) (am_hK F) hK1
      subst hcA
      exact am_newrow (kd := 24) F S (by decide) q3 q (by rw [am_ce_newI (by decide)]; exact hP1) (by rw [am_ce_newI (by decide)]; exact hD1) hS1
  · exact q.elim
theorem am_i_anewarray {n : Nat} (F : am_Fr sa1 sa2 dC dI dA l k p e R s m args below meth cd A ad0 n0 X0 Q Qf) (S : am_St dC dI dA k A s ad0 n0 X0 ad H locs ls L st h c s') (hd : decode (am_cc k) pc = .ok (.anewarray n, 3)) (hchk : am_chk k (pc, .anewarray n, 3, a, b) = true) (q : am_x (am_T sa1 sa2 dC dI dA l) k pc (.anewarray n) a b L st h c s' Q) : W p l e R s m args below meth cd H locs c s' Qf (F0 m pc ls (st.map (am_cv ad))) := by
  dsimp only [am_x, am_i1] at q
  dsimp only [am_chk] at hchk
  simp only [Bool.and_eq_true] at hchk
  obtain ⟨⟨⟨⟨-, hn0⟩, hcp⟩, ha1⟩, ha2⟩ := hchk
  have ha1 := Nat.le_of_ble_eq_true ha1
  have ha2 := Nat.le_of_ble_eq_true ha2
  have hroom := am_hroom F
  obtain ⟨x0, hx0, hlk⟩ := am_cpqP hn0 hcp
  have e0 : x0.1 = a := Nat.eq_of_beq_eq_true hx0
  rw [e0] at hlk
  split at q
  · rename_i x r
    obtain ⟨q1, q2, q3, q⟩ := q
    have hel : am_aty a = .object (am_cpn a) ∧ a ∈ am_tysK := by
      have h5 : a = 30 ∨ a = 31 ∨ a = 32 ∨ a = 33 := by omega
      rcases h5 with rfl | rfl | rfl | rfl <;> exact ⟨rfl, by decide⟩
    obtain ⟨-, -, -, hAO, -⟩ := am_hgs F
    refine va_newq (C := am_cpn a) F.1.1 F.1.2.1 (am_hown F) (am_hts F _ hlk) (hAO a ha1 ha2) (am_hK F) S.1.1 S.1.2.1 S.1.2.2.1 (am_hA F) q1 rfl (by omega) (by have := q3.2.1; omega) (by have := q3.2.2; omega) hd (fun q0 cA H1 hK1 hP1 hD1 hS1 => ?_)
    rw [← hel.1] at hK1
    have hcA : cA = dA a := am_cA hel.2 (am_hK F) hK1
    subst hcA
    exact am_newrow (kd := a) F S hel.2 q3 q (by rw [am_ce_newR ha1]; exact hP1) (by rw [am_ce_newR ha1]; exact hD1) hS1
  · exact q.elim
end AMN
