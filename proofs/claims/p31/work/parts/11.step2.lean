/-! own: fields, rows and new cells of the numbered machine, on the real one -/
section AMF
variable {sa1 sa2 : Nat} {dC : Nat → ClassId} {dI : Nat → Nat → Nat} {dA : Nat → ClassId} {l : Launch} {k pc a b : Nat} {L : List (Option Value)} {st : List Value} {h : AH} {c s' : Nat} {Q : AQ} {p : Program} {e : Env} {R : Room} {s : State} {m : MethodId} {args : Array Value} {below : List Frame} {meth : Method} {cd : Code} {A : Nat → Prop} {ad0 : Nat → Nat} {n0 : Nat} {X0 : Nat × (Nat → Int32)} {Qf : State → Prop} {ad : Nat → Nat} {H : Heap} {locs : List Loc} {ls : Array Slot}
theorem am_hts (F : am_Fr sa1 sa2 dC dI dA l k p e R s m args below meth cd A ad0 n0 X0 Q Qf) : ∀ w ∈ am_WS, w.before args s = true := F.1.2.2.2.2.1
theorem am_hown (F : am_Fr sa1 sa2 dC dI dA l k p e R s m args below meth cd A ad0 n0 X0 Q Qf) : s.vm.findClass (am_R (am_oc k)) = some m.cls := F.1.2.2.2.1
theorem am_hrt (F : am_Fr sa1 sa2 dC dI dA l k p e R s m args below meth cd A ad0 n0 X0 Q Qf) : meth.sig.returnType = am_rt k := F.1.2.2.2.2.2.1
theorem am_hnm (F : am_Fr sa1 sa2 dC dI dA l k p e R s m args below meth cd A ad0 n0 X0 Q Qf) : meth.name = (am_y k).name := F.1.2.2.2.2.2.2.2.2.1
theorem am_hroom (F : am_Fr sa1 sa2 dC dI dA l k p e R s m args below meth cd A ad0 n0 X0 Q Qf) : am_nF k ≤ R.frames ∧ am_nL k ≤ R.locals ∧ am_bc k ≤ R.cells ∧ am_bs k ≤ R.slots := F.1.2.2.2.2.2.2.2.2.2.1
theorem am_hK (F : am_Fr sa1 sa2 dC dI dA l k p e R s m args below meth cd A ad0 n0 X0 Q Qf) : va_K (dC, dI) vwCl (am_tys dA) s := F.1.2.2.2.2.2.2.2.2.2.2.2.1
theorem am_hA (F : am_Fr sa1 sa2 dC dI dA l k p e R s m args below meth cd A ad0 n0 X0 Q Qf) : ∀ q, s.heap.size ≤ q → A q := F.1.2.2.2.2.2.2.2.2.2.2.2.2.1
theorem am_hgs (F : am_Fr sa1 sa2 dC dI dA l k p e R s m args below meth cd A ad0 n0 X0 Q Qf) : am_gs sa1 sa2 A s s.heap := F.1.2.2.2.2.2.2.2.2.2.2.2.2.2
theorem am_world {h' : AH} {H' : Heap} {locs' : List Loc} {st' : List Value} (S : am_St dC dI dA k A s ad0 n0 X0 ad H locs ls L st h c s') (hn' : hn h' = hn h) (hX' : hX h' = hX h) (hW : am_Wd dC dI dA ad h' A s H' locs') (hv : ∀ v ∈ st', am_vok h v) : am_St dC dI dA k A s ad0 n0 X0 ad H' locs' ls L st' h' c s' := by
  have ev : ∀ v, am_vok h v → am_vok h' v := fun v hv => by
    unfold am_vok at hv ⊢
    rw [hn']
    exact hv
  exact ⟨hW, S.2.1, fun v z => ev v (hv v z), fun i v z => ev v (S.2.2.2.1 i v z), S.2.2.2.2.1, by rw [hn']; exact S.2.2.2.2.2.1, hX'.trans S.2.2.2.2.2.2.1, S.2.2.2.2.2.2.2.1, S.2.2.2.2.2.2.2.2⟩
/-- an entry of the fields' table -/
theorem am_fldP {k n a b : Nat} (hb : Nat.blt n 10000 = true) (h1 : (am_find am_fldL (am_oc k * 10000 + n)).any (fun q => Nat.beq q.1 a && Nat.beq q.2.1 b) = true) : a < 10 ∧ b < am_nf a ∧ am_in (.fieldLink (am_R (am_oc k)) n (am_TX a b).1 (am_TX a b).2.1 (am_TX a b).2.2.1) := by
  obtain ⟨⟨a', b', w'⟩, hf, hx⟩ := am_find_any h1
  simp only [Bool.and_eq_true] at hx
  have e1 : a' = a := Nat.eq_of_beq_eq_true hx.1
  have e2 : b' = b := Nat.eq_of_beq_eq_true hx.2
  subst e1
  subst e2
  have h2 := List.all_eq_true.mp am_fld_ok _ (am_find_mem hf)
  obtain ⟨d1, d2⟩ := am_divmod (am_oc k) n (Nat.blt_eq.mp hb)
  unfold am_fldB at h2
  simp only [Bool.and_eq_true, d1, d2] at h2
  exact ⟨Nat.blt_eq.mp h2.1.2, Nat.blt_eq.mp h2.2, am_get_in h2.1.1⟩
theorem am_fs_get {h : AH} {o a b : Nat} (hb : b < am_nf a) : ((List.range (am_nf a)).map (am_fv ad h o a))[b]? = some (am_fv ad h o a b) := by
  rw [List.getElem?_map, List.getElem?_range hb]
  rfl
theorem am_obj_at {o a : Nat} (z : am_is h o a) (ha : a < 10) : (am_w dA ad h)[o]? = some (ad o, .inr (a, (List.range (am_nf a)).map (am_fv ad h o a))) := by
  rw [am_w_get dA ad h z.1, am_ce_obj z.2 (by omega)]
theorem am_i_getfield {n : Nat} (F : am_Fr sa1 sa2 dC dI dA l k p e R s m args below meth cd A ad0 n0 X0 Q Qf) (S : am_St dC dI dA k A s ad0 n0 X0 ad H locs ls L st h c s') (hd : decode (am_cc k) pc = .ok (.getfield n, 3)) (hchk : am_chk k (pc, .getfield n, 3, a, b) = true) (q : am_x (am_T sa1 sa2 dC dI dA l) k pc (.getfield n) a b L st h c s' Q) : W p l e R s m args below meth cd H locs c s' Qf (F0 m pc ls (st.map (am_cv ad))) := by
  dsimp only [am_x, am_r1] at q
  dsimp only [am_chk] at hchk
  simp only [Bool.and_eq_true] at hchk
  obtain ⟨⟨-, hn⟩, hchk⟩ := hchk
  split at q
  · rename_i o r
    split at q
    · obtain ⟨rfl, q⟩ := q
      simp only [Bool.and_eq_true] at hchk
      have hoc : am_oc k = 15 := Nat.eq_of_beq_eq_true hchk.1
      have hown := am_hown F
      rw [hoc] at hown
      obtain ⟨-, -, -, -, -, hS6, -, -, -, -⟩ := am_hgs F
      obtain ⟨-, hco, hva, -⟩ := hS6.1 0 (by decide)
      have e1 : ad 1000001 = sa1 := (S.2.2.2.2.1 1000001 (Or.inr (by decide))).trans F.2.1.1
      have e2 : ad 1000002 = sa2 := (S.2.2.2.2.1 1000002 (Or.inr (by decide))).trans F.2.1.2
      split at q
      · have hi : n = 9 := Nat.eq_of_beq_eq_true hchk.2
        subst hi
        have K := vk_getf (q := sa1) F.1.1 F.1.2.1 hva S.1.2.2.1 hown (am_hts F _ am_sf9) (fun x z => z) hd (rest := r.map (am_cv ad)) (by rw [← e2]; exact am_go F q (am_stk S (am_vok_cons (Or.inr (by decide)) (am_S1 S))))
        rw [← e1] at K
        exact K
      · rename_i hb0
        have hi : n = 15 := by
          cases b with
          | zero => exact absurd rfl hb0
          | succ b => exact Nat.eq_of_beq_eq_true hchk.2
        subst hi
        have K := vk_getf (q := sa1) F.1.1 F.1.2.1 hco S.1.2.2.1 hown (am_hts F _ am_sf15) (fun x z => z) hd (rest := r.map (am_cv ad)) (am_go F q (am_stk S (am_vok_cons trivial (am_S1 S))))
        rw [← e1] at K
        exact K
    · rename_i h20
      have hchk : (am_find am_fldL (am_oc k * 10000 + n)).any (fun q => Nat.beq q.1 a && Nat.beq q.2.1 b) = true := by
        revert hchk
        split
        · exact absurd rfl h20
        · exact id
      obtain ⟨ha, hb, hlk⟩ := am_fldP hn hchk
      obtain ⟨hc1, hc2, -, -⟩ := am_class ha
      obtain ⟨z, q⟩ := q
      refine va_get F.1.1 F.1.2.1 (am_hts F) hc2 (am_hown F) (am_hK F) S.1.1 o (am_obj_at z ha) hc1 b hb (am_hts F _ hlk) (fun x z => z) (am_fs_get hb) hd ?_
      unfold am_fv
      split at q
      · rename_i hf
        simp only [hf]
        exact am_go F q (am_stk S (am_vok_cons trivial (am_S1 S)))
      · rename_i hf
        simp only [hf]
        exact am_go F q (am_stk S (am_vok_cons trivial (am_S1 S)))
      · rename_i hf
        simp only [hf]
        exact am_go F q (am_stk S (am_vok_cons trivial (am_S1 S)))
      · obtain ⟨x, hx, q⟩ := q
        rename_i f0 f1 f2
        have e1 : am_fv ad h o a b = .ref (ad x) := by
          unfold am_fv
          rw [hx]
          split
          · rename_i e; exact absurd e f0
          · rename_i e; exact absurd e f1
          · rename_i e; exact absurd e f2
          · rfl
        show W p l e R s m args below meth cd H locs c s' Qf (F0 m (pc + 3) ls (am_fv ad h o a b :: r.map (am_cv ad)))
        rw [e1]
        exact am_go F q (am_stk S (am_vok_cons (Or.inl (S.1.2.2.2.2.2 o b x z.1 hx)) (am_S1 S)))
  · exact q.elim
/-- a put, into a plain field or a final one -/
theorem am_putW {n o : Nat} {v : Value} {r : List Value} (F : am_Fr sa1 sa2 dC dI dA l k p e R s m args below meth cd A ad0 n0 X0 Q Qf) (S : am_St dC dI dA k A s ad0 n0 X0 ad H locs ls L st h c s') (hd : decode (am_cc k) pc = .ok (.putfield n, 3)) (ha : a < 10) (hb : b < am_nf a) (hlk : am_in (.fieldLink (am_R (am_oc k)) n (am_TX a b).1 (am_TX a b).2.1 (am_TX a b).2.2.1))
    (hfin : (am_TX a b).2.2.2 = true → (am_y k).name = "<init>" ∧ (am_TX a b).1 = am_R (am_oc k)) (z : am_is h o a) (hnv : narrow (am_tyX a b) v = v) (hfv : fits (am_tyX a b) v = true)
    (kk : ∀ (H1 : Heap) (locs1 : List Loc), va_P (dC, dI) vwCl ((am_w dA ad h).set o (ad o, .inr (a, ((List.range (am_nf a)).map (am_fv ad h o a)).set b v))) H1 → va_D A ((am_w dA ad h).set o (ad o, .inr (a, ((List.range (am_nf a)).map (am_fv ad h o a)).set b v))) → va_S A s.heap H1 locs1 → W p l e R s m args below meth cd H1 locs1 c s' Qf (F0 m (pc + 3) ls (r.map (am_cv ad)))) :
    W p l e R s m args below meth cd H locs c s' Qf (F0 m pc ls (v :: .ref (ad o) :: r.map (am_cv ad))) := by
  obtain ⟨hc1, hc2, hc3, hc4⟩ := am_class ha
  have hl : b < ((List.range (am_nf a)).map (am_fv ad h o a)).length := by simpa using hb
  cases hff : (am_TX a b).2.2.2 with
  | false => exact va_put F.1.1 F.1.2.1 (am_hts F) hc2 (am_tyX a) hc3 hc4 (am_hown F) (am_hK F) S.1.1 S.1.2.1 S.1.2.2.1 o (am_obj_at z ha) hc1 b hb (am_hts F _ hlk) (fun x z => z) hff (hc3 b hb) hnv hfv hl hd kk
  | true => exact va_putF F.1.1 F.1.2.1 (am_hts F) hc2 (am_tyX a) hc3 hc4 (am_hown F) (am_hK F) S.1.1 S.1.2.1 S.1.2.2.1 o (am_obj_at z ha) hc1 b hb (am_hts F _ hlk) (fun x z => z) hff ((am_hnm F).trans (hfin hff).1) (hfin hff).2 (hc3 b hb) hnv hfv hl hd kk
theorem am_ft3 {c b : Nat} (h0 : am_ft c b ≠ 0) (h1 : am_ft c b ≠ 1) (h2 : am_ft c b ≠ 2) (hc : c < 10) (hb : b < am_nf c) : am_ft c b = 3 := by
  have h3 : ((List.range 10).all fun c => (List.range (am_nf c)).all fun b => Nat.ble (am_ft c b) 3) = true := by decide +kernel
  have h4 := Nat.le_of_ble_eq_true (List.all_eq_true.mp (List.all_eq_true.mp h3 c (List.mem_range.mpr hc)) b (List.mem_range.mpr hb))
  omega
theorem am_i_putfield {n : Nat} (F : am_Fr sa1 sa2 dC dI dA l k p e R s m args below meth cd A ad0 n0 X0 Q Qf) (S : am_St dC dI dA k A s ad0 n0 X0 ad H locs ls L st h c s') (hd : decode (am_cc k) pc = .ok (.putfield n, 3)) (hchk : am_chk k (pc, .putfield n, 3, a, b) = true) (q : am_x (am_T sa1 sa2 dC dI dA l) k pc (.putfield n) a b L st h c s' Q) : W p l e R s m args below meth cd H locs c s' Qf (F0 m pc ls (st.map (am_cv ad))) := by
  dsimp only [am_x, am_vr] at q
  dsimp only [am_chk] at hchk
  simp only [Bool.and_eq_true] at hchk
  obtain ⟨⟨⟨-, hn⟩, hchk⟩, hfin⟩ := hchk
  obtain ⟨ha, hb, hlk⟩ := am_fldP hn hchk
  have hfin : (am_TX a b).2.2.2 = true → (am_y k).name = "<init>" ∧ (am_TX a b).1 = am_R (am_oc k) := by
    intro hff
    rw [hff] at hfin
    simp only [if_true, Bool.and_eq_true, decide_eq_true_eq] at hfin
    exact hfin
  split at q
  · rename_i v o r
    obtain ⟨z, q⟩ := q
    obtain ⟨t1, t2, t3, t4, t5⟩ := am_tyF ha hb
    split at q
    · rename_i hf
      unfold am_int at q
      split at q
      · rename_i x
        obtain ⟨q1, q⟩ := q
        have hnf : narrow (am_tyX a b) (.int x) = .int x ∧ fits (am_tyX a b) (.int x) = true := by
          rcases t2 hf with ⟨u1, u2⟩ | ⟨-, u2⟩
          · rw [u1] at q1
            rw [u2]
            rcases (show x = 0 ∨ x = 1 from q1) with rfl | rfl <;> exact ⟨rfl, rfl⟩
          · rw [u2]
            exact ⟨rfl, rfl⟩
        refine am_putW (v := .int x) F S hd ha hb hlk hfin z hnf.1 hnf.2 (fun H1 locs1 hP1 hD1 hS1 => ?_)
        rw [am_w_fI z.2 (by omega) hf] at hP1 hD1
        exact am_go F q (am_world S rfl rfl ⟨hP1, hD1, hS1, am_wf_sI S.1.2.2.2⟩ (am_S2 S))
      · exact q.elim
    · rename_i hf
      unfold am_long at q
      split at q
      · rename_i x
        refine am_putW (v := .long x) F S hd ha hb hlk hfin z (by rw [t3 hf]; rfl) (by rw [t3 hf]; rfl) (fun H1 locs1 hP1 hD1 hS1 => ?_)
        rw [am_w_fL z.2 (by omega) hf] at hP1 hD1
        exact am_go F q (am_world S rfl rfl ⟨hP1, hD1, hS1, am_wf_sL S.1.2.2.2⟩ (am_S2 S))
      · exact q.elim
    · rename_i hf
      unfold am_flt at q
      split at q
      · rename_i x
        refine am_putW (v := .float x) F S hd ha hb hlk hfin z (by rw [t4 hf]; rfl) (by rw [t4 hf]; rfl) (fun H1 locs1 hP1 hD1 hS1 => ?_)
        rw [am_w_fF z.2 (by omega) hf] at hP1 hD1
        exact am_go F q (am_world S rfl rfl ⟨hP1, hD1, hS1, am_wf_sF S.1.2.2.2⟩ (am_S2 S))
      · exact q.elim
    · rename_i f0 f1 f2
      unfold am_ref at q
      split at q
      · rename_i x
        obtain ⟨q1, q⟩ := q
        refine am_putW (v := .ref (ad x)) F S hd ha hb hlk hfin z (t5 f0 f1 f2 (ad x)).2 (t5 f0 f1 f2 (ad x)).1 (fun H1 locs1 hP1 hD1 hS1 => ?_)
        rw [am_w_fR z.2 (by omega) (am_ft3 f0 f1 f2 ha hb)] at hP1 hD1
        exact am_go F q (am_world S rfl rfl ⟨hP1, hD1, hS1, am_wf_sR S.1.2.2.2 q1⟩ (am_S2 S))
      · exact q.elim
  · exact q.elim
/-- rows -/
theorem am_arrI {o kd : Nat} (ho : o < hn h) (hk : hK h o = kd) (hkd : kd = 20 ∨ kd = 23 ∨ kd = 24) : (am_w dA ad h)[o]? = some (ad o, .inl (dA kd, hN h o, .inl (hI h o))) := by
  rw [am_w_get dA ad h ho, am_ce_arr hk (by omega)]
  rcases hkd with rfl | rfl | rfl <;> rfl
theorem am_arrL {o : Nat} (ho : o < hn h) (hk : hK h o = 21) : (am_w dA ad h)[o]? = some (ad o, .inl (dA 21, hN h o, .inr (.inl (hL h o)))) := by
  rw [am_w_get dA ad h ho, am_ce_arr hk (by omega)]
  rfl
theorem am_arrF {o : Nat} (ho : o < hn h) (hk : hK h o = 22) : (am_w dA ad h)[o]? = some (ad o, .inl (dA 22, hN h o, .inr (.inr (.inl (hF h o))))) := by
  rw [am_w_get dA ad h ho, am_ce_arr hk (by omega)]
  rfl
theorem am_arrR {o kd : Nat} (ho : o < hn h) (hk : hK h o = kd) (hkd : 30 ≤ kd) : (am_w dA ad h)[o]? = some (ad o, .inl (dA kd, hN h o, .inr (.inr (.inr (.inr (fun j => (hR h o j).map ad)))))) := by
  rw [am_w_get dA ad h ho, am_ce_arr hk (by omega), am_arq hkd]
theorem am_i_faload  (F : am_Fr sa1 sa2 dC dI dA l k p e R s m args below meth cd A ad0 n0 X0 Q Qf) (S : am_St dC dI dA k A s ad0 n0 X0 ad H locs ls L st h c s') (hd : decode (am_cc k) pc = .ok (.faload, 1))  (q : am_x (am_T sa1 sa2 dC dI dA l) k pc (.faload) a b L st h c s' Q) : W p l e R s m args below meth cd H locs c s' Qf (F0 m pc ls (st.map (am_cv ad))) := by
  dsimp only [am_x, am_ir] at q
  split at q
  · rename_i x o r
    obtain ⟨⟨z1, z2, z3⟩, q⟩ := q
    obtain ⟨t0, ht⟩ := am_ty_at dA (kd := 22) (by decide)
    exact va_fald F.1.1 F.1.2.1 (am_hK F) S.1.1 o t0 (am_arrF z1 z2) ht z3 hd (am_go F q (am_stk S (am_vok_cons trivial (am_S2 S))))
  · exact q.elim
theorem am_i_caload  (F : am_Fr sa1 sa2 dC dI dA l k p e R s m args below meth cd A ad0 n0 X0 Q Qf) (S : am_St dC dI dA k A s ad0 n0 X0 ad H locs ls L st h c s') (hd : decode (am_cc k) pc = .ok (.caload, 1))  (q : am_x (am_T sa1 sa2 dC dI dA l) k pc (.caload) a b L st h c s' Q) : W p l e R s m args below meth cd H locs c s' Qf (F0 m pc ls (st.map (am_cv ad))) := by
  dsimp only [am_x, am_ir] at q
  split at q
  · rename_i x o r
    obtain ⟨⟨z1, z2, z3⟩, q⟩ := q
    obtain ⟨t0, ht⟩ := am_ty_at dA (kd := 24) (by decide)
    exact va_cald F.1.1 F.1.2.1 (am_hK F) S.1.1 o t0 (am_arrI z1 z2 (by decide)) ht z3 hd (am_go F q (am_stk S (am_vok_cons trivial (am_S2 S))))
  · exact q.elim
theorem am_i_iaload  (F : am_Fr sa1 sa2 dC dI dA l k p e R s m args below meth cd A ad0 n0 X0 Q Qf) (S : am_St dC dI dA k A s ad0 n0 X0 ad H locs ls L st h c s') (hd : decode (am_cc k) pc = .ok (.iaload, 1))  (q : am_x (am_T sa1 sa2 dC dI dA l) k pc (.iaload) a b L st h c s' Q) : W p l e R s m args below meth cd H locs c s' Qf (F0 m pc ls (st.map (am_cv ad))) := by
  dsimp only [am_x, am_ir] at q
  split at q
  · rename_i x o r
    split at q
    · obtain ⟨⟨rfl, z3⟩, q⟩ := q
      obtain ⟨x1, x2, x3⟩ := F.2.2.1
      have e0 : ad 1000000 = ad0 1000000 := S.2.2.2.2.1 1000000 (Or.inr (by decide))
      have eX : hX h = X0 := S.2.2.2.2.2.2.1
      rw [eX] at z3 q
      have K := va_sld F.1.1 F.1.2.1 x1 x2 x3 S.1.2.2.1 z3 hd (rest := r.map (am_cv ad)) (am_go F q (am_stk S (am_vok_cons trivial (am_S2 S))))
      rw [← e0] at K
      exact K
    · obtain ⟨⟨z1, z2, z3⟩, q⟩ := q
      obtain ⟨t0, ht⟩ := am_ty_at dA (kd := 20) (by decide)
      exact va_iald F.1.1 F.1.2.1 (am_hK F) S.1.1 o t0 (am_arrI z1 z2 (by decide)) ht z3 hd (am_go F q (am_stk S (am_vok_cons trivial (am_S2 S))))
  · exact q.elim
theorem am_byt {x : Int32} (h : vp_in x 8) : (fun j : Nat => Value.int (([[43, 45, 42, 47, 40, 41, 44, 46]].getD 0 ([] : List Int32)).getD j 0)) x.toNatClampNeg = .int (am_nt [43, 45, 42, 47, 40, 41, 44, 46] x.toNatClampNeg 0) := by
  have hlt : x.toNatClampNeg < 8 := Nat.not_le.mp fun q => h (Or.inr q)
  generalize x.toNatClampNeg = j at hlt ⊢
  have hj : j = 0 ∨ j = 1 ∨ j = 2 ∨ j = 3 ∨ j = 4 ∨ j = 5 ∨ j = 6 ∨ j = 7 := by omega
  rcases hj with rfl | rfl | rfl | rfl | rfl | rfl | rfl | rfl <;> rfl
theorem am_i_baload  (F : am_Fr sa1 sa2 dC dI dA l k p e R s m args below meth cd A ad0 n0 X0 Q Qf) (S : am_St dC dI dA k A s ad0 n0 X0 ad H locs ls L st h c s') (hd : decode (am_cc k) pc = .ok (.baload, 1))  (q : am_x (am_T sa1 sa2 dC dI dA l) k pc (.baload) a b L st h c s' Q) : W p l e R s m args below meth cd H locs c s' Qf (F0 m pc ls (st.map (am_cv ad))) := by
  dsimp only [am_x, am_ir] at q
  split at q
  · rename_i x o r
    split at q
    · obtain ⟨⟨rfl, z3⟩, q⟩ := q
      obtain ⟨-, -, -, -, -, hS6, -, -, -, -⟩ := am_hgs F
      obtain ⟨-, -, -, hby⟩ := hS6.1 0 (by decide)
      have e2 : ad 1000002 = sa2 := (S.2.2.2.2.1 1000002 (Or.inr (by decide))).trans F.2.1.2
      have K := va_tb (v := .int (am_nt [43, 45, 42, 47, 40, 41, 44, 46] x.toNatClampNeg 0)) F.1.1 F.1.2.1 hby S.1.2.2.1 (i := x) z3 (am_byt z3) hd (rest := r.map (am_cv ad)) (am_go F q (am_stk S (am_vok_cons trivial (am_S2 S))))
      rw [← e2] at K
      exact K
    · exact q.elim
  · exact q.elim
theorem am_kind {o : Nat} (hw : am_wf h) (ho : o < hn h) (h30 : 30 ≤ hK h o) : hK h o ∈ am_tysK := by
  rcases hw.2.1 o ho with z | z
  · omega
  · exact z
theorem am_kind5 {kd : Nat} (hm : kd ∈ am_tysK) (h30 : 30 ≤ kd) : kd = 30 ∨ kd = 31 ∨ kd = 32 ∨ kd = 33 ∨ kd = 34 := by
  have h1 : kd = 20 ∨ kd = 22 ∨ kd = 24 ∨ kd = 30 ∨ kd = 31 ∨ kd = 32 ∨ kd = 33 ∨ kd = 34 := by simpa [am_tysK] using hm
  omega
theorem am_aldg {cc : ByteArray} {rest : List Value} {D : va_G} {cl : List vw_C} {tys : List (ClassId × FieldType)} {ws : va_W} {aa : Nat} {cells slots : Nat} (hexec : p.tables.exec = Jvm.exec) (hb : cd.code = cc) (hK : va_K D cl tys s) (hP : va_P D cl ws H) (q0 t0 : Nat) {cA : ClassId} {n : Nat} {f : Nat → Option Nat} (ha : ws[q0]? = some (aa, .inl (cA, n, .inr (.inr (.inr (.inr f)))))) (ht : tys[t0]? = some (cA, .array .int)) {i : Int32} (hin : vp_in i n) (hdg : decode cc pc = .ok (.aaload, 1))
    (kk : W p l e R s m args below meth cd H locs cells slots Qf (F0 m (pc + 1) ls (va_rf (f i.toNatClampNeg) :: rest))) : W p l e R s m args below meth cd H locs cells slots Qf (F0 m pc ls (.int i :: .ref aa :: rest)) := by
  have hlt : i.toNatClampNeg < n := Nat.not_le.mp fun q => hin (Or.inr q)
  exact W.aald (v := va_rf (f i.toNatClampNeg)) (ty := .array .int) hexec hb (hP q0 _ ha) ((hK.2 t0 _ ht).1 n (fun j => va_rf (f j))) rfl (fun q => by cases q) (by show ¬ (i < 0 ∨ (arrV _ _ _).slots.size ≤ _); rw [arrV_size]; exact hin) (by show (arrV _ _ _).slots[_]? = _; rw [arrV_read _ _ hlt]) rfl rfl hdg kk
theorem am_i_aaload  (F : am_Fr sa1 sa2 dC dI dA l k p e R s m args below meth cd A ad0 n0 X0 Q Qf) (S : am_St dC dI dA k A s ad0 n0 X0 ad H locs ls L st h c s') (hd : decode (am_cc k) pc = .ok (.aaload, 1))  (q : am_x (am_T sa1 sa2 dC dI dA l) k pc (.aaload) a b L st h c s' Q) : W p l e R s m args below meth cd H locs c s' Qf (F0 m pc ls (st.map (am_cv ad))) := by
  dsimp only [am_x, am_ir] at q
  split at q
  · rename_i x o r
    obtain ⟨⟨z1, z2, z3⟩, y, hy, q⟩ := q
    have hm := am_kind S.1.2.2.2 z1 z2
    obtain ⟨t0, ht⟩ := am_ty_at dA hm
    have g := am_go F q (am_stk S (am_vok_cons (v := .ref y) (Or.inl (S.1.2.2.2.2.2 o _ y z1 hy)) (am_S2 S)))
    have e1 : va_rf ((fun j => (hR h o j).map ad) x.toNatClampNeg) = .ref (ad y) := by
      show va_rf ((hR h o x.toNatClampNeg).map ad) = _
      rw [hy]
      rfl
    have hw := am_arrR (dA := dA) (ad := ad) z1 rfl z2
    rcases am_kind5 hm z2 with e | e | e | e | e
    all_goals rw [e] at ht hw
    · exact va_aldq F.1.1 F.1.2.1 (am_hK F) S.1.1 o t0 hw ht z3 hd (by rw [e1]; exact g)
    · exact va_aldq F.1.1 F.1.2.1 (am_hK F) S.1.1 o t0 hw ht z3 hd (by rw [e1]; exact g)
    · exact va_aldq F.1.1 F.1.2.1 (am_hK F) S.1.1 o t0 hw ht z3 hd (by rw [e1]; exact g)
    · exact va_aldq F.1.1 F.1.2.1 (am_hK F) S.1.1 o t0 hw ht z3 hd (by rw [e1]; exact g)
    · exact am_aldg F.1.1 F.1.2.1 (am_hK F) S.1.1 o t0 hw ht z3 hd (by rw [e1]; exact g)
  · exact q.elim
theorem am_i_iastore  (F : am_Fr sa1 sa2 dC dI dA l k p e R s m args below meth cd A ad0 n0 X0 Q Qf) (S : am_St dC dI dA k A s ad0 n0 X0 ad H locs ls L st h c s') (hd : decode (am_cc k) pc = .ok (.iastore, 1))  (q : am_x (am_T sa1 sa2 dC dI dA l) k pc (.iastore) a b L st h c s' Q) : W p l e R s m args below meth cd H locs c s' Qf (F0 m pc ls (st.map (am_cv ad))) := by
  dsimp only [am_x, am_vir] at q
  split at q
  · rename_i v x o r
    obtain ⟨⟨z1, z2, z3⟩, q⟩ := q
    unfold am_int at q
    split at q
    · rename_i y
      obtain ⟨t0, ht⟩ := am_ty_at dA (kd := 20) (by decide)
      refine va_iast F.1.1 F.1.2.1 (am_hK F) S.1.1 S.1.2.1 S.1.2.2.1 o t0 (am_arrI z1 z2 (by decide)) ht z3 hd (fun H1 locs1 hP1 hD1 hS1 => ?_)
      rw [am_w_aI z2 (by decide)] at hP1 hD1
      exact am_go F q (am_world S rfl rfl ⟨hP1, hD1, hS1, am_wf_sI S.1.2.2.2⟩ (am_S3 S))
    · exact q.elim
  · exact q.elim
theorem am_i_castore  (F : am_Fr sa1 sa2 dC dI dA l k p e R s m args below meth cd A ad0 n0 X0 Q Qf) (S : am_St dC dI dA k A s ad0 n0 X0 ad H locs ls L st h c s') (hd : decode (am_cc k) pc = .ok (.castore, 1))  (q : am_x (am_T sa1 sa2 dC dI dA l) k pc (.castore) a b L st h c s' Q) : W p l e R s m args below meth cd H locs c s' Qf (F0 m pc ls (st.map (am_cv ad))) := by
  dsimp only [am_x, am_vir] at q
  split at q
  · rename_i v x o r
    obtain ⟨⟨z1, z2, z3⟩, q⟩ := q
    unfold am_int at q
    split at q
    · rename_i y
      obtain ⟨t0, ht⟩ := am_ty_at dA (kd := 24) (by decide)
      refine va_cast F.1.1 F.1.2.1 (am_hK F) S.1.1 S.1.2.1 S.1.2.2.1 o t0 (am_arrI z1 z2 (by decide)) ht z3 hd (fun H1 locs1 hP1 hD1 hS1 => ?_)
      rw [am_w_aI z2 (by decide)] at hP1 hD1
      exact am_go F q (am_world S rfl rfl ⟨hP1, hD1, hS1, am_wf_sI S.1.2.2.2⟩ (am_S3 S))
    · exact q.elim
  · exact q.elim
theorem am_i_fastore  (F : am_Fr sa1 sa2 dC dI dA l k p e R s m args below meth cd A ad0 n0 X0 Q Qf) (S : am_St dC dI dA k A s ad0 n0 X0 ad H locs ls L st h c s') (hd : decode (am_cc k) pc = .ok (.fastore, 1))  (q : am_x (am_T sa1 sa2 dC dI dA l) k pc (.fastore) a b L st h c s' Q) : W p l e R s m args below meth cd H locs c s' Qf (F0 m pc ls (st.map (am_cv ad))) := by
  dsimp only [am_x, am_vir] at q
  split at q
  · rename_i v x o r
    obtain ⟨⟨z1, z2, z3⟩, q⟩ := q
    unfold am_flt at q
    split at q
    · rename_i y
      obtain ⟨t0, ht⟩ := am_ty_at dA (kd := 22) (by decide)
      refine va_fast F.1.1 F.1.2.1 (am_hK F) S.1.1 S.1.2.1 S.1.2.2.1 o t0 (am_arrF z1 z2) ht z3 hd (fun H1 locs1 hP1 hD1 hS1 => ?_)
      rw [am_w_aF z2] at hP1 hD1
      exact am_go F q (am_world S rfl rfl ⟨hP1, hD1, hS1, am_wf_sF S.1.2.2.2⟩ (am_S3 S))
    · exact q.elim
  · exact q.elim
theorem am_i_aastore  (F : am_Fr sa1 sa2 dC dI dA l k p e R s m args below meth cd A ad0 n0 X0 Q Qf) (S : am_St dC dI dA k A s ad0 n0 X0 ad H locs ls L st h c s') (hd : decode (am_cc k) pc = .ok (.aastore, 1))  (q : am_x (am_T sa1 sa2 dC dI dA l) k pc (.aastore) a b L st h c s' Q) : W p l e R s m args below meth cd H locs c s' Qf (F0 m pc ls (st.map (am_cv ad))) := by
  dsimp only [am_x, am_vir] at q
  split at q
  · rename_i v x o r
    obtain ⟨⟨z1, z2, z2b, z3⟩, q⟩ := q
    unfold am_ref at q
    split at q
    · rename_i y
      obtain ⟨⟨y1, y2⟩, q⟩ := q
      have hm := am_kind S.1.2.2.2 z1 z2
      obtain ⟨t0, ht⟩ := am_ty_at dA hm
      have hel : am_el (hK h o) < 10 ∧ am_aty (hK h o) = .object (am_R (am_el (hK h o))) := by
        rcases am_kind5 hm z2 with e | e | e | e | e
        · rw [e]; exact ⟨by decide, rfl⟩
        · rw [e]; exact ⟨by decide, rfl⟩
        · rw [e]; exact ⟨by decide, rfl⟩
        · rw [e]; exact ⟨by decide, rfl⟩
        · omega
      obtain ⟨hc1, -, -, -⟩ := am_class hel.1
      rw [hel.2] at ht
      refine va_astq F.1.1 F.1.2.1 (am_hK F) S.1.1 S.1.2.1 S.1.2.2.1 o t0 y (am_el (hK h o)) (r := (am_R (am_el (hK h o)), am_TX (am_el (hK h o)), am_nf (am_el (hK h o)))) (am_arrR z1 rfl z2) ht (am_obj_at ⟨y1, y2⟩ hel.1) hc1 z3 hd (fun H1 locs1 hP1 hD1 hS1 => ?_)
      rw [am_w_aR rfl z2] at hP1 hD1
      exact am_go F q (am_world S rfl rfl ⟨hP1, hD1, hS1, am_wf_sR S.1.2.2.2 y1⟩ (am_S3 S))
    · exact q.elim
  · exact q.elim
theorem am_i_arraylength  (F : am_Fr sa1 sa2 dC dI dA l k p e R s m args below meth cd A ad0 n0 X0 Q Qf) (S : am_St dC dI dA k A s ad0 n0 X0 ad H locs ls L st h c s') (hd : decode (am_cc k) pc = .ok (.arraylength, 1))  (q : am_x (am_T sa1 sa2 dC dI dA l) k pc (.arraylength) a b L st h c s' Q) : W p l e R s m args below meth cd H locs c s' Qf (F0 m pc ls (st.map (am_cv ad))) := by
  dsimp only [am_x, am_r1] at q
  split at q
  · rename_i o r
    split at q
    · obtain ⟨rfl, q⟩ := q
      obtain ⟨x1, x2, x3⟩ := F.2.2.1
      have e0 : ad 1000000 = ad0 1000000 := S.2.2.2.2.1 1000000 (Or.inr (by decide))
      have eX : hX h = X0 := S.2.2.2.2.2.2.1
      rw [eX] at q
      have K := va_slen F.1.1 F.1.2.1 x1 x2 x3 S.1.2.2.1 hd (rest := r.map (am_cv ad)) (am_go F q (am_stk S (am_vok_cons trivial (am_S1 S))))
      rw [← e0] at K
      exact K
    · obtain ⟨rfl, q⟩ := q
      obtain ⟨-, -, -, -, -, hS6, -, -, -, -⟩ := am_hgs F
      obtain ⟨-, -, -, hby⟩ := hS6.1 0 (by decide)
      have e2 : ad 1000002 = sa2 := (S.2.2.2.2.1 1000002 (Or.inr (by decide))).trans F.2.1.2
      have K := va_tlen F.1.1 F.1.2.1 hby S.1.2.2.1 (v := 8) rfl hd (rest := r.map (am_cv ad)) (am_go F q (am_stk S (am_vok_cons trivial (am_S1 S))))
      rw [← e2] at K
      exact K
    · obtain ⟨⟨z1, z2⟩, q⟩ := q
      have hm : hK h o ∈ am_tysK := by
        rcases S.1.2.2.2.2.1 o z1 with z | z
        · omega
        · exact z
      obtain ⟨t0, ht⟩ := am_ty_at dA hm
      have hw : (am_w dA ad h)[o]? = some (ad o, .inl (dA (hK h o), am_ar ad h o (hK h o))) := by
        rw [am_w_get dA ad h z1, am_ce_arr rfl z2]
      have hlen : (am_ar ad h o (hK h o)).1 = hN h o := by
        unfold am_ar
        split <;> rfl
      exact va_alen F.1.1 F.1.2.1 (am_hK F) S.1.1 o t0 hw ht (v := nI (hN h o)) (by rw [hlen]; rfl) hd (am_go F q (am_stk S (am_vok_cons trivial (am_S1 S))))
  · exact q.elim
end AMF
