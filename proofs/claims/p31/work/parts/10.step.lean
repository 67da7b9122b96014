/-! own: each instruction of the numbered machine, on the real one -/
section AMS
variable {sa1 sa2 : Nat} {dC : Nat → ClassId} {dI : Nat → Nat → Nat} {dA : Nat → ClassId} {l : Launch} {k pc a b : Nat} {L : List (Option Value)} {st : List Value} {h : AH} {c s' : Nat} {Q : AQ} {p : Program} {e : Env} {R : Room} {s : State} {m : MethodId} {args : Array Value} {below : List Frame} {meth : Method} {cd : Code} {A : Nat → Prop} {ad0 : Nat → Nat} {n0 : Nat} {X0 : Nat × (Nat → Int32)} {Qf : State → Prop} {ad : Nat → Nat} {H : Heap} {locs : List Loc} {ls : Array Slot}
theorem am_go (F : am_Fr sa1 sa2 dC dI dA l k p e R s m args below meth cd A ad0 n0 X0 Q Qf) (q : am_T sa1 sa2 dC dI dA l k pc L st h c s' Q) (S : am_St dC dI dA k A s ad0 n0 X0 ad H locs ls L st h c s') : W p l e R s m args below meth cd H locs c s' Qf (F0 m pc ls (st.map (am_cv ad))) := q p e R s m args below meth cd A ad0 n0 X0 Qf F ad H locs ls S
theorem am_stk {st' : List Value} (S : am_St dC dI dA k A s ad0 n0 X0 ad H locs ls L st h c s') (hv : ∀ v ∈ st', am_vok h v) : am_St dC dI dA k A s ad0 n0 X0 ad H locs ls L st' h c s' := ⟨S.1, S.2.1, hv, S.2.2.2⟩
theorem am_lcl {L' : List (Option Value)} {ls' : Array Slot} {st' : List Value} (S : am_St dC dI dA k A s ad0 n0 X0 ad H locs ls L st h c s') (h1 : am_lv ls' (am_ml k) L' ad) (hv : ∀ v ∈ st', am_vok h v) (h2 : ∀ i v, am_nth L' i = some v → am_vok h v) : am_St dC dI dA k A s ad0 n0 X0 ad H locs ls' L' st' h c s' := ⟨S.1, h1, hv, h2, S.2.2.2.2⟩
theorem am_S1 {v : Value} (S : am_St dC dI dA k A s ad0 n0 X0 ad H locs ls L (v :: st) h c s') : ∀ w ∈ st, am_vok h w := am_vok_tl S.2.2.1
theorem am_S2 {v w : Value} (S : am_St dC dI dA k A s ad0 n0 X0 ad H locs ls L (v :: w :: st) h c s') : ∀ w ∈ st, am_vok h w := am_vok_tl (am_vok_tl S.2.2.1)
theorem am_S3 {v w u : Value} (S : am_St dC dI dA k A s ad0 n0 X0 ad H locs ls L (v :: w :: u :: st) h c s') : ∀ w ∈ st, am_vok h w := am_vok_tl (am_vok_tl (am_vok_tl S.2.2.1))
theorem am_i_iload_n {j : Fin 4} (F : am_Fr sa1 sa2 dC dI dA l k p e R s m args below meth cd A ad0 n0 X0 Q Qf) (S : am_St dC dI dA k A s ad0 n0 X0 ad H locs ls L st h c s') (hd : decode (am_cc k) pc = .ok (.iload_n j, 1))  (q : am_x (am_T sa1 sa2 dC dI dA l) k pc (.iload_n j) a b L st h c s' Q) : W p l e R s m args below meth cd H locs c s' Qf (F0 m pc ls (st.map (am_cv ad))) := by
  dsimp only [am_x, am_oint] at q
  split at q
  · rename_i x e1
    exact lv_iload_n F.1.1 F.1.2.1 hd rfl (S.2.1.2.2 _ _ e1) (am_go F q (am_stk S (am_vok_cons trivial S.2.2.1)))
  · exact q.elim
theorem am_i_iload {j : Nat} (F : am_Fr sa1 sa2 dC dI dA l k p e R s m args below meth cd A ad0 n0 X0 Q Qf) (S : am_St dC dI dA k A s ad0 n0 X0 ad H locs ls L st h c s') (hd : decode (am_cc k) pc = .ok (.iload j, 2))  (q : am_x (am_T sa1 sa2 dC dI dA l) k pc (.iload j) a b L st h c s' Q) : W p l e R s m args below meth cd H locs c s' Qf (F0 m pc ls (st.map (am_cv ad))) := by
  dsimp only [am_x, am_oint] at q
  split at q
  · rename_i x e1
    exact lv_iload F.1.1 F.1.2.1 hd (S.2.1.2.2 _ _ e1) (am_go F q (am_stk S (am_vok_cons trivial S.2.2.1)))
  · exact q.elim
theorem am_i_fload_n {j : Fin 4} (F : am_Fr sa1 sa2 dC dI dA l k p e R s m args below meth cd A ad0 n0 X0 Q Qf) (S : am_St dC dI dA k A s ad0 n0 X0 ad H locs ls L st h c s') (hd : decode (am_cc k) pc = .ok (.fload_n j, 1))  (q : am_x (am_T sa1 sa2 dC dI dA l) k pc (.fload_n j) a b L st h c s' Q) : W p l e R s m args below meth cd H locs c s' Qf (F0 m pc ls (st.map (am_cv ad))) := by
  dsimp only [am_x, am_oflt] at q
  split at q
  · rename_i x e1
    exact lv_fload_n F.1.1 F.1.2.1 hd rfl (S.2.1.2.2 _ _ e1) (am_go F q (am_stk S (am_vok_cons trivial S.2.2.1)))
  · exact q.elim
theorem am_i_fload {j : Nat} (F : am_Fr sa1 sa2 dC dI dA l k p e R s m args below meth cd A ad0 n0 X0 Q Qf) (S : am_St dC dI dA k A s ad0 n0 X0 ad H locs ls L st h c s') (hd : decode (am_cc k) pc = .ok (.fload j, 2))  (q : am_x (am_T sa1 sa2 dC dI dA l) k pc (.fload j) a b L st h c s' Q) : W p l e R s m args below meth cd H locs c s' Qf (F0 m pc ls (st.map (am_cv ad))) := by
  dsimp only [am_x, am_oflt] at q
  split at q
  · rename_i x e1
    exact lv_fload F.1.1 F.1.2.1 hd (S.2.1.2.2 _ _ e1) (am_go F q (am_stk S (am_vok_cons trivial S.2.2.1)))
  · exact q.elim
theorem am_i_aload_n {j : Fin 4} (F : am_Fr sa1 sa2 dC dI dA l k p e R s m args below meth cd A ad0 n0 X0 Q Qf) (S : am_St dC dI dA k A s ad0 n0 X0 ad H locs ls L st h c s') (hd : decode (am_cc k) pc = .ok (.aload_n j, 1))  (q : am_x (am_T sa1 sa2 dC dI dA l) k pc (.aload_n j) a b L st h c s' Q) : W p l e R s m args below meth cd H locs c s' Qf (F0 m pc ls (st.map (am_cv ad))) := by
  dsimp only [am_x, am_oref] at q
  split at q
  · rename_i x e1
    exact lv_aload_n F.1.1 F.1.2.1 hd rfl (S.2.1.2.2 _ _ e1) (am_go F q (am_stk S (am_vok_cons (S.2.2.2.1 _ _ e1) S.2.2.1)))
  · exact q.elim
theorem am_i_aload {j : Nat} (F : am_Fr sa1 sa2 dC dI dA l k p e R s m args below meth cd A ad0 n0 X0 Q Qf) (S : am_St dC dI dA k A s ad0 n0 X0 ad H locs ls L st h c s') (hd : decode (am_cc k) pc = .ok (.aload j, 2))  (q : am_x (am_T sa1 sa2 dC dI dA l) k pc (.aload j) a b L st h c s' Q) : W p l e R s m args below meth cd H locs c s' Qf (F0 m pc ls (st.map (am_cv ad))) := by
  dsimp only [am_x, am_oref] at q
  split at q
  · rename_i x e1
    exact lv_aload F.1.1 F.1.2.1 hd (S.2.1.2.2 _ _ e1) (am_go F q (am_stk S (am_vok_cons (S.2.2.2.1 _ _ e1) S.2.2.1)))
  · exact q.elim
theorem am_i_lload_n {j : Fin 4} (F : am_Fr sa1 sa2 dC dI dA l k p e R s m args below meth cd A ad0 n0 X0 Q Qf) (S : am_St dC dI dA k A s ad0 n0 X0 ad H locs ls L st h c s') (hd : decode (am_cc k) pc = .ok (.lload_n j, 1))  (q : am_x (am_T sa1 sa2 dC dI dA l) k pc (.lload_n j) a b L st h c s' Q) : W p l e R s m args below meth cd H locs c s' Qf (F0 m pc ls (st.map (am_cv ad))) := by
  dsimp only [am_x, am_olong] at q
  split at q
  · rename_i x e1
    exact lv_lload_n F.1.1 F.1.2.1 hd rfl (S.2.1.2.2 _ _ e1) (am_go F q (am_stk S (am_vok_cons trivial S.2.2.1)))
  · exact q.elim
theorem am_i_istore_n {j : Fin 4} (F : am_Fr sa1 sa2 dC dI dA l k p e R s m args below meth cd A ad0 n0 X0 Q Qf) (S : am_St dC dI dA k A s ad0 n0 X0 ad H locs ls L st h c s') (hd : decode (am_cc k) pc = .ok (.istore_n j, 1))  (q : am_x (am_T sa1 sa2 dC dI dA l) k pc (.istore_n j) a b L st h c s' Q) : W p l e R s m args below meth cd H locs c s' Qf (F0 m pc ls (st.map (am_cv ad))) := by
  dsimp only [am_x, am_i1] at q
  split at q
  · rename_i x r
    obtain ⟨q1, q2, q⟩ := q
    exact lv_istore_n F.1.1 F.1.2.1 hd rfl (am_lv_has S.2.1) q1 rfl (fun ls' hl' => am_go F q (am_lcl S (am_lv_store (v := .int x) hl' q2) (am_S1 S) (am_set_vok (fun v e1 => by cases e1; exact trivial) S.2.2.2.1)))
  · exact q.elim
theorem am_i_istore {j : Nat} (F : am_Fr sa1 sa2 dC dI dA l k p e R s m args below meth cd A ad0 n0 X0 Q Qf) (S : am_St dC dI dA k A s ad0 n0 X0 ad H locs ls L st h c s') (hd : decode (am_cc k) pc = .ok (.istore j, 2))  (q : am_x (am_T sa1 sa2 dC dI dA l) k pc (.istore j) a b L st h c s' Q) : W p l e R s m args below meth cd H locs c s' Qf (F0 m pc ls (st.map (am_cv ad))) := by
  dsimp only [am_x, am_i1] at q
  split at q
  · rename_i x r
    obtain ⟨q1, q2, q⟩ := q
    exact lv_istore F.1.1 F.1.2.1 hd (am_lv_has S.2.1) q1 rfl (fun ls' hl' => am_go F q (am_lcl S (am_lv_store (v := .int x) hl' q2) (am_S1 S) (am_set_vok (fun v e1 => by cases e1; exact trivial) S.2.2.2.1)))
  · exact q.elim
theorem am_i_fstore_n {j : Fin 4} (F : am_Fr sa1 sa2 dC dI dA l k p e R s m args below meth cd A ad0 n0 X0 Q Qf) (S : am_St dC dI dA k A s ad0 n0 X0 ad H locs ls L st h c s') (hd : decode (am_cc k) pc = .ok (.fstore_n j, 1))  (q : am_x (am_T sa1 sa2 dC dI dA l) k pc (.fstore_n j) a b L st h c s' Q) : W p l e R s m args below meth cd H locs c s' Qf (F0 m pc ls (st.map (am_cv ad))) := by
  dsimp only [am_x, am_f1] at q
  split at q
  · rename_i x r
    obtain ⟨q1, q2, q⟩ := q
    exact lv_fstore_n F.1.1 F.1.2.1 hd rfl (am_lv_has S.2.1) q1 rfl (fun ls' hl' => am_go F q (am_lcl S (am_lv_store (v := .float x) hl' q2) (am_S1 S) (am_set_vok (fun v e1 => by cases e1; exact trivial) S.2.2.2.1)))
  · exact q.elim
theorem am_i_fstore {j : Nat} (F : am_Fr sa1 sa2 dC dI dA l k p e R s m args below meth cd A ad0 n0 X0 Q Qf) (S : am_St dC dI dA k A s ad0 n0 X0 ad H locs ls L st h c s') (hd : decode (am_cc k) pc = .ok (.fstore j, 2))  (q : am_x (am_T sa1 sa2 dC dI dA l) k pc (.fstore j) a b L st h c s' Q) : W p l e R s m args below meth cd H locs c s' Qf (F0 m pc ls (st.map (am_cv ad))) := by
  dsimp only [am_x, am_f1] at q
  split at q
  · rename_i x r
    obtain ⟨q1, q2, q⟩ := q
    exact lv_fstore F.1.1 F.1.2.1 hd (am_lv_has S.2.1) q1 rfl (fun ls' hl' => am_go F q (am_lcl S (am_lv_store (v := .float x) hl' q2) (am_S1 S) (am_set_vok (fun v e1 => by cases e1; exact trivial) S.2.2.2.1)))
  · exact q.elim
theorem am_i_astore_n {j : Fin 4} (F : am_Fr sa1 sa2 dC dI dA l k p e R s m args below meth cd A ad0 n0 X0 Q Qf) (S : am_St dC dI dA k A s ad0 n0 X0 ad H locs ls L st h c s') (hd : decode (am_cc k) pc = .ok (.astore_n j, 1))  (q : am_x (am_T sa1 sa2 dC dI dA l) k pc (.astore_n j) a b L st h c s' Q) : W p l e R s m args below meth cd H locs c s' Qf (F0 m pc ls (st.map (am_cv ad))) := by
  dsimp only [am_x, am_r1] at q
  split at q
  · rename_i x r
    obtain ⟨q1, q2, q⟩ := q
    exact lv_astore_n F.1.1 F.1.2.1 hd rfl (am_lv_has S.2.1) q1 rfl (fun ls' hl' => am_go F q (am_lcl S (am_lv_store (v := .ref x) hl' q2) (am_S1 S) (am_set_vok (fun v e1 => by cases e1; exact (S.2.2.1 _ List.mem_cons_self)) S.2.2.2.1)))
  · exact q.elim
theorem am_i_astore {j : Nat} (F : am_Fr sa1 sa2 dC dI dA l k p e R s m args below meth cd A ad0 n0 X0 Q Qf) (S : am_St dC dI dA k A s ad0 n0 X0 ad H locs ls L st h c s') (hd : decode (am_cc k) pc = .ok (.astore j, 2))  (q : am_x (am_T sa1 sa2 dC dI dA l) k pc (.astore j) a b L st h c s' Q) : W p l e R s m args below meth cd H locs c s' Qf (F0 m pc ls (st.map (am_cv ad))) := by
  dsimp only [am_x, am_r1] at q
  split at q
  · rename_i x r
    obtain ⟨q1, q2, q⟩ := q
    exact lv_astore F.1.1 F.1.2.1 hd (am_lv_has S.2.1) q1 rfl (fun ls' hl' => am_go F q (am_lcl S (am_lv_store (v := .ref x) hl' q2) (am_S1 S) (am_set_vok (fun v e1 => by cases e1; exact (S.2.2.1 _ List.mem_cons_self)) S.2.2.2.1)))
  · exact q.elim
theorem am_i_lstore_n {j : Fin 4} (F : am_Fr sa1 sa2 dC dI dA l k p e R s m args below meth cd A ad0 n0 X0 Q Qf) (S : am_St dC dI dA k A s ad0 n0 X0 ad H locs ls L st h c s') (hd : decode (am_cc k) pc = .ok (.lstore_n j, 1))  (q : am_x (am_T sa1 sa2 dC dI dA l) k pc (.lstore_n j) a b L st h c s' Q) : W p l e R s m args below meth cd H locs c s' Qf (F0 m pc ls (st.map (am_cv ad))) := by
  dsimp only [am_x] at q
  split at q
  · rename_i x r
    obtain ⟨q1, q2, q⟩ := q
    exact lv_lstore_n F.1.1 F.1.2.1 hd rfl (am_lv_has S.2.1) q1 rfl (fun ls' hl' => am_go F q (am_lcl S (am_lv_store2 (v := .long x) hl' q2) (am_S1 S) (am_set_vok (fun v e1 => by cases e1) (am_set_vok (fun v e1 => by cases e1; trivial) S.2.2.2.1))))
  · exact q.elim
theorem am_i_iinc {j : Nat} {n : Int} (F : am_Fr sa1 sa2 dC dI dA l k p e R s m args below meth cd A ad0 n0 X0 Q Qf) (S : am_St dC dI dA k A s ad0 n0 X0 ad H locs ls L st h c s') (hd : decode (am_cc k) pc = .ok (.iinc j n, 3))  (q : am_x (am_T sa1 sa2 dC dI dA l) k pc (.iinc j n) a b L st h c s' Q) : W p l e R s m args below meth cd H locs c s' Qf (F0 m pc ls (st.map (am_cv ad))) := by
  dsimp only [am_x, am_oint] at q
  split at q
  · rename_i x e1
    obtain ⟨q1, q2, q⟩ := q
    obtain ⟨i1, hi1⟩ := List.getElem?_of_mem ((am_lvl_mem (L := L) (ad := ad) (q := (j, .int x))).mpr ⟨.int x, e1, rfl⟩)
    exact lv_iinc F.1.1 F.1.2.1 hd (am_lv_has S.2.1) hi1 rfl q1 rfl (fun ls' hl' => am_go F q (am_lcl S (am_lv_store (v := .int (x + Int32.ofInt n)) hl' q2) S.2.2.1 (am_set_vok (fun v e1 => by cases e1; trivial) S.2.2.2.1)))
  · exact q.elim
theorem am_i_iconst {n : Int} (F : am_Fr sa1 sa2 dC dI dA l k p e R s m args below meth cd A ad0 n0 X0 Q Qf) (S : am_St dC dI dA k A s ad0 n0 X0 ad H locs ls L st h c s') (hd : decode (am_cc k) pc = .ok (.iconst n, 1)) (hv : Int32.ofInt n = am_kc a b) (q : am_x (am_T sa1 sa2 dC dI dA l) k pc (.iconst n) a b L st h c s' Q) : W p l e R s m args below meth cd H locs c s' Qf (F0 m pc ls (st.map (am_cv ad))) := by
  exact lv_iconst F.1.1 F.1.2.1 hd hv (am_go F q (am_stk S (am_vok_cons trivial S.2.2.1)))
theorem am_i_bipush {n : Int} (F : am_Fr sa1 sa2 dC dI dA l k p e R s m args below meth cd A ad0 n0 X0 Q Qf) (S : am_St dC dI dA k A s ad0 n0 X0 ad H locs ls L st h c s') (hd : decode (am_cc k) pc = .ok (.bipush n, 2)) (hv : (Int8.ofInt n).toInt32 = am_kc a b) (q : am_x (am_T sa1 sa2 dC dI dA l) k pc (.bipush n) a b L st h c s' Q) : W p l e R s m args below meth cd H locs c s' Qf (F0 m pc ls (st.map (am_cv ad))) := by
  exact lv_bipush F.1.1 F.1.2.1 hd hv (am_go F q (am_stk S (am_vok_cons trivial S.2.2.1)))
theorem am_i_sipush {n : Int} (F : am_Fr sa1 sa2 dC dI dA l k p e R s m args below meth cd A ad0 n0 X0 Q Qf) (S : am_St dC dI dA k A s ad0 n0 X0 ad H locs ls L st h c s') (hd : decode (am_cc k) pc = .ok (.sipush n, 3)) (hv : (Int16.ofInt n).toInt32 = am_kc a b) (q : am_x (am_T sa1 sa2 dC dI dA l) k pc (.sipush n) a b L st h c s' Q) : W p l e R s m args below meth cd H locs c s' Qf (F0 m pc ls (st.map (am_cv ad))) := by
  exact lv_sipush F.1.1 F.1.2.1 hd hv (am_go F q (am_stk S (am_vok_cons trivial S.2.2.1)))
theorem am_i_lconst {j : Fin 2} (F : am_Fr sa1 sa2 dC dI dA l k p e R s m args below meth cd A ad0 n0 X0 Q Qf) (S : am_St dC dI dA k A s ad0 n0 X0 ad H locs ls L st h c s') (hd : decode (am_cc k) pc = .ok (.lconst j, 1))  (q : am_x (am_T sa1 sa2 dC dI dA l) k pc (.lconst j) a b L st h c s' Q) : W p l e R s m args below meth cd H locs c s' Qf (F0 m pc ls (st.map (am_cv ad))) := by
  exact lv_lconst F.1.1 F.1.2.1 hd rfl (am_go F q (am_stk S (am_vok_cons trivial S.2.2.1)))
theorem am_i_fconst {j : Fin 3} (F : am_Fr sa1 sa2 dC dI dA l k p e R s m args below meth cd A ad0 n0 X0 Q Qf) (S : am_St dC dI dA k A s ad0 n0 X0 ad H locs ls L st h c s') (hd : decode (am_cc k) pc = .ok (.fconst j, 1))  (q : am_x (am_T sa1 sa2 dC dI dA l) k pc (.fconst j) a b L st h c s' Q) : W p l e R s m args below meth cd H locs c s' Qf (F0 m pc ls (st.map (am_cv ad))) := by
  match j, hd, q with
  | 0, hd, q => exact lv_fconst0 F.1.1 F.1.2.1 hd (am_go F q (am_stk S (am_vok_cons trivial S.2.2.1)))
  | 1, hd, q => exact lv_fconst1 F.1.1 F.1.2.1 hd (am_go F q (am_stk S (am_vok_cons trivial S.2.2.1)))
  | 2, hd, q => exact lv_fconst2 F.1.1 F.1.2.1 hd (am_go F q (am_stk S (am_vok_cons trivial S.2.2.1)))
theorem am_i_iadd  (F : am_Fr sa1 sa2 dC dI dA l k p e R s m args below meth cd A ad0 n0 X0 Q Qf) (S : am_St dC dI dA k A s ad0 n0 X0 ad H locs ls L st h c s') (hd : decode (am_cc k) pc = .ok (.iadd, 1))  (q : am_x (am_T sa1 sa2 dC dI dA l) k pc (.iadd) a b L st h c s' Q) : W p l e R s m args below meth cd H locs c s' Qf (F0 m pc ls (st.map (am_cv ad))) := by
  dsimp only [am_x, am_i2] at q
  split at q
  · rename_i x y r
    exact lv_iadd F.1.1 F.1.2.1 hd (am_go F q (am_stk S (am_vok_cons trivial (am_S2 S))))
  · exact q.elim
theorem am_i_isub  (F : am_Fr sa1 sa2 dC dI dA l k p e R s m args below meth cd A ad0 n0 X0 Q Qf) (S : am_St dC dI dA k A s ad0 n0 X0 ad H locs ls L st h c s') (hd : decode (am_cc k) pc = .ok (.isub, 1))  (q : am_x (am_T sa1 sa2 dC dI dA l) k pc (.isub) a b L st h c s' Q) : W p l e R s m args below meth cd H locs c s' Qf (F0 m pc ls (st.map (am_cv ad))) := by
  dsimp only [am_x, am_i2] at q
  split at q
  · rename_i x y r
    exact lv_isub F.1.1 F.1.2.1 hd (am_go F q (am_stk S (am_vok_cons trivial (am_S2 S))))
  · exact q.elim
theorem am_i_imul  (F : am_Fr sa1 sa2 dC dI dA l k p e R s m args below meth cd A ad0 n0 X0 Q Qf) (S : am_St dC dI dA k A s ad0 n0 X0 ad H locs ls L st h c s') (hd : decode (am_cc k) pc = .ok (.imul, 1))  (q : am_x (am_T sa1 sa2 dC dI dA l) k pc (.imul) a b L st h c s' Q) : W p l e R s m args below meth cd H locs c s' Qf (F0 m pc ls (st.map (am_cv ad))) := by
  dsimp only [am_x, am_i2] at q
  split at q
  · rename_i x y r
    exact lv_imul F.1.1 F.1.2.1 hd (am_go F q (am_stk S (am_vok_cons trivial (am_S2 S))))
  · exact q.elim
theorem am_i_iand  (F : am_Fr sa1 sa2 dC dI dA l k p e R s m args below meth cd A ad0 n0 X0 Q Qf) (S : am_St dC dI dA k A s ad0 n0 X0 ad H locs ls L st h c s') (hd : decode (am_cc k) pc = .ok (.iand, 1))  (q : am_x (am_T sa1 sa2 dC dI dA l) k pc (.iand) a b L st h c s' Q) : W p l e R s m args below meth cd H locs c s' Qf (F0 m pc ls (st.map (am_cv ad))) := by
  dsimp only [am_x, am_i2] at q
  split at q
  · rename_i x y r
    exact lv_iand F.1.1 F.1.2.1 hd (am_go F q (am_stk S (am_vok_cons trivial (am_S2 S))))
  · exact q.elim
theorem am_i_ior  (F : am_Fr sa1 sa2 dC dI dA l k p e R s m args below meth cd A ad0 n0 X0 Q Qf) (S : am_St dC dI dA k A s ad0 n0 X0 ad H locs ls L st h c s') (hd : decode (am_cc k) pc = .ok (.ior, 1))  (q : am_x (am_T sa1 sa2 dC dI dA l) k pc (.ior) a b L st h c s' Q) : W p l e R s m args below meth cd H locs c s' Qf (F0 m pc ls (st.map (am_cv ad))) := by
  dsimp only [am_x, am_i2] at q
  split at q
  · rename_i x y r
    exact lv_ior F.1.1 F.1.2.1 hd (am_go F q (am_stk S (am_vok_cons trivial (am_S2 S))))
  · exact q.elim
theorem am_i_ixor  (F : am_Fr sa1 sa2 dC dI dA l k p e R s m args below meth cd A ad0 n0 X0 Q Qf) (S : am_St dC dI dA k A s ad0 n0 X0 ad H locs ls L st h c s') (hd : decode (am_cc k) pc = .ok (.ixor, 1))  (q : am_x (am_T sa1 sa2 dC dI dA l) k pc (.ixor) a b L st h c s' Q) : W p l e R s m args below meth cd H locs c s' Qf (F0 m pc ls (st.map (am_cv ad))) := by
  dsimp only [am_x, am_i2] at q
  split at q
  · rename_i x y r
    exact lv_ixor F.1.1 F.1.2.1 hd (am_go F q (am_stk S (am_vok_cons trivial (am_S2 S))))
  · exact q.elim
theorem am_i_ishl  (F : am_Fr sa1 sa2 dC dI dA l k p e R s m args below meth cd A ad0 n0 X0 Q Qf) (S : am_St dC dI dA k A s ad0 n0 X0 ad H locs ls L st h c s') (hd : decode (am_cc k) pc = .ok (.ishl, 1))  (q : am_x (am_T sa1 sa2 dC dI dA l) k pc (.ishl) a b L st h c s' Q) : W p l e R s m args below meth cd H locs c s' Qf (F0 m pc ls (st.map (am_cv ad))) := by
  dsimp only [am_x, am_i2] at q
  split at q
  · rename_i x y r
    exact lv_ishl F.1.1 F.1.2.1 hd (am_go F q (am_stk S (am_vok_cons trivial (am_S2 S))))
  · exact q.elim
theorem am_i_ishr  (F : am_Fr sa1 sa2 dC dI dA l k p e R s m args below meth cd A ad0 n0 X0 Q Qf) (S : am_St dC dI dA k A s ad0 n0 X0 ad H locs ls L st h c s') (hd : decode (am_cc k) pc = .ok (.ishr, 1))  (q : am_x (am_T sa1 sa2 dC dI dA l) k pc (.ishr) a b L st h c s' Q) : W p l e R s m args below meth cd H locs c s' Qf (F0 m pc ls (st.map (am_cv ad))) := by
  dsimp only [am_x, am_i2] at q
  split at q
  · rename_i x y r
    exact lv_ishr F.1.1 F.1.2.1 hd (am_go F q (am_stk S (am_vok_cons trivial (am_S2 S))))
  · exact q.elim
theorem am_i_iushr  (F : am_Fr sa1 sa2 dC dI dA l k p e R s m args below meth cd A ad0 n0 X0 Q Qf) (S : am_St dC dI dA k A s ad0 n0 X0 ad H locs ls L st h c s') (hd : decode (am_cc k) pc = .ok (.iushr, 1))  (q : am_x (am_T sa1 sa2 dC dI dA l) k pc (.iushr) a b L st h c s' Q) : W p l e R s m args below meth cd H locs c s' Qf (F0 m pc ls (st.map (am_cv ad))) := by
  dsimp only [am_x, am_i2] at q
  split at q
  · rename_i x y r
    exact lv_iushr F.1.1 F.1.2.1 hd rfl (am_go F q (am_stk S (am_vok_cons trivial (am_S2 S))))
  · exact q.elim
theorem am_i_idiv  (F : am_Fr sa1 sa2 dC dI dA l k p e R s m args below meth cd A ad0 n0 X0 Q Qf) (S : am_St dC dI dA k A s ad0 n0 X0 ad H locs ls L st h c s') (hd : decode (am_cc k) pc = .ok (.idiv, 1))  (q : am_x (am_T sa1 sa2 dC dI dA l) k pc (.idiv) a b L st h c s' Q) : W p l e R s m args below meth cd H locs c s' Qf (F0 m pc ls (st.map (am_cv ad))) := by
  dsimp only [am_x, am_i2] at q
  split at q
  · rename_i x y r
    obtain ⟨q1, q⟩ := q
    exact lv_idiv F.1.1 F.1.2.1 hd q1 (am_go F q (am_stk S (am_vok_cons trivial (am_S2 S))))
  · exact q.elim
theorem am_i_irem  (F : am_Fr sa1 sa2 dC dI dA l k p e R s m args below meth cd A ad0 n0 X0 Q Qf) (S : am_St dC dI dA k A s ad0 n0 X0 ad H locs ls L st h c s') (hd : decode (am_cc k) pc = .ok (.irem, 1))  (q : am_x (am_T sa1 sa2 dC dI dA l) k pc (.irem) a b L st h c s' Q) : W p l e R s m args below meth cd H locs c s' Qf (F0 m pc ls (st.map (am_cv ad))) := by
  dsimp only [am_x, am_i2] at q
  split at q
  · rename_i x y r
    obtain ⟨q1, q⟩ := q
    exact lv_irem F.1.1 F.1.2.1 hd q1 (am_go F q (am_stk S (am_vok_cons trivial (am_S2 S))))
  · exact q.elim
theorem am_i_land  (F : am_Fr sa1 sa2 dC dI dA l k p e R s m args below meth cd A ad0 n0 X0 Q Qf) (S : am_St dC dI dA k A s ad0 n0 X0 ad H locs ls L st h c s') (hd : decode (am_cc k) pc = .ok (.land, 1))  (q : am_x (am_T sa1 sa2 dC dI dA l) k pc (.land) a b L st h c s' Q) : W p l e R s m args below meth cd H locs c s' Qf (F0 m pc ls (st.map (am_cv ad))) := by
  dsimp only [am_x, am_l2] at q
  split at q
  · rename_i x y r
    exact lv_land F.1.1 F.1.2.1 hd (am_go F q (am_stk S (am_vok_cons trivial (am_S2 S))))
  · exact q.elim
theorem am_i_lor  (F : am_Fr sa1 sa2 dC dI dA l k p e R s m args below meth cd A ad0 n0 X0 Q Qf) (S : am_St dC dI dA k A s ad0 n0 X0 ad H locs ls L st h c s') (hd : decode (am_cc k) pc = .ok (.lor, 1))  (q : am_x (am_T sa1 sa2 dC dI dA l) k pc (.lor) a b L st h c s' Q) : W p l e R s m args below meth cd H locs c s' Qf (F0 m pc ls (st.map (am_cv ad))) := by
  dsimp only [am_x, am_l2] at q
  split at q
  · rename_i x y r
    exact lv_lor F.1.1 F.1.2.1 hd (am_go F q (am_stk S (am_vok_cons trivial (am_S2 S))))
  · exact q.elim
theorem am_i_lshl  (F : am_Fr sa1 sa2 dC dI dA l k p e R s m args below meth cd A ad0 n0 X0 Q Qf) (S : am_St dC dI dA k A s ad0 n0 X0 ad H locs ls L st h c s') (hd : decode (am_cc k) pc = .ok (.lshl, 1))  (q : am_x (am_T sa1 sa2 dC dI dA l) k pc (.lshl) a b L st h c s' Q) : W p l e R s m args below meth cd H locs c s' Qf (F0 m pc ls (st.map (am_cv ad))) := by
  dsimp only [am_x, am_li] at q
  split at q
  · rename_i x y r
    exact lv_lshl F.1.1 F.1.2.1 hd rfl (am_go F q (am_stk S (am_vok_cons trivial (am_S2 S))))
  · exact q.elim
theorem am_i_lshr  (F : am_Fr sa1 sa2 dC dI dA l k p e R s m args below meth cd A ad0 n0 X0 Q Qf) (S : am_St dC dI dA k A s ad0 n0 X0 ad H locs ls L st h c s') (hd : decode (am_cc k) pc = .ok (.lshr, 1))  (q : am_x (am_T sa1 sa2 dC dI dA l) k pc (.lshr) a b L st h c s' Q) : W p l e R s m args below meth cd H locs c s' Qf (F0 m pc ls (st.map (am_cv ad))) := by
  dsimp only [am_x, am_li] at q
  split at q
  · rename_i x y r
    exact lv_lshr F.1.1 F.1.2.1 hd rfl (am_go F q (am_stk S (am_vok_cons trivial (am_S2 S))))
  · exact q.elim

theorem am_i_lcmp  (F : am_Fr sa1 sa2 dC dI dA l k p e R s m args below meth cd A ad0 n0 X0 Q Qf) (S : am_St dC dI dA k A s ad0 n0 X0 ad H locs ls L st h c s') (hd : decode (am_cc k) pc = .ok (.lcmp, 1))  (q : am_x (am_T sa1 sa2 dC dI dA l) k pc (.lcmp) a b L st h c s' Q) : W p l e R s m args below meth cd H locs c s' Qf (F0 m pc ls (st.map (am_cv ad))) := by
  dsimp only [am_x, am_l2] at q
  split at q
  · rename_i x y r
    exact W.lcmp F.1.1 F.1.2.1 hd (am_go F q (am_stk S (am_vok_cons trivial (am_S2 S))))
  · exact q.elim
theorem am_i_i2l  (F : am_Fr sa1 sa2 dC dI dA l k p e R s m args below meth cd A ad0 n0 X0 Q Qf) (S : am_St dC dI dA k A s ad0 n0 X0 ad H locs ls L st h c s') (hd : decode (am_cc k) pc = .ok (.i2l, 1))  (q : am_x (am_T sa1 sa2 dC dI dA l) k pc (.i2l) a b L st h c s' Q) : W p l e R s m args below meth cd H locs c s' Qf (F0 m pc ls (st.map (am_cv ad))) := by
  dsimp only [am_x, am_i1] at q
  split at q
  · rename_i x r
    exact lv_i2l F.1.1 F.1.2.1 hd rfl (am_go F q (am_stk S (am_vok_cons trivial (am_S1 S))))
  · exact q.elim
theorem am_i_i2c  (F : am_Fr sa1 sa2 dC dI dA l k p e R s m args below meth cd A ad0 n0 X0 Q Qf) (S : am_St dC dI dA k A s ad0 n0 X0 ad H locs ls L st h c s') (hd : decode (am_cc k) pc = .ok (.i2c, 1))  (q : am_x (am_T sa1 sa2 dC dI dA l) k pc (.i2c) a b L st h c s' Q) : W p l e R s m args below meth cd H locs c s' Qf (F0 m pc ls (st.map (am_cv ad))) := by
  dsimp only [am_x, am_i1] at q
  split at q
  · rename_i x r
    exact lv_i2c F.1.1 F.1.2.1 hd rfl (am_go F q (am_stk S (am_vok_cons trivial (am_S1 S))))
  · exact q.elim
theorem am_i_i2b  (F : am_Fr sa1 sa2 dC dI dA l k p e R s m args below meth cd A ad0 n0 X0 Q Qf) (S : am_St dC dI dA k A s ad0 n0 X0 ad H locs ls L st h c s') (hd : decode (am_cc k) pc = .ok (.i2b, 1))  (q : am_x (am_T sa1 sa2 dC dI dA l) k pc (.i2b) a b L st h c s' Q) : W p l e R s m args below meth cd H locs c s' Qf (F0 m pc ls (st.map (am_cv ad))) := by
  dsimp only [am_x, am_i1] at q
  split at q
  · rename_i x r
    exact lv_i2b F.1.1 F.1.2.1 hd rfl (am_go F q (am_stk S (am_vok_cons trivial (am_S1 S))))
  · exact q.elim
theorem am_i_i2f  (F : am_Fr sa1 sa2 dC dI dA l k p e R s m args below meth cd A ad0 n0 X0 Q Qf) (S : am_St dC dI dA k A s ad0 n0 X0 ad H locs ls L st h c s') (hd : decode (am_cc k) pc = .ok (.i2f, 1))  (q : am_x (am_T sa1 sa2 dC dI dA l) k pc (.i2f) a b L st h c s' Q) : W p l e R s m args below meth cd H locs c s' Qf (F0 m pc ls (st.map (am_cv ad))) := by
  dsimp only [am_x, am_i1] at q
  split at q
  · rename_i x r
    exact lv_i2f F.1.1 F.1.2.1 hd (am_go F q (am_stk S (am_vok_cons trivial (am_S1 S))))
  · exact q.elim
theorem am_i_f2i  (F : am_Fr sa1 sa2 dC dI dA l k p e R s m args below meth cd A ad0 n0 X0 Q Qf) (S : am_St dC dI dA k A s ad0 n0 X0 ad H locs ls L st h c s') (hd : decode (am_cc k) pc = .ok (.f2i, 1))  (q : am_x (am_T sa1 sa2 dC dI dA l) k pc (.f2i) a b L st h c s' Q) : W p l e R s m args below meth cd H locs c s' Qf (F0 m pc ls (st.map (am_cv ad))) := by
  dsimp only [am_x, am_f1] at q
  split at q
  · rename_i x r
    exact lv_f2i F.1.1 F.1.2.1 hd (am_go F q (am_stk S (am_vok_cons trivial (am_S1 S))))
  · exact q.elim
theorem am_i_fneg  (F : am_Fr sa1 sa2 dC dI dA l k p e R s m args below meth cd A ad0 n0 X0 Q Qf) (S : am_St dC dI dA k A s ad0 n0 X0 ad H locs ls L st h c s') (hd : decode (am_cc k) pc = .ok (.fneg, 1))  (q : am_x (am_T sa1 sa2 dC dI dA l) k pc (.fneg) a b L st h c s' Q) : W p l e R s m args below meth cd H locs c s' Qf (F0 m pc ls (st.map (am_cv ad))) := by
  dsimp only [am_x, am_f1] at q
  split at q
  · rename_i x r
    exact lv_fneg F.1.1 F.1.2.1 hd (am_go F q (am_stk S (am_vok_cons trivial (am_S1 S))))
  · exact q.elim
theorem am_i_fadd  (F : am_Fr sa1 sa2 dC dI dA l k p e R s m args below meth cd A ad0 n0 X0 Q Qf) (S : am_St dC dI dA k A s ad0 n0 X0 ad H locs ls L st h c s') (hd : decode (am_cc k) pc = .ok (.fadd, 1))  (q : am_x (am_T sa1 sa2 dC dI dA l) k pc (.fadd) a b L st h c s' Q) : W p l e R s m args below meth cd H locs c s' Qf (F0 m pc ls (st.map (am_cv ad))) := by
  dsimp only [am_x, am_f2] at q
  split at q
  · rename_i x y r
    obtain ⟨q1, q⟩ := q
    exact lv_fadd F.1.1 F.1.2.1 hd q1 (am_go F q (am_stk S (am_vok_cons trivial (am_S2 S))))
  · exact q.elim
theorem am_i_fsub  (F : am_Fr sa1 sa2 dC dI dA l k p e R s m args below meth cd A ad0 n0 X0 Q Qf) (S : am_St dC dI dA k A s ad0 n0 X0 ad H locs ls L st h c s') (hd : decode (am_cc k) pc = .ok (.fsub, 1))  (q : am_x (am_T sa1 sa2 dC dI dA l) k pc (.fsub) a b L st h c s' Q) : W p l e R s m args below meth cd H locs c s' Qf (F0 m pc ls (st.map (am_cv ad))) := by
  dsimp only [am_x, am_f2] at q
  split at q
  · rename_i x y r
    obtain ⟨q1, q⟩ := q
    exact lv_fsub F.1.1 F.1.2.1 hd q1 (am_go F q (am_stk S (am_vok_cons trivial (am_S2 S))))
  · exact q.elim
theorem am_i_fmul  (F : am_Fr sa1 sa2 dC dI dA l k p e R s m args below meth cd A ad0 n0 X0 Q Qf) (S : am_St dC dI dA k A s ad0 n0 X0 ad H locs ls L st h c s') (hd : decode (am_cc k) pc = .ok (.fmul, 1))  (q : am_x (am_T sa1 sa2 dC dI dA l) k pc (.fmul) a b L st h c s' Q) : W p l e R s m args below meth cd H locs c s' Qf (F0 m pc ls (st.map (am_cv ad))) := by
  dsimp only [am_x, am_f2] at q
  split at q
  · rename_i x y r
    obtain ⟨q1, q⟩ := q
    exact lv_fmul F.1.1 F.1.2.1 hd q1 (am_go F q (am_stk S (am_vok_cons trivial (am_S2 S))))
  · exact q.elim
theorem am_i_fdiv  (F : am_Fr sa1 sa2 dC dI dA l k p e R s m args below meth cd A ad0 n0 X0 Q Qf) (S : am_St dC dI dA k A s ad0 n0 X0 ad H locs ls L st h c s') (hd : decode (am_cc k) pc = .ok (.fdiv, 1))  (q : am_x (am_T sa1 sa2 dC dI dA l) k pc (.fdiv) a b L st h c s' Q) : W p l e R s m args below meth cd H locs c s' Qf (F0 m pc ls (st.map (am_cv ad))) := by
  dsimp only [am_x, am_f2] at q
  split at q
  · rename_i x y r
    obtain ⟨q1, q⟩ := q
    exact lv_fdiv F.1.1 F.1.2.1 hd q1 (am_go F q (am_stk S (am_vok_cons trivial (am_S2 S))))
  · exact q.elim
theorem am_i_fcmp {op : CmpOp} (F : am_Fr sa1 sa2 dC dI dA l k p e R s m args below meth cd A ad0 n0 X0 Q Qf) (S : am_St dC dI dA k A s ad0 n0 X0 ad H locs ls L st h c s') (hd : decode (am_cc k) pc = .ok (.fcmp op, 1))  (q : am_x (am_T sa1 sa2 dC dI dA l) k pc (.fcmp op) a b L st h c s' Q) : W p l e R s m args below meth cd H locs c s' Qf (F0 m pc ls (st.map (am_cv ad))) := by
  dsimp only [am_x, am_f2] at q
  split at q
  · rename_i x y r
    exact lv_fcmp F.1.1 F.1.2.1 hd (am_go F q (am_stk S (am_vok_cons trivial (am_S2 S))))
  · exact q.elim
theorem am_one_cat {v : Value} (h1 : am_one v) (ad : Nat → Nat) : (am_cv ad v).category = 1 := by
  cases v <;> first | rfl | exact h1.elim
theorem am_i_dup  (F : am_Fr sa1 sa2 dC dI dA l k p e R s m args below meth cd A ad0 n0 X0 Q Qf) (S : am_St dC dI dA k A s ad0 n0 X0 ad H locs ls L st h c s') (hd : decode (am_cc k) pc = .ok (.dup, 1))  (q : am_x (am_T sa1 sa2 dC dI dA l) k pc (.dup) a b L st h c s' Q) : W p l e R s m args below meth cd H locs c s' Qf (F0 m pc ls (st.map (am_cv ad))) := by
  dsimp only [am_x] at q
  split at q
  · rename_i v r
    exact lv_dup F.1.1 F.1.2.1 hd (am_one_cat q.1 ad) (am_go F q.2 (am_stk S (am_vok_cons (S.2.2.1 _ List.mem_cons_self) S.2.2.1)))
  · exact q.elim
theorem am_i_dup2  (F : am_Fr sa1 sa2 dC dI dA l k p e R s m args below meth cd A ad0 n0 X0 Q Qf) (S : am_St dC dI dA k A s ad0 n0 X0 ad H locs ls L st h c s') (hd : decode (am_cc k) pc = .ok (.dup2, 1))  (q : am_x (am_T sa1 sa2 dC dI dA l) k pc (.dup2) a b L st h c s' Q) : W p l e R s m args below meth cd H locs c s' Qf (F0 m pc ls (st.map (am_cv ad))) := by
  dsimp only [am_x] at q
  split at q
  · rename_i v u r
    exact lv_dup2_11 F.1.1 F.1.2.1 hd (am_one_cat q.1 ad) (am_one_cat q.2.1 ad) (am_go F q.2.2 (am_stk S (am_vok_cons (S.2.2.1 _ List.mem_cons_self) (am_vok_cons (S.2.2.1 _ (List.mem_cons_of_mem _ List.mem_cons_self)) S.2.2.1))))
  · exact q.elim
theorem am_i_pop  (F : am_Fr sa1 sa2 dC dI dA l k p e R s m args below meth cd A ad0 n0 X0 Q Qf) (S : am_St dC dI dA k A s ad0 n0 X0 ad H locs ls L st h c s') (hd : decode (am_cc k) pc = .ok (.pop, 1))  (q : am_x (am_T sa1 sa2 dC dI dA l) k pc (.pop) a b L st h c s' Q) : W p l e R s m args below meth cd H locs c s' Qf (F0 m pc ls (st.map (am_cv ad))) := by
  dsimp only [am_x] at q
  split at q
  · rename_i v r
    exact lv_pop F.1.1 F.1.2.1 hd (am_one_cat q.1 ad) (am_go F q.2 (am_stk S (am_S1 S)))
  · exact q.elim
theorem am_i_ifCond {cn : Jvm.ClassFile.Cond} {off : Int} (F : am_Fr sa1 sa2 dC dI dA l k p e R s m args below meth cd A ad0 n0 X0 Q Qf) (S : am_St dC dI dA k A s ad0 n0 X0 ad H locs ls L st h c s') (hd : decode (am_cc k) pc = .ok (.ifCond cn off, 3)) (ht : (pc : Int) + off = (a : Int)) (q : am_x (am_T sa1 sa2 dC dI dA l) k pc (.ifCond cn off) a b L st h c s' Q) : W p l e R s m args below meth cd H locs c s' Qf (F0 m pc ls (st.map (am_cv ad))) := by
  dsimp only [am_x, am_i1] at q
  split at q
  · rename_i x r
    match cn, hd, q with
    | .eq, hd, q => exact lv_if_eq F.1.1 F.1.2.1 hd ht (fun z => am_go F (q.1 z) (am_stk S (am_S1 S))) (fun z => am_go F (q.2 z) (am_stk S (am_S1 S)))
    | .ne, hd, q => exact lv_if_ne F.1.1 F.1.2.1 hd ht (fun z => am_go F (q.1 z) (am_stk S (am_S1 S))) (fun z => am_go F (q.2 z) (am_stk S (am_S1 S)))
    | .lt, hd, q => exact lv_if_lt F.1.1 F.1.2.1 hd ht (fun z => am_go F (q.1 z) (am_stk S (am_S1 S))) (fun z => am_go F (q.2 z) (am_stk S (am_S1 S)))
    | .ge, hd, q => exact lv_if_ge F.1.1 F.1.2.1 hd ht (fun z => am_go F (q.1 z) (am_stk S (am_S1 S))) (fun z => am_go F (q.2 z) (am_stk S (am_S1 S)))
    | .gt, hd, q => exact lv_if_gt F.1.1 F.1.2.1 hd ht (fun z => am_go F (q.1 z) (am_stk S (am_S1 S))) (fun z => am_go F (q.2 z) (am_stk S (am_S1 S)))
    | .le, hd, q => exact lv_if_le F.1.1 F.1.2.1 hd ht (fun z => am_go F (q.1 z) (am_stk S (am_S1 S))) (fun z => am_go F (q.2 z) (am_stk S (am_S1 S)))
  · exact q.elim
theorem am_i_if_icmp {cn : Jvm.ClassFile.Cond} {off : Int} (F : am_Fr sa1 sa2 dC dI dA l k p e R s m args below meth cd A ad0 n0 X0 Q Qf) (S : am_St dC dI dA k A s ad0 n0 X0 ad H locs ls L st h c s') (hd : decode (am_cc k) pc = .ok (.if_icmp cn off, 3)) (ht : (pc : Int) + off = (a : Int)) (q : am_x (am_T sa1 sa2 dC dI dA l) k pc (.if_icmp cn off) a b L st h c s' Q) : W p l e R s m args below meth cd H locs c s' Qf (F0 m pc ls (st.map (am_cv ad))) := by
  dsimp only [am_x, am_i2] at q
  split at q
  · rename_i x y r
    match cn, hd, q with
    | .eq, hd, q => exact lv_icmp_eq F.1.1 F.1.2.1 hd ht (fun z => am_go F (q.1 z) (am_stk S (am_S2 S))) (fun z => am_go F (q.2 z) (am_stk S (am_S2 S)))
    | .ne, hd, q => exact lv_icmp_ne F.1.1 F.1.2.1 hd ht (fun z => am_go F (q.1 z) (am_stk S (am_S2 S))) (fun z => am_go F (q.2 z) (am_stk S (am_S2 S)))
    | .lt, hd, q => exact lv_icmp_lt F.1.1 F.1.2.1 hd ht (fun z => am_go F (q.1 z) (am_stk S (am_S2 S))) (fun z => am_go F (q.2 z) (am_stk S (am_S2 S)))
    | .ge, hd, q => exact lv_icmp_ge F.1.1 F.1.2.1 hd ht (fun z => am_go F (q.1 z) (am_stk S (am_S2 S))) (fun z => am_go F (q.2 z) (am_stk S (am_S2 S)))
    | .gt, hd, q => exact lv_icmp_gt F.1.1 F.1.2.1 hd ht (fun z => am_go F (q.1 z) (am_stk S (am_S2 S))) (fun z => am_go F (q.2 z) (am_stk S (am_S2 S)))
    | .le, hd, q => exact lv_icmp_le F.1.1 F.1.2.1 hd ht (fun z => am_go F (q.1 z) (am_stk S (am_S2 S))) (fun z => am_go F (q.2 z) (am_stk S (am_S2 S)))
  · exact q.elim
theorem am_i_goto {off : Int} (F : am_Fr sa1 sa2 dC dI dA l k p e R s m args below meth cd A ad0 n0 X0 Q Qf) (S : am_St dC dI dA k A s ad0 n0 X0 ad H locs ls L st h c s') (hd : decode (am_cc k) pc = .ok (.goto off, 3)) (ht : (pc : Int) + off = (a : Int)) (q : am_x (am_T sa1 sa2 dC dI dA l) k pc (.goto off) a b L st h c s' Q) : W p l e R s m args below meth cd H locs c s' Qf (F0 m pc ls (st.map (am_cv ad))) := by
  exact lv_goto F.1.1 F.1.2.1 hd ht (am_go F q S)
theorem am_find_any {l : List (Nat × Nat × Nat × Nat)} {q : Nat} {f : Nat × Nat × Nat → Bool} (h1 : (am_find l q).any f = true) : ∃ x, am_find l q = some x ∧ f x = true := by
  cases hf : am_find l q with
  | none => rw [hf] at h1; cases h1
  | some x => rw [hf] at h1; exact ⟨x, rfl, h1⟩
theorem am_divmod (o n : Nat) (hn : n < 10000) : (o * 10000 + n) / 10000 = o ∧ (o * 10000 + n) % 10000 = n := by omega
end AMS
