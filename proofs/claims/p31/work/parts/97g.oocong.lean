/-! own: outputs hang on texts, pins and the rains of named gauges alone -/
set_option maxRecDepth 100000
def InG (A x : Int32) : Prop := ∀ j, j < 3 → x = nI j → ib A j = true
section OG
variable {P P2 : Int32 → Prop} {s ch : Int32} {r r2 : RS}
theorem InG.out {M : Int32} {k : Nat} (h : 15 ≤ k) (h2 : k < 20) : InG M (nI k) := fun j hj e => by
  have := (nI_eq (by omega) (by omega)).mp e; omega
theorem step_ing (z0 : RSlots 0 r) (z : PS (InG (rA r)) r) (h : rStep 0 ch r = some r2) : PS (InG (rA r2)) r2 := by
  by_cases h4 : rS r = 4
  · obtain ⟨g, c, e2⟩ := step_nam h4 h
    have sl := (z0.2.2 h4).2
    obtain ⟨j, k, ek, hk, ej, hj⟩ := slot_add sl g c
    have b := (step_mkB (areG := 1) (Or.inr rfl) h4 z0 h).1
    have b2 : rA r2 = rA r ||| (if pd 1 r then bitc ch else 0) := b
    have up : ∀ x, InG (rA r) x → InG (rA r2) x := fun x hx i hi e => by rw [b2, ib_or, hx i hi e]; rfl
    have bc : bitc ch = (1 : Int32) <<< (nI k &&& 31) := by unfold bitc; rw [← fig_eq g, ek]
    have new : InG (rA r2) (nI j) := fun i hi e => by
      have p : pd 1 r ∧ i = k := by
        rw [ek] at ej
        have e3 := (nI_eq (by omega) (by omega)).mp e
        rcases sl with ⟨l, cc⟩ | ⟨l, cc⟩ | ⟨l, cc⟩
        · rw [l] at ej
          have jk : j = k := (nI_eq (by omega) (by omega)).mp (by rw [← ej]; exact (Int32.zero_add _))
          exact ⟨⟨h4, Or.inr ⟨rfl, l⟩⟩, by omega⟩
        · rw [l] at ej
          have jk : j = 3 + k := (nI_eq (by omega) (by omega)).mp (by rw [← ej]; exact nI_add 3 k)
          omega
        · rw [l] at ej
          have jk : j = 9 + k := (nI_eq (by omega) (by omega)).mp (by rw [← ej]; exact nI_add 9 k)
          omega
      rw [b2, if_pos p.1, bc, ib_or, i_oneN (by omega), p.2, decide_eq_true rfl, Bool.or_true]
    rw [ej] at e2
    have eF : rF r2 = (1, nI j) :: rF r := by rw [e2]; rfl
    have eH : rH r2 = rH r := by rw [e2]; rfl
    refine ⟨?_, by rw [eH]; exact z.2⟩
    rw [eF]
    exact ⟨fun _ => new, SP.imp up z.1⟩
  · have a := (step_mkA (areG := 1) (Or.inr rfl) h4 h).1
    have a2 : rA r2 = rA r := a
    rw [a2]
    exact step_sp (InG.out (k := 15) (by decide) (by decide)) (InG.out (k := 16) (by decide) (by decide)) h4 z h
theorem run_ing : ∀ (l : List Int32) (i : Nat) (r R : RS), RSlots 0 r → PS (InG (rA r)) r → rRun 0 l i r = .inr R → PS (InG (rA R)) R
  | [], i, r, R, _, z, h => by cases h; exact z
  | ch :: l, i, r, R, z0, z, h => by
    unfold rRun at h
    cases hs : rStep 0 ch r with
    | none => rw [hs] at h; cases h
    | some r2 => rw [hs] at h; exact run_ing l (i + 1) r2 R (step_slots (Or.inl rfl) z0 hs) (step_ing z0 z hs) h
theorem form_gau {t : List Int32} (tx : Txt 0 t) : SP (InG (msk 1 t)) (rF (rForm 0 t)) := by
  have eA := mask_txt (areG := 1) (Or.inr rfl) tx
  obtain ⟨_, R, h2, h3⟩ := tx
  rw [← eA]
  rw [form_eq h2]
  have z := run_ing t 0 r0 R ⟨trivial, trivial, fun n => absurd (show (0 : Int32) = 4 from n) (by decide)⟩ ⟨trivial, trivial⟩ h2
  have e := rEnd_sp z
  have f := (settle_sp (s := 1) (rH (rEnd R)) (rF (rEnd R)) e.2 e.1).1
  have eM : mk 1 (rFin R) = rA R := mk_end (areG := 1) (r := R)
  rw [eM]
  exact f
theorem SP.and : ∀ {f : FM}, SP P f → SP P2 f → SP (fun x => P x ∧ P2 x) f
  | [], _, _ => trivial
  | p :: f, a, b => ⟨fun e => ⟨a.1 e, b.1 e⟩, SP.and a.2 b.2⟩
theorem SP.slots {rule : Int32} : ∀ {f : FM}, SlotsOk rule f → SP (SlotOk rule) f
  | [], _ => trivial
  | p :: f, a => ⟨a.1, SP.slots a.2⟩
theorem evalR_congP {nm nm2 : Nat → UInt32} (h : ∀ s, P s → ename nm s = ename nm2 s) : ∀ (f : FM), SP P f → evalR nm f = evalR nm2 f
  | [], _ => rfl
  | p :: f, z => by
    show est nm p (evalR nm f) = est nm2 p (evalR nm2 f)
    rw [evalR_congP h f z.2]
    unfold est
    split
    · rfl
    · split
      · rename_i e
        rw [h p.2 (z.1 e)]
      · rfl
end OG
section OH
variable {a b p w a2 b2 p2 w2 : Nat → Int32} {H : Nat} {S : Nat → Prop}
/-- a set of versions, closed by pins, of which all is the same -/
def Same (a b p w a2 b2 p2 w2 : Nat → Int32) (H : Nat) (S : Nat → Prop) : Prop := ∀ u, S u → u < 60 ∧ Txt 0 (vT a b u) ∧ vT a2 b2 u = vT a b u ∧ PinsOk p u ∧ (∀ k, k < 6 → p2 (6 * u + k) = p (6 * u + k)) ∧ (∀ k x, k < 6 → p (6 * u + k) = nI x → x < u → S x) ∧ (∀ g, g < 3 → ib (msk 1 (vT a b u)) g = true → ∀ t, t ≤ H → w2 (201 * g + t) = w (201 * g + t))
theorem OO_in (hs : Same a b p w a2 b2 p2 w2 H S) {h : Nat} (hh : h ≤ H) (pr : ∀ u, S u → prevO a2 b2 p2 w2 h u = prevO a b p w h u) : ∀ n u, u < n → S u → OO a2 b2 p2 w2 u h = OO a b p w u h
  | 0, u, l, _ => absurd l (by omega)
  | n + 1, u, l, su => by
    obtain ⟨u60, tx, et, po, ep, cl, ra⟩ := hs u su
    have po2 : PinsOk p2 u := fun k hk => by rw [ep k hk]; exact po k hk
    rw [OO_eq u60 po (tx.slots (Or.inl rfl)), OO_eq u60 po2 (by rw [et]; exact tx.slots (Or.inl rfl)), et]
    congr 1
    refine evalR_congP (fun x hx => ?_) _ (SP.and (SP.slots (tx.slots (Or.inl rfl))) (form_gau tx))
    obtain ⟨hx1, hx2⟩ := hx
    rcases hx1 with ⟨_, j, e, hj⟩ | ⟨n, _⟩
    · rw [e, ename_nI (by omega), ename_nI (by omega)]
      unfold envO
      split
      · rename_i j3
        rw [ra j j3 (hx2 j j3 e) h hh]
      · split
        · rw [ep (j - 3) (by omega)]
          rcases po (j - 3) (by omega) with e2 | ⟨x, hx, e2⟩
          · rw [if_pos e2, if_pos e2]
          · have c3 : ¬ p (6 * u + (j - 3)) = -1 := fun n => nI_m1 (by omega) (e2.symm.trans n)
            rw [if_neg c3, if_neg c3, e2, nI_clamp (by omega)]
            exact OO_in hs hh pr n x (by omega) (cl (j - 3) x (by omega) e2 hx)
        · split
          · rw [ep (j - 9) (by omega)]
            rcases po (j - 9) (by omega) with e2 | ⟨x, hx, e2⟩
            · rw [if_pos e2, if_pos e2]
            · have c3 : ¬ p (6 * u + (j - 9)) = -1 := fun n => nI_m1 (by omega) (e2.symm.trans n)
              rw [if_neg c3, if_neg c3, e2, nI_clamp (by omega)]
              rw [pr x (cl (j - 9) x (by omega) e2 hx)]
          · split
            · rw [pr u su]
            · rfl
    · exact absurd n (by decide)
theorem OO_cong (hs : Same a b p w a2 b2 p2 w2 H S) : ∀ h, h ≤ H → ∀ u, S u → OO a2 b2 p2 w2 u h = OO a b p w u h
  | 0, hh, u, su => OO_in hs hh (fun _ _ => rfl) (u + 1) u (by omega) su
  | h + 1, hh, u, su => OO_in hs hh (fun x sx => OO_cong hs h (by omega) x sx) (u + 1) u (by omega) su
end OH
