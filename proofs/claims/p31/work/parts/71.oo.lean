/-! own: outputs, as a function of sizes, texts, pins and rains -/
set_option maxRecDepth 100000
section OO
variable (a b p w : Nat → Int32)
def vT (v : Nat) : List Int32 := seg b (40 * v) (a v).toNatClampNeg
def envO (prev cur : Nat → UInt32) (v h : Nat) : Nat → UInt32 := fun j =>
  if j < 3 then FP.i2f (w (201 * j + h))
  else if j < 9 then (if p (6 * v + (j - 3)) = -1 then 0 else cur (p (6 * v + (j - 3))).toNatClampNeg)
  else if j < 15 then (if p (6 * v + (j - 9)) = -1 then 0 else if h = 0 then 0 else prev (p (6 * v + (j - 9))).toNatClampNeg)
  else if j = 15 then (if h = 0 then 0 else prev v) else if j = 16 then FP.i2f (nI h) else 0
def cellO (prev cur : Nat → UInt32) (v h : Nat) : UInt32 := hdF (evalR (envO p w prev cur v h) (rF (rForm 0 (vT a b v))))
def rowN (prev : Nat → UInt32) (h : Nat) : Nat → Nat → UInt32
  | 0 => fun _ => 0
  | n + 1 => fun v => if v = n then cellO a b p w prev (rowN prev h n) n h else rowN prev h n v
def rowO : Nat → Nat → UInt32
  | 0 => rowN a b p w (fun _ => 0) 0 60
  | h + 1 => rowN a b p w (rowO h) (h + 1) 60
def prevO : Nat → Nat → UInt32
  | 0 => fun _ => 0
  | h + 1 => rowO a b p w h
/-- the output of a version in an hour -/
def OO (v h : Nat) : UInt32 := rowO a b p w h v
theorem rowN_ge {prev : Nat → UInt32} {h n : Nat} : ∀ (m u : Nat), u < n → rowN a b p w prev h (n + m) u = rowN a b p w prev h n u
  | 0, _, _ => rfl
  | m + 1, u, hu => by
    show (if u = n + m then _ else rowN a b p w prev h (n + m) u) = _
    rw [if_neg (by omega)]
    exact rowN_ge m u hu
theorem rowO_N (h : Nat) : rowO a b p w h = rowN a b p w (prevO a b p w h) h 60 := by cases h <;> rfl
end OO
section OQ
variable {a b p w : Nat → Int32} {v h : Nat}
/-- pins point down -/
def PinsOk (p : Nat → Int32) (v : Nat) : Prop := ∀ k, k < 6 → p (6 * v + k) = -1 ∨ ∃ u, u < v ∧ p (6 * v + k) = nI u
theorem OO_eq (hv : v < 60) (hp : PinsOk p v) (hs : SlotsOk 0 (rF (rForm 0 (vT a b v)))) : OO a b p w v h = hdF (evalR (envO p w (prevO a b p w h) (rowO a b p w h) v h) (rF (rForm 0 (vT a b v)))) := by
  unfold OO
  rw [rowO_N]
  have e1 : rowN a b p w (prevO a b p w h) h 60 v = rowN a b p w (prevO a b p w h) h (v + 1) v := by
    have := rowN_ge a b p w (prev := prevO a b p w h) (h := h) (n := v + 1) (60 - (v + 1)) v (by omega)
    rw [show v + 1 + (60 - (v + 1)) = 60 by omega] at this
    exact this
  rw [e1]
  show (if v = v then cellO a b p w (prevO a b p w h) (rowN a b p w (prevO a b p w h) h v) v h else _) = _
  rw [if_pos rfl]
  unfold cellO
  congr 1
  refine evalR_cong (rule := 0) (fun s hs => ?_) _ hs
  rcases hs with ⟨_, j, e, hj⟩ | ⟨n, _⟩
  · rw [e, ename_nI (by omega), ename_nI (by omega)]
    unfold envO
    split
    · rfl
    · split
      · split
        · rfl
        · rename_i c1 c2 c3
          rcases hp (j - 3) (by omega) with e2 | ⟨u, hu, e2⟩
          · exact absurd e2 c3
          · rw [e2, nI_clamp (by omega)]
            have := rowN_ge a b p w (prev := prevO a b p w h) (h := h) (n := v) (60 - v) u hu
            rw [show v + (60 - v) = 60 by omega] at this
            exact this.symm
      · rfl
  · exact absurd n (by decide)
theorem hd_kv {s : List UInt32} (h : kvs s) : kv (hdF s) := kv_hd h
theorem rowN_kv {prev : Nat → UInt32} : ∀ (n u : Nat), kv (rowN a b p w prev h n u)
  | 0, _ => kv_0
  | n + 1, u => by
    show kv (if u = n then cellO a b p w prev (rowN a b p w prev h n) n h else rowN a b p w prev h n u)
    split
    · exact kv_hd (evalR_kvs _)
    · exact rowN_kv n u
theorem OO_kv : kv (OO a b p w v h) := by
  unfold OO
  rw [rowO_N]
  exact rowN_kv 60 v
theorem prevO_kv {u : Nat} : kv (prevO a b p w h u) := by
  cases h with
  | zero => exact kv_0
  | succ h => exact OO_kv
end OQ
/-- a formula's cells show the parts, models and gauges -/
def FC (I : Nat → Nat → Int32) (o : Nat) (R : RS) : Prop := I o 2 = nI (rF R).length ∧ StkP I (o + 1) (o + 2) (rF R) ∧ I o 3 = rM R ∧ I o 4 = rA R
/-- a text without fault -/
def Txt (rule : Int32) (t : List Int32) : Prop := t.length ≤ 40 ∧ ∃ R, rRun rule t 0 r0 = .inr R ∧ good R
theorem run_sz {rule : Int32} : ∀ {l : List Int32} {i : Nat} {r R : RS}, rRun rule l i r = .inr R → rSz r ≤ i → rSz R ≤ i + l.length
  | [], i, r, R, h, z => by cases h; exact z
  | ch :: l, i, r, R, h, z => by
    unfold rRun at h
    cases hs : rStep rule ch r with
    | none => rw [hs] at h; cases h
    | some r2 =>
      rw [hs] at h
      have := step_sz hs
      have := run_sz (i := i + 1) h (by omega)
      simp only [List.length_cons]
      omega
theorem form_eq {rule : Int32} {t : List Int32} {R : RS} (h : rRun rule t 0 r0 = .inr R) : rForm rule t = rFin R := by unfold rForm; rw [h]
theorem Txt.len {rule : Int32} {t : List Int32} (h : Txt rule t) : (rF (rForm rule t)).length ≤ 40 := by
  obtain ⟨h1, R, h2, h3⟩ := h
  rw [form_eq h2]
  have a := run_sz h2 (Nat.le_refl _)
  have b := rEnd_sz (r := R)
  have c := rSet_sz (s := 1) (r := rEnd R)
  unfold rFin
  omega
theorem Txt.slots {rule : Int32} {t : List Int32} (hr : rule = 0 ∨ rule = 1) (h : Txt rule t) : SlotsOk rule (rF (rForm rule t)) := by
  obtain ⟨h1, R, h2, h3⟩ := h
  rw [form_eq h2]
  exact fin_slots hr h2
/-- a text without fault is one whose fault is -1 -/
theorem txt_fault {rule : Int32} {t : List Int32} (hl : t.length ≤ 40) : rFault rule t = -1 ↔ Txt rule t := by
  unfold rFault
  constructor
  · intro h
    refine ⟨hl, ?_⟩
    cases hr : rRun rule t 0 r0 with
    | inl i =>
      rw [hr] at h
      have := rRun_lt hr
      exact absurd h (nI_m1 (by omega))
    | inr R =>
      rw [hr] at h
      refine ⟨R, rfl, ?_⟩
      have h2 : rEndv t.length R = -1 := h
      unfold rEndv at h2
      by_cases c : rS (rFin R) = 6
      · rw [if_pos c] at h2
        by_cases d : (rH (rFin R)).length = 0
        · exact ⟨c, d⟩
        · rw [if_neg d] at h2; exact absurd h2 (nI_m1 (by omega))
      · rw [if_neg c] at h2; exact absurd h2 (nI_m1 (by omega))
  · rintro ⟨_, R, h2, h3⟩
    rw [h2]
    show rEndv t.length R = -1
    unfold rEndv
    rw [if_pos h3.1, if_pos h3.2]
