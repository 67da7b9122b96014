/-! own: the machine run on lists of cells; what it finds holds of WP -/
abbrev EC : Type := List (Nat × Nat × List Int32 × List UInt32 × List (Option Nat))
def ecd : Nat × Nat × List Int32 × List UInt32 × List (Option Nat) := (0, 0, [], [], [])
def eg (C : EC) (o : Nat) : Nat × Nat × List Int32 × List UInt32 × List (Option Nat) := am_nt C o ecd
def ec (X : Nat × (Nat → Int32)) (C : EC) : AH := (C.length, fun o => (eg C o).1, fun o => (eg C o).2.1, fun o j => am_nt (eg C o).2.2.1 j 0, fun _ _ => 0, fun o j => am_nt (eg C o).2.2.2.1 j 0, fun o j => am_nt (eg C o).2.2.2.2 j none, X)
/-- a list with one place told, and made longer for it -/
def am_ls {α : Type} : List α → Nat → α → α → List α
  | [], 0, _, v => [v]
  | [], n + 1, d, v => d :: am_ls [] n d v
  | _ :: l, 0, _, v => v :: l
  | a :: l, n + 1, d, v => a :: am_ls l n d v
theorem am_nt_nil {α : Type} (j : Nat) (d : α) : am_nt ([] : List α) j d = d := by cases j <;> rfl
theorem am_nt_ls {α : Type} : ∀ (l : List α) (i j : Nat) (d v : α), am_nt (am_ls l i d v) j d = if j = i then v else am_nt l j d
  | [], 0, 0, d, v => rfl
  | [], 0, j + 1, d, v => by rw [if_neg (by omega)]; exact am_nt_nil j d
  | [], n + 1, 0, d, v => by rw [if_neg (by omega)]; rfl
  | [], n + 1, j + 1, d, v => by
    show am_nt (am_ls [] n d v) j d = _
    rw [am_nt_ls [] n j d v, am_nt_nil, am_nt_nil]
    by_cases e : j = n
    · rw [if_pos e, if_pos (by omega)]
    · rw [if_neg e, if_neg (by omega)]
  | a :: l, 0, 0, d, v => rfl
  | a :: l, 0, j + 1, d, v => by rw [if_neg (by omega)]; rfl
  | a :: l, n + 1, 0, d, v => by rw [if_neg (by omega)]; rfl
  | a :: l, n + 1, j + 1, d, v => by
    show am_nt (am_ls l n d v) j d = _
    rw [am_nt_ls l n j d v]
    by_cases e : j = n
    · rw [if_pos e, if_pos (by omega)]
    · rw [if_neg e, if_neg (by omega)]; rfl
def am_lm {α : Type} : List α → Nat → (α → α) → List α
  | [], _, _ => []
  | a :: l, 0, f => f a :: l
  | a :: l, n + 1, f => a :: am_lm l n f
theorem am_lm_len {α : Type} : ∀ (l : List α) (i : Nat) (f : α → α), (am_lm l i f).length = l.length
  | [], _, _ => rfl
  | a :: l, 0, f => rfl
  | a :: l, n + 1, f => congrArg Nat.succ (am_lm_len l n f)
theorem am_nt_lm {α : Type} : ∀ (l : List α) (i j : Nat) (f : α → α) (d : α), i < l.length → am_nt (am_lm l i f) j d = if j = i then f (am_nt l i d) else am_nt l j d
  | [], i, j, f, d, h => absurd h (Nat.not_lt_zero i)
  | a :: l, 0, 0, f, d, h => rfl
  | a :: l, 0, j + 1, f, d, h => by rw [if_neg (by omega)]; rfl
  | a :: l, n + 1, 0, f, d, h => by rw [if_neg (by omega)]; rfl
  | a :: l, n + 1, j + 1, f, d, h => by
    show am_nt (am_lm l n f) j d = _
    rw [am_nt_lm l n j f d (Nat.lt_of_succ_lt_succ h)]
    by_cases e : j = n
    · rw [if_pos e, if_pos (by omega)]; rfl
    · rw [if_neg e, if_neg (by omega)]; rfl
theorem am_nt_app {α : Type} : ∀ (l : List α) (x : α) (j : Nat) (d : α), am_nt (l ++ [x]) j d = if j = l.length then x else am_nt l j d
  | [], x, 0, d => rfl
  | [], x, j + 1, d => by rw [if_neg (by simp)]; exact am_nt_nil j d
  | a :: l, x, 0, d => by rw [if_neg (by simp)]; rfl
  | a :: l, x, j + 1, d => by
    show am_nt (l ++ [x]) j d = _
    rw [am_nt_app l x j d]
    by_cases e : j = l.length
    · rw [if_pos e, if_pos (by simp [e])]
    · rw [if_neg e, if_neg (by simp [e])]; rfl
def esI (C : EC) (o j : Nat) (v : Int32) : EC := am_lm C o fun q => (q.1, q.2.1, am_ls q.2.2.1 j 0 v, q.2.2.2.1, q.2.2.2.2)
def esF (C : EC) (o j : Nat) (v : UInt32) : EC := am_lm C o fun q => (q.1, q.2.1, q.2.2.1, am_ls q.2.2.2.1 j 0 v, q.2.2.2.2)
def esR (C : EC) (o j : Nat) (v : Option Nat) : EC := am_lm C o fun q => (q.1, q.2.1, q.2.2.1, q.2.2.2.1, am_ls q.2.2.2.2 j none v)
def enw (C : EC) (kd n : Nat) : EC := C ++ [(kd, n, [], [], [])]
theorem ec_n {X : Nat × (Nat → Int32)} {C : EC} : hn (ec X C) = C.length := rfl
theorem ec_sI {X : Nat × (Nat → Int32)} {C : EC} {o j : Nat} {v : Int32} (ho : o < C.length) : sI (ec X C) o j v = ec X (esI C o j v) := by
  have g : ∀ i, eg (esI C o j v) i = if i = o then ((eg C o).1, (eg C o).2.1, am_ls (eg C o).2.2.1 j 0 v, (eg C o).2.2.2.1, (eg C o).2.2.2.2) else eg C i := fun i => am_nt_lm C o i _ ecd ho
  have e1 : (fun i => (eg (esI C o j v) i).1) = fun i => (eg C i).1 := by funext i; rw [g]; split <;> simp_all
  have e2 : (fun i => (eg (esI C o j v) i).2.1) = fun i => (eg C i).2.1 := by funext i; rw [g]; split <;> simp_all
  have e3 : (fun i k => am_nt (eg (esI C o j v) i).2.2.1 k 0) = am_u (fun i k => am_nt (eg C i).2.2.1 k 0) o j v := by
    funext i k
    rw [g]
    unfold am_u
    by_cases h1 : i = o
    · subst h1
      rw [if_pos rfl]
      show am_nt (am_ls _ j 0 v) k 0 = _
      rw [am_nt_ls]
      by_cases h2 : k = j <;> simp [h2]
    · simp [h1]
  have e4 : (fun i k => am_nt (eg (esI C o j v) i).2.2.2.1 k 0) = fun i k => am_nt (eg C i).2.2.2.1 k 0 := by funext i k; rw [g]; split <;> simp_all
  have e5 : (fun i k => am_nt (eg (esI C o j v) i).2.2.2.2 k none) = fun i k => am_nt (eg C i).2.2.2.2 k none := by funext i k; rw [g]; split <;> simp_all
  unfold ec
  rw [e1, e2, e3, e4, e5, show (esI C o j v).length = C.length from am_lm_len _ _ _]
  rfl
theorem ec_sF {X : Nat × (Nat → Int32)} {C : EC} {o j : Nat} {v : UInt32} (ho : o < C.length) : sF (ec X C) o j v = ec X (esF C o j v) := by
  have g : ∀ i, eg (esF C o j v) i = if i = o then ((eg C o).1, (eg C o).2.1, (eg C o).2.2.1, am_ls (eg C o).2.2.2.1 j 0 v, (eg C o).2.2.2.2) else eg C i := fun i => am_nt_lm C o i _ ecd ho
  have e1 : (fun i => (eg (esF C o j v) i).1) = fun i => (eg C i).1 := by funext i; rw [g]; split <;> simp_all
  have e2 : (fun i => (eg (esF C o j v) i).2.1) = fun i => (eg C i).2.1 := by funext i; rw [g]; split <;> simp_all
  have e4 : (fun i k => am_nt (eg (esF C o j v) i).2.2.2.1 k 0) = am_u (fun i k => am_nt (eg C i).2.2.2.1 k 0) o j v := by
    funext i k
    rw [g]
    unfold am_u
    by_cases h1 : i = o
    · subst h1
      rw [if_pos rfl]
      show am_nt (am_ls _ j 0 v) k 0 = _
      rw [am_nt_ls]
      by_cases h2 : k = j <;> simp [h2]
    · simp [h1]
  have e3 : (fun i k => am_nt (eg (esF C o j v) i).2.2.1 k 0) = fun i k => am_nt (eg C i).2.2.1 k 0 := by funext i k; rw [g]; split <;> simp_all
  have e5 : (fun i k => am_nt (eg (esF C o j v) i).2.2.2.2 k none) = fun i k => am_nt (eg C i).2.2.2.2 k none := by funext i k; rw [g]; split <;> simp_all
  unfold ec
  rw [e1, e2, e3, e4, e5, show (esF C o j v).length = C.length from am_lm_len _ _ _]
  rfl
theorem ec_sR {X : Nat × (Nat → Int32)} {C : EC} {o j : Nat} {v : Option Nat} (ho : o < C.length) : sR (ec X C) o j v = ec X (esR C o j v) := by
  have g : ∀ i, eg (esR C o j v) i = if i = o then ((eg C o).1, (eg C o).2.1, (eg C o).2.2.1, (eg C o).2.2.2.1, am_ls (eg C o).2.2.2.2 j none v) else eg C i := fun i => am_nt_lm C o i _ ecd ho
  have e1 : (fun i => (eg (esR C o j v) i).1) = fun i => (eg C i).1 := by funext i; rw [g]; split <;> simp_all
  have e2 : (fun i => (eg (esR C o j v) i).2.1) = fun i => (eg C i).2.1 := by funext i; rw [g]; split <;> simp_all
  have e5 : (fun i k => am_nt (eg (esR C o j v) i).2.2.2.2 k none) = am_u (fun i k => am_nt (eg C i).2.2.2.2 k none) o j v := by
    funext i k
    rw [g]
    unfold am_u
    by_cases h1 : i = o
    · subst h1
      rw [if_pos rfl]
      show am_nt (am_ls _ j none v) k none = _
      rw [am_nt_ls]
      by_cases h2 : k = j <;> simp [h2]
    · simp [h1]
  have e3 : (fun i k => am_nt (eg (esR C o j v) i).2.2.1 k 0) = fun i k => am_nt (eg C i).2.2.1 k 0 := by funext i k; rw [g]; split <;> simp_all
  have e4 : (fun i k => am_nt (eg (esR C o j v) i).2.2.2.1 k 0) = fun i k => am_nt (eg C i).2.2.2.1 k 0 := by funext i k; rw [g]; split <;> simp_all
  unfold ec
  rw [e1, e2, e3, e4, e5, show (esR C o j v).length = C.length from am_lm_len _ _ _]
  rfl
theorem ec_sL {X : Nat × (Nat → Int32)} {C : EC} {o j : Nat} : sL (ec X C) o j 0 = ec X C := by
  have e : am_u (fun _ _ => (0 : Int64)) o j 0 = fun _ _ => 0 := by
    funext i k
    unfold am_u
    split <;> rfl
  show (_, _, _, _, am_u (fun _ _ => (0 : Int64)) o j 0, _) = _
  rw [e]
  rfl
theorem ec_new {X : Nat × (Nat → Int32)} {C : EC} {kd n : Nat} : hnew (ec X C) kd n = ec X (enw C kd n) := by
  have g : ∀ i, eg (enw C kd n) i = if i = C.length then (kd, n, [], [], []) else eg C i := fun i => am_nt_app C _ i ecd
  have gn : eg C C.length = ecd := am_nt_big C C.length ecd (Nat.le_refl _)
  have e1 : (fun i => (eg (enw C kd n) i).1) = va_up (fun i => (eg C i).1) C.length kd := by funext i; rw [g]; unfold va_up; split <;> rfl
  have e2 : (fun i => (eg (enw C kd n) i).2.1) = va_up (fun i => (eg C i).2.1) C.length n := by funext i; rw [g]; unfold va_up; split <;> rfl
  have e3 : (fun i k => am_nt (eg (enw C kd n) i).2.2.1 k 0) = am_z (fun i k => am_nt (eg C i).2.2.1 k 0) C.length 0 := by
    funext i k
    rw [g]
    unfold am_z
    split
    · exact am_nt_nil k 0
    · rfl
  have e4 : (fun i k => am_nt (eg (enw C kd n) i).2.2.2.1 k 0) = am_z (fun i k => am_nt (eg C i).2.2.2.1 k 0) C.length 0 := by
    funext i k
    rw [g]
    unfold am_z
    split
    · exact am_nt_nil k 0
    · rfl
  have e5 : (fun i k => am_nt (eg (enw C kd n) i).2.2.2.2 k none) = am_z (fun i k => am_nt (eg C i).2.2.2.2 k none) C.length none := by
    funext i k
    rw [g]
    unfold am_z
    split
    · exact am_nt_nil k none
    · rfl
  have e6 : am_z (fun _ _ => (0 : Int64)) C.length 0 = fun _ _ => 0 := by
    funext i k
    unfold am_z
    split <;> rfl
  show (C.length + 1, va_up (fun i => (eg C i).1) C.length kd, va_up (fun i => (eg C i).2.1) C.length n, am_z (fun i k => am_nt (eg C i).2.2.1 k 0) C.length 0, am_z (fun _ _ => (0 : Int64)) C.length 0, am_z (fun i k => am_nt (eg C i).2.2.2.1 k 0) C.length 0, am_z (fun i k => am_nt (eg C i).2.2.2.2 k none) C.length none, X) = _
  rw [← e1, ← e2, ← e3, ← e4, ← e5, e6]
  unfold ec
  rw [show (enw C kd n).length = C.length + 1 by unfold enw; simp]
def egr (C : EC) (n : Nat) : EC := esR (esR (esR (enw (enw (enw (enw C 34 3) 20 n) 20 n) 20 n) C.length 0 (some (C.length + 1))) C.length 1 (some (C.length + 2))) C.length 2 (some (C.length + 3))
theorem enw_len {C : EC} {kd n : Nat} : (enw C kd n).length = C.length + 1 := by unfold enw; simp
theorem esR_len {C : EC} {o j : Nat} {v : Option Nat} : (esR C o j v).length = C.length := am_lm_len _ _ _
theorem ec_grid {X : Nat × (Nat → Int32)} {C : EC} {n : Nat} : hgrid (ec X C) n = ec X (egr C n) := by
  unfold hgrid egr
  rw [ec_new, ec_new, ec_new, ec_new, ec_n, ec_sR (by simp only [enw_len]; omega), ec_sR (by rw [esR_len]; simp only [enw_len]; omega), ec_sR (by rw [esR_len, esR_len]; simp only [enw_len]; omega)]
