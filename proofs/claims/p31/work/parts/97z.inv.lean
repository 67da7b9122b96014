/-! own: the invariant of class and model, and what keeps it -/
set_option maxRecDepth 100000
/-- versions, rains, outputs kept -/
def VI (I : Nat → Nat → Int32) (L : Nat → Nat → Int64) (F : Nat → Nat → UInt32) (s : AS) : Prop := (WA s ∧ Frsh s ∧ CA I L s ∧ MA I s) ∧ RC I ∧ OC I F (aC s) ∧ NF F ∧ OM I F (aC s) ∧ ∀ v, aC s ≤ v → v < 60 → I (19 + 6 * v) 6 = 0
/-- the text that is typed -/
def DrI (I : Nat → Nat → Int32) (n : Nat) : Prop := n ≤ 40 ∧ I 1 1 = nI n ∧ I 1000498 2 = nI n ∧ ∀ k, k < n → I 2 k = I 1000499 k
/-- now -/
def NwI (I : Nat → Nat → Int32) (t : Nat) : Prop := t ≤ 200 ∧ I 0 9 = nI t ∧ I 1000498 1 = nI t
/-- what a dam is -/
def DamS (I : Nat → Nat → Int32) (rc d : Nat) : Prop := I (423 + 5 * d) 2 = I 1000517 d ∧
  (I 1000517 d ≠ 0 → ∃ mo cap, mo < 6 ∧ cap ≤ 100000 ∧ I (423 + 5 * d) 3 = nI mo ∧ I 1000518 d = nI mo ∧ I (423 + 5 * d) 4 = nI cap ∧ I 1000519 d = nI cap) ∧
  I (423 + 5 * d) 6 = I 1000521 d ∧
  (I 1000521 d ≠ 0 → ∃ l, l ≤ 40 ∧ I 1000522 d = nI l ∧ Txt 1 (seg (I 1000523) (40 * d) l) ∧ FC I (424 + 5 * d) (rForm 1 (seg (I 1000523) (40 * d) l))) ∧
  I (423 + 5 * d) 7 = I 1000524 d ∧ (I 1000524 d = -1 ∨ ∃ r, r < rc ∧ I 1000524 d = nI r) ∧
  I (423 + 5 * d) 8 = I 1000526 d ∧ (I 1000526 d ≠ 0 → I 1000517 d ≠ 0) ∧
  I (423 + 5 * d) 9 = I 1000527 d ∧ I (423 + 5 * d) 10 = I 1000528 d ∧ I (423 + 5 * d) 11 = I 1000529 d
/-- what becomes of a dam: the class's cells -/
def DamD (I : Nat → Nat → Int32) (F : Nat → Nat → UInt32) (A : Nat → Nat → Int32) (B : Nat → Nat → UInt32) (d : Nat) : Prop := F (423 + 5 * d) 5 = B 1000520 d ∧ F (423 + 5 * d) 12 = B 1000530 d ∧ I (423 + 5 * d) 13 = A 1000531 d ∧ ∀ k, k < 201 → F (427 + 5 * d) k = B 1000525 (201 * d + k)
/-- what its floats are -/
def DamF (B : Nat → Nat → UInt32) (t d : Nat) : Prop := up t (B 1000520 d) ∧ pz (B 1000520 d) ∧ TrOk (B 1000530 d) ∧ ∀ k, k < 201 → fin (B 1000525 (201 * d + k)) ∧ pz (B 1000525 (201 * d + k))
def DamI (I : Nat → Nat → Int32) (F : Nat → Nat → UInt32) (rc t : Nat) : Prop := ∀ d, d < 3 → DamS I rc d ∧ DamD I F I F d ∧ DamF F t d
def Sir1 (I : Nat → Nat → Int32) (rc x : Nat) : Prop := ∃ d r, d < 3 ∧ r < rc ∧ I (438 + x) 0 = nI d ∧ I 1000532 x = nI d ∧ I (438 + x) 1 = nI r ∧ I 1000533 x = nI r ∧ I (438 + x) 2 = I 1000534 x ∧ I (438 + x) 3 = I 1000536 x
def SirI (I : Nat → Nat → Int32) (rc sc : Nat) : Prop := sc ≤ 60 ∧ I 0 8 = nI sc ∧ I 1000498 39 = nI sc ∧ ∀ x, x < sc → Sir1 I rc x ∧ I (438 + x) 4 = I 1000535 x
def InvS (s : AS) (T rc sc t n N : Nat) (I : Nat → Nat → Int32) (L : Nat → Nat → Int64) (F : Nat → Nat → UInt32) : Prop := VI I L F s ∧ DrI I n ∧ NwI I t ∧ RunR I F (aC s) T rc ∧ (TelR I T ∧ T ≤ N) ∧ DamI I F rc t ∧ SirI I rc sc
def Inv (N : Nat) (I : Nat → Nat → Int32) (L : Nat → Nat → Int64) (F : Nat → Nat → UInt32) : Prop := ∃ (s : AS) (T rc sc t n : Nat), InvS s T rc sc t n N I L F
section IN
variable {I J : Nat → Nat → Int32} {L M : Nat → Nat → Int64} {F H : Nat → Nat → UInt32} {s : AS} {rc sc t n T N d x c : Nat}
/-- versions of the class, when cells that show none change -/
theorem CA.fr (h2 : ∀ o k, o ≠ 10 → 8 < o → o < 379 → k ≠ 6 → J o k = I o k) (h3 : ∀ o k, 19 < o → o < 379 → ¬ (∃ v, v < 60 ∧ o = 19 + 6 * v) → J o k = I o k) (hc : aC s ≤ 60) (z : CA I L s) : CA J L s := by
  refine ⟨(h2 9 4 (by omega) (by omega) (by omega) (by omega)).trans z.1, fun v hv => ?_, fun k hk => (h2 14 k (by omega) (by omega) (by omega) (by omega)).trans (z.2.2 k hk)⟩
  obtain ⟨a, b, d, e, f⟩ := z.2.1 v hv
  refine ⟨FC_fr (fun x y h1 => h3 x y (by omega) (by omega) (fun ⟨v, _, h⟩ => by omega)) a, fun k hk => (h3 _ k (by omega) (by omega) (fun ⟨v, _, h⟩ => by omega)).trans (b k hk), (h2 _ 3 (by omega) (by omega) (by omega) (by omega)).trans d, fun x => ?_, f⟩
  rw [h2 _ 4 (by omega) (by omega) (by omega) (by omega), e x]
  exact or_congr Iff.rfl ⟨fun ⟨k, u, h1, h3, h5, h4⟩ => ⟨k, u, h1, h3, h5, by rw [h2 _ 4 (by omega) (by omega) (by omega) (by omega)]; exact h4⟩, fun ⟨k, u, h1, h3, h5, h4⟩ => ⟨k, u, h1, h3, h5, by rw [h2 _ 4 (by omega) (by omega) (by omega) (by omega)] at h4; exact h4⟩⟩
theorem MA.fr (e5 : J 1000498 5 = I 1000498 5) (hr : ∀ o, 1000501 ≤ o → o ≤ 1000505 → J o = I o) (z : MA I s) : MA J s := by
  refine ⟨e5.trans z.1, ?_, fun k hk => ?_⟩
  · unfold MAv
    rw [hr 1000502 (by decide) (by decide), hr 1000503 (by decide) (by decide), hr 1000504 (by decide) (by decide), hr 1000501 (by decide) (by decide)]
    exact z.2.1
  · rw [hr 1000505 (by decide) (by decide)]; exact z.2.2 k hk
theorem RC.fr (h1 : ∀ g, g < 3 → ∀ k, J (16 + g) k = I (16 + g) k) (h2 : J 1000507 = I 1000507) (z : RC I) : RC J := fun g hg t ht => by
  rw [h1 g hg, h2]; exact z g hg t ht
theorem OC.fr (eo : OI J = OI I) (h1 : ∀ v, v < c → J (19 + 6 * v) 6 = I (19 + 6 * v) 6) (h2 : ∀ v k, v < c → H (19 + 6 * v + 5) k = F (19 + 6 * v + 5) k) (z : OC I F c) : OC J H c := fun v hv => by
  obtain ⟨kh, a, b, d⟩ := z v hv
  exact ⟨kh, a, (h1 v hv).trans b, fun t ht => by rw [h2 v t hv, eo]; exact d t ht⟩
theorem OM.fr (eo : OI J = OI I) (h1 : J 1000510 = I 1000510) (h2 : H 1000509 = F 1000509) (z : OM I F c) : OM J H c := fun v hv => by
  obtain ⟨kh, a, b, d⟩ := z v hv
  exact ⟨kh, a, by rw [h1]; exact b, fun t ht => by rw [h2, eo]; exact d t ht⟩
theorem VI.outc (z : VI I L F s) : OutC I L F (aC s) := outc_of z.1.1 z.1.2.2.1 z.1.2.2.2 z.2.1 z.2.2.1 z.2.2.2.1
theorem VI.outm (z : VI I L F s) : OutM I F (aC s) := outm_of z.1.1 z.1.2.2.2 z.2.2.2.2.1
/-- outputs were found, in the class -/
theorem VI.stepC (z : VI I L F s) (h2 : ∀ o k, o ≠ 10 → 8 < o → o < 379 → k ≠ 6 → J o k = I o k) (h3 : ∀ o k, 19 < o → o < 379 → ¬ (∃ v, v < 60 ∧ o = 19 + 6 * v) → J o k = I o k) (h6 : ∀ v, aC s ≤ v → v < 60 → J (19 + 6 * v) 6 = I (19 + 6 * v) 6) (e5 : J 1000498 5 = I 1000498 5) (hr : ∀ o, 1000501 ≤ o → o ≤ 1000510 → o ≠ 1000506 → o ≠ 1000508 → o ≠ 1000509 → J o = I o) (oc : OutC J L H (aC s)) (h9 : H 1000509 = F 1000509) : VI J L H s := by
  obtain ⟨⟨w, f, ca, ma⟩, rc, _, _, om, k0⟩ := z
  have eo : OI J = OI I := OI_cong (hr _ (by decide) (by decide) (by decide) (by decide) (by decide)) (hr _ (by decide) (by decide) (by decide) (by decide) (by decide)) (hr _ (by decide) (by decide) (by decide) (by decide) (by decide)) (hr _ (by decide) (by decide) (by decide) (by decide) (by decide))
  exact ⟨⟨w, f, ca.fr h2 h3 w.1, ma.fr e5 (fun o a b => hr o a (by omega) (by omega) (by omega) (by omega))⟩, oc.2.2.2.1, oc.2.2.2.2.2.1, oc.2.2.2.2.2.2, om.fr eo (hr _ (by decide) (by decide) (by decide) (by decide) (by decide)) h9, fun v a b => (h6 v a b).trans (k0 v a b)⟩
/-- cells of neither changed, but for the model's outputs -/
theorem VI.stepM (z : VI I L F s) (h2 : ∀ o k, 8 < o → o < 379 → o ≠ 10 → J o k = I o k) (e5 : J 1000498 5 = I 1000498 5) (hr : ∀ o, 1000501 ≤ o → o ≤ 1000507 → o ≠ 1000506 → J o = I o) (hF : ∀ o k, 8 < o → o < 379 → o ≠ 12 → H o k = F o k) (om : OM J H (aC s)) : VI J L H s := by
  obtain ⟨⟨w, f, ca, ma⟩, rc, oc, nf, _, k0⟩ := z
  have hc := w.1
  have eo : OI J = OI I := OI_cong (hr _ (by decide) (by decide) (by decide)) (hr _ (by decide) (by decide) (by decide)) (hr _ (by decide) (by decide) (by decide)) (hr _ (by decide) (by decide) (by decide))
  exact ⟨⟨w, f, ca.fr (fun o k a b c _ => h2 o k b c a) (fun o k a b _ => h2 o k (by omega) b (by omega)) w.1, ma.fr e5 (fun o a b => hr o a (by omega) (by omega))⟩, rc.fr (fun g hg k => h2 _ k (by omega) (by omega) (by omega)) (hr _ (by decide) (by decide) (by decide)), oc.fr eo (fun v hv => h2 _ _ (by omega) (by omega) (by omega)) (fun v k hv => hF _ k (by omega) (by omega) (by omega)), fun j hj => by rw [hF 11 j (by decide) (by decide) (by decide)]; exact nf j hj, om, fun v a b => (h2 _ _ (by omega) (by omega) (by omega)).trans (k0 v a b)⟩
/-- nothing of versions changed -/
theorem VI.same (z : VI I L F s) (h2 : ∀ o k, 8 < o → o < 379 → o ≠ 10 → J o k = I o k) (e5 : J 1000498 5 = I 1000498 5) (hr : ∀ o, 1000501 ≤ o → o ≤ 1000510 → o ≠ 1000506 → o ≠ 1000508 → o ≠ 1000509 → J o = I o) (hF : ∀ o k, 8 < o → o < 379 → o ≠ 12 → H o k = F o k) (h9 : H 1000509 = F 1000509) : VI J L H s :=
  z.stepM h2 e5 (fun o a b c => hr o a (by omega) c (by omega) (by omega)) hF (z.2.2.2.2.1.fr (OI_cong (hr _ (by decide) (by decide) (by decide) (by decide) (by decide)) (hr _ (by decide) (by decide) (by decide) (by decide) (by decide)) (hr _ (by decide) (by decide) (by decide) (by decide) (by decide)) (hr _ (by decide) (by decide) (by decide) (by decide) (by decide))) (hr _ (by decide) (by decide) (by decide) (by decide) (by decide)) h9)
theorem VI.long (h : ∀ o k, 8 < o → o < 379 → M o k = L o k) (z : VI I L F s) : VI I M F s := by
  obtain ⟨⟨w, f, ca, ma⟩, r⟩ := z
  exact ⟨⟨w, f, ca.lo (fun o k _ _ _ => Or.inl rfl) h (fun _ _ _ _ _ => rfl) w.1, ma⟩, r⟩
theorem DrI.fr (h1 : ∀ k, J 1 k = I 1 k) (h2 : ∀ k, J 2 k = I 2 k) (h3 : J 1000498 2 = I 1000498 2) (h4 : ∀ k, J 1000499 k = I 1000499 k) (z : DrI I n) : DrI J n :=
  ⟨z.1, (h1 1).trans z.2.1, h3.trans z.2.2.1, fun k hk => by rw [h2, h4]; exact z.2.2.2 k hk⟩
theorem NwI.fr (h1 : J 0 9 = I 0 9) (h2 : J 1000498 1 = I 1000498 1) (z : NwI I t) : NwI J t := ⟨z.1, h1.trans z.2.1, h2.trans z.2.2⟩
theorem RunR.fr (h1 : J 0 7 = I 0 7) (h2 : J 1000498 17 = I 1000498 17) (h3 : ∀ o k, 383 ≤ o → o < 423 → J o k = I o k) (e2 : ∀ o, (1000502 ≤ o ∧ o ≤ 1000504) ∨ o = 1000508 ∨ (1000511 ≤ o ∧ o ≤ 1000516) → J o = I o) (e3 : ∀ o k, 383 ≤ o → o < 423 → H o k = F o k) (e4 : H 1000514 = F 1000514) (z : RunR I F c T rc) : RunR J H c T rc := by
  have h40 := z.1
  exact ⟨z.1, h1.trans z.2.1, h2.trans z.2.2.1, fun r hr => (z.2.2.2 r hr).fr (fun k => h3 _ k (by omega) (by omega)) e2 (e3 _ 3 (by omega) (by omega)) e4⟩
theorem RunR.up (h : T ≤ N) (z : RunR I F c T rc) : RunR I F c N rc := ⟨z.1, z.2.1, z.2.2.1, fun r hr => by
  obtain ⟨v, a, b, z1, z2, z3, z4, z5, z6, z7, z8, z9, y1, y2, y3, ⟨M, m1, m2⟩, y4⟩ := z.2.2.2 r hr
  exact ⟨v, a, b, z1, z2, z3, z4, z5, z6, z7, z8, z9, y1, y2, y3, ⟨M, by omega, m2⟩, y4⟩⟩
theorem TelR.fr (h1 : J 1000498 14 = I 1000498 14) (h2 : J 1000508 = I 1000508) (z : TelR I T) : TelR J T := ⟨h1.trans z.1, by rw [h2]; exact z.2⟩
theorem DamS.fr (hd : d < 3) (h1 : ∀ o k, 423 ≤ o → o < 438 → k ≠ 13 → J o k = I o k) (h0 : ∀ o k, 423 < o → o < 438 → o ≠ 428 → o ≠ 433 → J o k = I o k) (h2 : ∀ o k, 1000517 ≤ o → o ≤ 1000529 → J o k = I o k) (z : DamS I rc d) : DamS J rc d := by
  obtain ⟨a, b, c, e, f, g, h, i, j, k, l⟩ := z
  have r523 : J 1000523 = I 1000523 := funext fun k => h2 1000523 k (by decide) (by decide)
  have q : ∀ o, 1000517 ≤ o → o ≤ 1000529 → J o d = I o d := fun o a b => h2 o d a b
  have p : ∀ k, k ≠ 13 → J (423 + 5 * d) k = I (423 + 5 * d) k := fun k hk => h1 _ k (by omega) (by omega) hk
  unfold DamS
  rw [p 2 (by decide), p 3 (by decide), p 4 (by decide), p 6 (by decide), p 7 (by decide), p 8 (by decide), p 9 (by decide), p 10 (by decide), p 11 (by decide), q 1000517 (by decide) (by decide), q 1000518 (by decide) (by decide), q 1000519 (by decide) (by decide), q 1000521 (by decide) (by decide), q 1000522 (by decide) (by decide), q 1000524 (by decide) (by decide), q 1000526 (by decide) (by decide), q 1000527 (by decide) (by decide), q 1000528 (by decide) (by decide), q 1000529 (by decide) (by decide), r523]
  refine ⟨a, b, c, fun n => ?_, f, g, h, i, j, k, l⟩
  obtain ⟨l, z1, z2, z3, z4⟩ := e n
  exact ⟨l, z1, z2, z3, FC_fr (fun x y h => h0 x y (by omega) (by omega) (by omega) (by omega)) z4⟩
theorem DamS.up (h : rc ≤ c) (z : DamS I rc d) : DamS I c d := by
  obtain ⟨a, b, e, f, g, h2, i⟩ := z
  exact ⟨a, b, e, f, g, h2.imp id (fun ⟨r, x, y⟩ => ⟨r, by omega, y⟩), i⟩
theorem DamI.fr (h1 : ∀ o k, 423 ≤ o → o < 438 → J o k = I o k) (h2 : ∀ o k, 1000517 ≤ o → o ≤ 1000531 → J o k = I o k) (f1 : ∀ o k, 423 ≤ o → o < 438 → H o k = F o k) (f2 : ∀ o k, o = 1000520 ∨ o = 1000525 ∨ o = 1000530 → H o k = F o k) (hc : rc ≤ c) (z : DamI I F rc t) : DamI J H c t := fun d hd => by
  obtain ⟨a, ⟨b1, b2, b3, b4⟩, c1, c2, c3, c4⟩ := z d hd
  refine ⟨(a.up hc).fr hd (fun o k x y _ => h1 o k x y) (fun o k x y _ _ => h1 o k (by omega) y) (fun o k x y => h2 o k x (by omega)), ⟨?_, ?_, ?_, fun k hk => ?_⟩, ?_, ?_, ?_, fun k hk => ?_⟩
  · rw [f1 _ _ (by omega) (by omega), f2 _ _ (by omega)]; exact b1
  · rw [f1 _ _ (by omega) (by omega), f2 _ _ (by omega)]; exact b2
  · rw [h1 _ _ (by omega) (by omega), h2 _ _ (by omega) (by omega)]; exact b3
  · rw [f1 _ _ (by omega) (by omega), f2 _ _ (by omega)]; exact b4 k hk
  · rw [f2 _ _ (by omega)]; exact c1
  · rw [f2 _ _ (by omega)]; exact c2
  · rw [f2 _ _ (by omega)]; exact c3
  · rw [f2 _ _ (by omega)]; exact c4 k hk
theorem Sir1.fr (h1 : ∀ k, k ≠ 4 → J (438 + x) k = I (438 + x) k) (h2 : ∀ o, 1000532 ≤ o → o ≤ 1000536 → o ≠ 1000535 → J o x = I o x) (hc : rc ≤ c) (z : Sir1 I rc x) : Sir1 J c x := by
  obtain ⟨d, r, z1, z2, z3, z4, z5, z6, z7, z8⟩ := z
  refine ⟨d, r, z1, by omega, (h1 0 (by decide)).trans z3, (h2 _ (by decide) (by decide) (by decide)).trans z4, (h1 1 (by decide)).trans z5, (h2 _ (by decide) (by decide) (by decide)).trans z6, ?_, ?_⟩
  · rw [h1 2 (by decide), h2 1000534 (by decide) (by decide) (by decide)]; exact z7
  · rw [h1 3 (by decide), h2 1000536 (by decide) (by decide) (by decide)]; exact z8
theorem SirI.fr (e1 : J 0 8 = I 0 8) (e2 : J 1000498 39 = I 1000498 39) (h1 : ∀ o k, 438 ≤ o → o < 498 → J o k = I o k) (h2 : ∀ o k, 1000532 ≤ o → o ≤ 1000536 → J o k = I o k) (hc : rc ≤ c) (z : SirI I rc sc) : SirI J c sc := by
  have h60 := z.1
  refine ⟨z.1, e1.trans z.2.1, e2.trans z.2.2.1, fun x hx => ?_⟩
  obtain ⟨a, b⟩ := z.2.2.2 x hx
  exact ⟨a.fr (fun k _ => h1 _ k (by omega) (by omega)) (fun o x1 x2 _ => h2 o x x1 x2) hc, by rw [h1 _ _ (by omega) (by omega), h2 _ _ (by decide) (by decide)]; exact b⟩
/-- cells that the other groups of the invariant hang on -/
def Qt (I J : Nat → Nat → Int32) : Prop := ∀ o k, (o ≤ 2 ∨ (381 ≤ o ∧ o < 498) ∨ (o = 1000498 ∧ 0 < k ∧ k < 46) ∨ o = 1000499 ∨ (1000502 ≤ o ∧ o ≤ 1000504) ∨ o = 1000508 ∨ (1000511 ≤ o ∧ o ≤ 1000536)) → J o k = I o k
def QtF (F H : Nat → Nat → UInt32) : Prop := ∀ o k, ((381 ≤ o ∧ o < 438) ∨ o = 1000514 ∨ o = 1000520 ∨ o = 1000525 ∨ o = 1000530) → H o k = F o k
theorem InvS.quiet (z : InvS s T rc sc t n N I L F) (v : VI J L H s) (hq : Qt I J) (hf : QtF F H) : InvS s T rc sc t n N J L H := by
  obtain ⟨_, dr, nw, rr, ⟨tl, hT⟩, da, si⟩ := z
  exact ⟨v, dr.fr (fun k => hq 1 k (by omega)) (fun k => hq 2 k (by omega)) (hq _ _ (by omega)) (fun k => hq _ k (by omega)), nw.fr (hq _ _ (by omega)) (hq _ _ (by omega)), rr.fr (hq _ _ (by omega)) (hq _ _ (by omega)) (fun o k a b => hq o k (by omega)) (fun o h => funext fun k => hq o k (by omega)) (fun o k a b => hf o k (by omega)) (funext fun k => hf _ k (by omega)), ⟨tl.fr (hq _ _ (by omega)) (funext fun k => hq _ k (by omega)), hT⟩, da.fr (fun o k a b => hq o k (by omega)) (fun o k a b => hq o k (by omega)) (fun o k a b => hf o k (by omega)) (fun o k h => hf o k (by omega)) (Nat.le_refl _), si.fr (hq _ _ (by omega)) (hq _ _ (by omega)) (fun o k a b => hq o k (by omega)) (fun o k a b => hq o k (by omega)) (Nat.le_refl _)⟩
/-- outputs found in the class -/
theorem InvS.oif (z : InvS s T rc sc t n N I L F) (i : OIF I J) (j : OFF F H) (oc : OutC J L H (aC s)) : InvS s T rc sc t n N J L H := by
  have c9 := z.1.1.2.2.1.1
  have hc := z.1.1.1.1
  refine z.quiet (z.1.stepC (fun o k a b c d => i o k (by omega) (fun ⟨v, _, _, e, _⟩ => d e)) (fun o k a b c => i o k (by omega) (fun ⟨v, x, y, _⟩ => c ⟨v, x, y⟩)) (fun v a b => i _ 6 (by omega) (fun ⟨u, x, y, _, w⟩ => ?_)) (i _ _ (by omega) (fun ⟨v, _, y, _⟩ => by omega)) (fun o a b _ _ _ => i.big (by omega)) oc (funext fun k => j _ k (by decide) (by decide) (fun ⟨v, x, y⟩ => by omega))) (fun o k h => i o k (by omega) (fun ⟨v, _, y, _⟩ => by omega)) (fun o k h => j o k (by omega) (by omega) (fun ⟨v, _, y⟩ => by omega))
  rw [c9] at w
  have := (nI_ltI (by omega) (by omega)).mp w
  omega
/-- a look ahead of the class with the run that is for trials -/
theorem InvS.lif (z : InvS s T rc sc t n N I L F) (i : LIF 380 I J) (j : LFF 380 F H) (oc : OutC J L H (aC s)) : InvS s T rc sc t n N J L H := by
  have c9 := z.1.1.2.2.1.1
  have hc := z.1.1.1.1
  refine z.quiet (z.1.stepC (fun o k a b c d => i o k (by omega) (by omega) (fun ⟨v, _, _, e, _⟩ => d e)) (fun o k a b c => i o k (by omega) (by omega) (fun ⟨v, x, y, _⟩ => c ⟨v, x, y⟩)) (fun v a b => i _ 6 (by omega) (by omega) (fun ⟨u, x, y, _, w⟩ => ?_)) (i _ _ (by omega) (by omega) (fun ⟨v, _, y, _⟩ => by omega)) (fun o a b _ _ _ => funext fun k => i o k (by omega) (by omega) (fun ⟨v, _, y, _⟩ => by omega)) oc (funext fun k => j _ k (by decide) (by decide) (by decide) (fun ⟨v, x, y⟩ => by omega))) (fun o k h => i o k (by omega) (by omega) (fun ⟨v, _, y, _⟩ => by omega)) (fun o k h => j o k (by omega) (by omega) (by omega) (fun ⟨v, _, y⟩ => by omega))
  rw [c9] at w
  have := (nI_ltI (by omega) (by omega)).mp w
  omega
/-- outputs found in the model -/
theorem InvS.moi (z : InvS s T rc sc t n N I L F) (i : MOI I J) (j : MOF F H) (om : OutM J H (aC s)) : InvS s T rc sc t n N J L H :=
  z.quiet (z.1.stepM (fun o k a b c => i o k (by omega) (by omega) (by omega) (by omega)) (i _ _ (by omega) (by decide) (by decide) (by decide)) (fun o a b c => funext fun k => i o k (by omega) (by omega) (by omega) (by omega)) (fun o k a b c => j o k (by omega) (by omega)) om.2.2) (fun o k h => i o k (by omega) (by omega) (by omega) (by omega)) (fun o k h => j o k (by omega) (by omega))
theorem Inv.up {N2 : Nat} (h : N ≤ N2) (z : Inv N I L F) : Inv N2 I L F := by
  obtain ⟨s, T, rc, sc, t, n, a, b, c, d, ⟨e, e2⟩, f⟩ := z
  exact ⟨s, T, rc, sc, t, n, a, b, c, d, ⟨e, by omega⟩, f⟩
theorem Inv.l540 {y : Int64} (z : Inv N I L F) : Inv N I (am_u L 1000540 0 y) F := by
  obtain ⟨s, T, rc, sc, t, n, a, b⟩ := z
  exact ⟨s, T, rc, sc, t, n, a.long (fun o k x y => am_u_ne (by omega)), b⟩
/-- the cell of what was thrown shows nothing -/
theorem InvS.thr {y : Int32} (z : InvS s T rc sc t n N I L F) : InvS s T rc sc t n N (am_u I 1000498 0 y) L F :=
  z.quiet (z.1.same (fun o k a b c => am_u_ne (by omega)) (am_u_ne (by omega)) (fun o a b _ _ _ => funext fun k => am_u_ne (by omega)) (fun _ _ _ _ _ => rfl) rfl) (fun o k h => am_u_ne (by omega)) (fun _ _ _ => rfl)
theorem InvS.l540 {y : Int64} (z : InvS s T rc sc t n N I L F) : InvS s T rc sc t n N I (am_u L 1000540 0 y) F :=
  ⟨z.1.long (fun o k x y => am_u_ne (by omega)), z.2⟩
theorem InvS.inv (z : InvS s T rc sc t n N I L F) : Inv (N + 1) I L F := Inv.up (Nat.le_succ N) ⟨s, T, rc, sc, t, n, z⟩
theorem Inv.thr {y : Int32} (z : Inv N I L F) : Inv N (am_u I 1000498 0 y) L F := by
  obtain ⟨s, T, rc, sc, t, n, z⟩ := z
  exact ⟨s, T, rc, sc, t, n, z.thr⟩
/-- outputs hang on no cell of the class itself -/
theorem OutC.ext0 (hI : ∀ q k, 0 < q → (q < 379 ∨ 498 ≤ q) → J q k = I q k) (z : OutC I L F c) : OutC J L F c := by
  obtain ⟨o1, o2, o3, o4, o5, o6, o7⟩ := z
  have r : ∀ q, 0 < q → (q < 379 ∨ 498 ≤ q) → J q = I q := fun q h0 hq => funext fun k => hI q k h0 hq
  have eoi : OI J = OI I := OI_cong (r _ (by omega) (by omega)) (r _ (by omega) (by omega)) (r _ (by omega) (by omega)) (r _ (by omega) (by omega))
  refine ⟨o1, (hI _ _ (by omega) (by omega)).trans o2, fun v hv => ?_, fun g hg t ht => ?_, fun v hv => ⟨(o5 v hv).1, fun u hu b k hk p e => (o5 v hv).2 u hu b k hk p (by rw [← hI 1000504 _ (by omega) (by omega)]; exact e)⟩, fun v hv => ?_, o7⟩
  · obtain ⟨z1, z2, z3, z4⟩ := o3 v hv
    rw [r 1000502 (by omega) (by omega), r 1000503 (by omega) (by omega), r 1000504 (by omega) (by omega)]
    exact ⟨z1, FC_fr (fun q k hq => hI q k (by omega) (by omega)) z2, z3, fun k hk => (hI _ _ (by omega) (by omega)).trans (z4 k hk)⟩
  · rw [hI _ _ (by omega) (by omega), hI _ _ (by omega) (by omega)]
    exact o4 g hg t ht
  · obtain ⟨kh, f1, f2, f3⟩ := o6 v hv
    exact ⟨kh, f1, (hI _ _ (by omega) (by omega)).trans f2, fun s hs => by rw [eoi]; exact f3 s hs⟩
end IN
