/-! own: the text that the law types -/
set_option maxRecDepth 100000
/-- the rows that texts make -/
def TF (I J : Nat → Nat → Int32) : Prop := ∀ o k, 498 ≤ o → o < 1000000 → J o k = I o k
section ZD
variable {X : Nat × (Nat × (Nat → Int32))} {I J K : Nat → Nat → Int32} {L M : Nat → Nat → Int64} {F H : Nat → Nat → UInt32} {Q : AQ} {N T rc sc t n n2 d r v k h x c : Nat} {s : AS} {p0 : Int32}
theorem TF.refl : TF I I := fun _ _ _ _ => rfl
theorem TF.trans (a : TF I J) (b : TF J K) : TF I K := fun o k x y => (b o k x y).trans (a o k x y)
theorem TF.rdf (i : RdFr I J) : TF I J := fun o k x y => i o k (by omega)
theorem TF.oif (i : OIF I J) : TF I J := fun o k x y => i o k (by omega) (fun ⟨v, _, y, _⟩ => by omega)
theorem TF.lif (i : LIF 380 I J) : TF I J := fun o k x y => i o k (by omega) (by omega) (fun ⟨v, _, y, _⟩ => by omega)
theorem z_wipe (hX : X.1 ≤ 400000) (iv : Al s T rc sc t n N I L F) (q : ∀ J, Al s T rc sc t 0 N J L F → TF I J → Q (.inl (some (.int (nI n)))) (G X J L F)) : WP mX9_wipe 0 (am_ent 1 [.ref 0]) [] (G X I L F) 0 0 Q := by
  obtain ⟨iv, lc⟩ := iv
  obtain ⟨n40, d1, d2, dk⟩ := iv.2.1
  refine s_X9_wipe ?_
  unfold f_X9_wipe fI_X9_wipe f_X1_clear fI_X1_clear
  rw [d1, G_eq (J := am_u (am_u I 1 1 0) 1000498 2 0) (H := F) (fun o k h => am_u_ne (by omega)) (fun _ _ _ => rfl)]
  refine q _ ⟨InvS.draft (n2 := 0) iv (fun o k a b c d => ?_) ⟨by omega, ?_, ?_, fun k hk => by omega⟩, lc.fr ⟨fun r hr => ?_, fun o k h => ?_⟩ LQF.refl⟩ (fun o k h1 h2 => ?_)
  · rw [am_u_ne (by omega), am_u_ne (by omega)]
  · rw [am_u_ne (by omega), am_u_eq]; rfl
  · rw [am_u_eq]; rfl
  · rw [am_u_ne (by omega), am_u_ne (by omega)]
  · rw [am_u_ne (by omega), am_u_ne (by omega)]
  · rw [am_u_ne (by omega), am_u_ne (by omega)]
theorem z_fault (iv : Al s T rc sc t n N I L F) (hp : p0 = 0 ∨ p0 = 1) (q : ∀ J, Al s T rc sc t n N J L F → TF I J → (∀ k, J 2 k = I 2 k) → Q (.inl (some (.int (rFault p0 (seg (I 2) 0 n))))) (G X J L F)) : WP mX9_fault 0 (am_ent 2 [.ref 0, .int p0]) [] (G X I L F) 0 0 Q := by
  obtain ⟨iv, lc⟩ := iv
  obtain ⟨n40, d1, d2, dk⟩ := iv.2.1
  exact k_X9_fault_0 (sp_read d1 n40 hp (fun J fr _ => k_X9_fault_12 (q J ⟨iv.rd fr, lc.fr (LQ.rdf fr) LQF.refl⟩ (TF.rdf fr) (fun k => fr 2 k (by omega)))))
theorem z_type (hX : X.1 ≤ 400000) (iv : Al s T rc sc t n N I L F) (hn : n < 40) (hc : c < 256) (lb : isLb c = true) (q : ∀ J, Al s T rc sc t (n + 1) N J L F → TF I J → (∀ k, k < n → J 2 k = I 2 k) → J 2 n = nI c → Q (.inl (some (.int (nI (n + 1))))) (G X J L F)) : WP mX9_type 0 (am_ent 2 [.ref 0, .int (nI c)]) [] (G X I L F) 0 0 Q := by
  obtain ⟨iv, lc⟩ := iv
  obtain ⟨n40, d1, d2, dk⟩ := iv.2.1
  have e1 : cLt (nI c) = 1 := by rw [cLt_lo c hc, if_pos lb]
  refine k_X9_type_0 (sp_mayHold (k_X9_type_4 ⟨fun a => absurd a (by rw [e1]; decide), fun _ => ?_⟩))
  have lt40 : nI n < 40 := (nI_ltI (b := 40) (by omega) (by decide)).mpr (by omega)
  refine ⟨fun _ => ?_, fun b => absurd (by unfold f_X1_isFull; rw [d1, if_pos lt40]) b⟩
  have ea : fI_X1_add (nI c) I = am_u (am_u I 2 n (nI c)) 1 1 (nI (n + 1)) := by
    unfold fI_X1_add
    rw [d1, if_neg (nI_pos (by omega)), if_neg (show ¬ (40 : Int32) ≤ nI n from fun z => by have := (nI_leI (a := 40) (by decide) (by omega)).mp z; omega), nI_clamp (show n < 2 ^ 31 by omega), isLb_lo c hc lb, nI_1]
  have ev : f_X1_add (nI c) I = nI (n + 1) := by
    show fI_X1_add (nI c) I 1 1 = _
    rw [ea, am_u_eq]
  rw [ev, ea, G_eq (J := am_u (am_u (am_u (am_u I 2 n (nI c)) 1 1 (nI (n + 1))) 1000499 n (nI c)) 1000498 2 (nI (n + 1))) (H := F) (fun o k h => by rw [am_u_ne (by omega), am_u_ne (by omega)]) (fun _ _ _ => rfl)]
  refine q _ ⟨InvS.draft (n2 := n + 1) iv (fun o k a b c d => ?_) ⟨by omega, ?_, ?_, fun k hk => ?_⟩, lc.fr ⟨fun r hr => ?_, fun o k h => ?_⟩ LQF.refl⟩ (fun o k h1 h2 => ?_) (fun k hk => ?_) ?_
  · rw [am_u_ne (by omega), am_u_ne (by omega), am_u_ne (by omega), am_u_ne (by omega)]
  · rw [am_u_ne (by omega), am_u_ne (by omega), am_u_eq]
  · exact am_u_eq
  · refine ((am_u_ne (by omega)).trans ((am_u_ne (by omega)).trans (am_u_ne (by omega)))).trans (Eq.trans ?_ (am_u_ne (by omega)).symm)
    by_cases kn : k = n
    · rw [kn, am_u_eq, am_u_eq]
    · rw [am_u_ne (by omega), am_u_ne (by omega), am_u_ne (by omega), am_u_ne (by omega)]
      exact dk k (by omega)
  · rw [am_u_ne (by omega), am_u_ne (by omega), am_u_ne (by omega), am_u_ne (by omega)]
  · rw [am_u_ne (by omega), am_u_ne (by omega), am_u_ne (by omega), am_u_ne (by omega)]
  · rw [am_u_ne (by omega), am_u_ne (by omega), am_u_ne (by omega), am_u_ne (by omega)]
  · rw [am_u_ne (by omega), am_u_ne (by omega), am_u_ne (by omega), am_u_ne (by omega)]
  · rw [am_u_ne (by omega), am_u_ne (by omega), am_u_ne (by omega), am_u_eq]
end ZD
