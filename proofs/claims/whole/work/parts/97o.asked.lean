/-! own: what a rule asks for, in the model -/
set_option maxRecDepth 100000
/-- the names of a rule -/
def rnm (hour lev inf peak : UInt32) : Nat → UInt32 := fun j => if j = 16 then hour else if j = 17 then lev else if j = 18 then inf else if j = 19 then peak else 0
section AK
variable {X : Nat × (Nat → Int32)} {I J K : Nat → Nat → Int32} {L : Nat → Nat → Int64} {F H : Nat → Nat → UInt32} {Q : AQ} {d l : Nat} {t0 : Int32}
theorem rule_env {f : FM} (h1 : nn (F 498 51)) (h2 : nn (F 498 52)) (h3 : nn (F 498 53)) : EnvOk I F (rnm (FP.i2f t0) (F 498 51) (F 498 52) (F 498 53)) 1 (-1) t0 f := by
  intro J H mi mf ch fig slot ok _
  have e1 : H 498 51 = F 498 51 := mf 498 51 (by decide)
  have e2 : H 498 52 = F 498 52 := mf 498 52 (by decide)
  have e3 : H 498 53 = F 498 53 := mf 498 53 (by decide)
  rcases ok with ⟨c, _, s⟩ | ⟨n, _⟩ | ⟨_, _, ⟨c, s⟩ | ⟨c, s⟩ | ⟨c, s⟩⟩ | ⟨n, _⟩
  · subst c s
    refine ⟨by unfold p_X10_named; simp, ?_, ?_⟩
    · unfold f_X10_named; exact (fin_i2f t0).nn
    · unfold f_X10_named; rfl
  · exact absurd n (by decide)
  · subst c s
    refine ⟨by unfold p_X10_named; simp, ?_, ?_⟩
    · unfold f_X10_named; show nn (H 498 51); rw [e1]; exact h1
    · unfold f_X10_named; show H 498 51 = _; rw [e1]; rfl
  · subst c s
    refine ⟨by unfold p_X10_named; simp, ?_, ?_⟩
    · unfold f_X10_named; show nn (H 498 52); rw [e2]; exact h2
    · unfold f_X10_named; show H 498 52 = _; rw [e2]; rfl
  · subst c s
    refine ⟨by unfold p_X10_named; simp, ?_, ?_⟩
    · unfold f_X10_named; show nn (H 498 53); rw [e3]; exact h3
    · unfold f_X10_named; show H 498 53 = _; rw [e3]; rfl
  · exact absurd n (by decide)
/-- what asking may change -/
def AIF (I J : Nat → Nat → Int32) : Prop := ∀ o k, ¬ (o = 498 ∧ (k = 46 ∨ k = 48 ∨ k = 50)) → o ≠ 537 → o ≠ 539 → J o k = I o k
theorem sp_ask12 {I0 : Nat → Nat → Int32} (hd : d < 3) (h40 : l ≤ 40) (tx : Txt 1 (seg (I0 523) (40 * d) l)) (e1 : I0 498 1 = t0) (h1 : nn (F 498 51)) (h2 : nn (F 498 52)) (h3 : nn (F 498 53))
    (q : ∀ J H, AIF I0 J → MFF F H → Q (.inl (some (.float (hdF (evalR (rnm (FP.i2f t0) (F 498 51) (F 498 52) (F 498 53)) (rF (rForm 1 (seg (I0 523) (40 * d) l)))))))) (G X J L H)) : ∀ (n i : Nat) (J : Nat → Nat → Int32), i + n = l → AIF I0 J → J 498 46 = nI l → (∀ k, k < i → J 537 k = I0 523 (40 * d + k)) →
    WP mX10_asked 12 [some (.ref 498), some (.int (nI d)), some (.int (nI i))] [] (G X J L F) 0 0 Q
  | 0, i, J, hi, f, e46, h => by
    have e : i = l := by omega
    subst e
    refine k_X10_asked_12 ⟨fun _ => ?_, fun n => absurd ?_ n⟩
    · have es : seg (J 537) 0 i = seg (I0 523) (40 * d) i := seg_cong _ _ _ (fun k hk => by rw [Nat.zero_add]; exact h k hk)
      obtain ⟨_, R, r1, r2⟩ := tx
      rw [f 498 1 (by omega) (by decide) (by decide), e1]
      refine sp_worth (n := i) (R := R) (rule := 1) (nm := rnm (FP.i2f t0) (F 498 51) (F 498 52) (F 498 53)) e46 h40 (by rw [es]; exact r1) r2 (Or.inr ⟨rfl, rfl⟩) (rule_env h1 h2 h3) (fun J2 H2 m1 m2 => k_X10_asked_52 ?_)
      rw [form_eq r1] at q
      exact q J2 H2 (fun o k a b c => (m1 o k (by omega) c).trans (f o k a b c)) m2
    · rw [e46, nI_leI (by omega) (by omega)]; omega
  | n + 1, i, J, hi, f, e46, h => by
    have ei : (40 : Int32) * nI d + nI i = nI (40 * d + i) := by rw [show (40 : Int32) = nI 40 from rfl, nI_mul, nI_add]
    refine k_X10_asked_12 ⟨fun z => absurd ((nI_leI (a := l) (b := i) (by omega) (by omega)).mp (by rw [← e46]; exact z)) (by omega), fun _ => ?_⟩
    rw [ei, nI_clamp (show 40 * d + i < 2 ^ 31 by omega), nI_clamp (show i < 2 ^ 31 by omega), nI_1]
    refine ⟨nI_in (by omega) (by decide), nI_in (by omega) (by decide), sp_ask12 hd h40 tx e1 h1 h2 h3 q n (i + 1) _ (by omega) (fun o k a b c => (am_u_ne (Or.inl b)).trans (f o k a b c)) ((am_u_ne (Or.inl (by decide))).trans e46) (fun k hk => ?_)⟩
    by_cases e : k = i
    · rw [e, am_u_eq]
      exact f 523 _ (by omega) (by decide) (by decide)
    · rw [am_u_ne (Or.inr e)]
      exact h k (by omega)
/-- what the rule of a dam asks for, in the model -/
theorem sp_asked (hd : d < 3) (h40 : l ≤ 40) (e522 : I 522 d = nI l) (tx : Txt 1 (seg (I 523) (40 * d) l)) (e1 : I 498 1 = t0) (h1 : nn (F 498 51)) (h2 : nn (F 498 52)) (h3 : nn (F 498 53))
    (q : ∀ J H, AIF I J → MFF F H → Q (.inl (some (.float (hdF (evalR (rnm (FP.i2f t0) (F 498 51) (F 498 52) (F 498 53)) (rF (rForm 1 (seg (I 523) (40 * d) l)))))))) (G X J L H)) : WP mX10_asked 0 (am_ent 3 [.ref 498, .int (nI d)]) [] (G X I L F) 0 0 Q := by
  refine k_X10_asked_0 ⟨nI_in hd (by decide), ?_⟩
  rw [nI_clamp (show d < 2 ^ 31 by omega), e522]
  exact sp_ask12 hd h40 tx e1 h1 h2 h3 q l 0 _ (Nat.zero_add _) (fun o k a b c => am_u_ne (by omega)) am_u_eq (fun k hk => absurd hk (by omega))
end AK
