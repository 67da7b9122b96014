/-! own: publishing, in the model -/
set_option maxRecDepth 100000
def PG (c0 : Nat) (I J : Nat → Nat → Int32) (s : AS) : Prop := MA J s ∧ PubF c0 I J ∧ c0 ≤ aC s ∧ ∀ v, c0 ≤ v → v < aC s → J 510 v = 0
section PX
variable {X : Nat × (Nat → Int32)} {I J K : Nat → Nat → Int32} {L : Nat → Nat → Int64} {F : Nat → Nat → UInt32} {Q : AQ} {c m k : Nat} {s zf : AS} {t : List Int32} {x1 x2 x3 x4 x5 : Int32}
theorem MA.wr (w : WA s) (z : MA I s) (f : PubF (aC s) I J) (e1 : J 498 5 = I 498 5) (e2 : ∀ k, k < 6 → J 505 k = I 505 k) : MA J s :=
  ⟨e1.trans z.1, f.mrv w (Nat.le_refl _) z.2.1, fun k hk => (e2 k hk).trans (z.2.2 k hk)⟩
theorem sp_pub195 {v : Nat} {I0 : Nat → Nat → Int32} (w : WA s) (hc : aC s < 60) (hk : k < 6) (hv : v < aC s) (ev : aL s k = nI v) (z0 : MA I0 s) (e502 : I0 502 (aC s) = nI (aT s v).length)
    (q : ∀ K, MA K (entA k (aT s v) s) → PubF (aC s) I0 K → K 510 (aC s) = 0 → WP mX10_publish 247 [some (.ref 498), some (.int x1), some (.int x2), some (.int x3), some (.int x4), some (.int x5), some (.int (nI k)), some (.int (nI 40))] [] (G X K L F) 0 0 Q) : ∀ (n i : Nat) (J : Nat → Nat → Int32), i + n = 40 → PubF (aC s) I0 J → MA J s → J 502 (aC s) = I0 502 (aC s) → (∀ j, j < i → J 503 (40 * aC s + j) = I0 503 (40 * v + j)) →
    WP mX10_publish 195 [some (.ref 498), some (.int x1), some (.int x2), some (.int x3), some (.int x4), some (.int x5), some (.int (nI k)), some (.int (nI i))] [] (G X J L F) 0 0 Q
  | 0, i, J, hi, f, z, e2, h => by
    have e40 : i = 40 := by omega
    subst e40
    have tx := (w.2.1 v hv).1
    have len := tx.1
    have ev0 := (z0.2.1 v hv)
    have et : vT (J 502) (J 503) (aC s) = aT s v := by
      rw [← ev0.1]
      unfold vT
      rw [e2, e502, ev0.2.1, nI_clamp (by omega)]
      exact seg_cong _ _ _ (fun j hj => h j (by omega))
    exact k_X10_publish_195 ⟨fun _ => sp_enters w hc hk tx z et (e2.trans e502) (fun K a b d => q K a (f.trans b (Nat.le_refl _)) d), fun n => absurd (by decide) n⟩
  | n + 1, i, J, hi, f, z, e2, h => by
    refine k_X10_publish_195 ⟨fun z => absurd ((nI_leI (a := 40) (by decide) (by omega)).mp z) (by omega), fun _ => ?_⟩
    have ea : (40 : Int32) * aL s k + nI i = nI (40 * v + i) := by rw [ev, show (40 : Int32) = nI 40 from rfl, nI_mul, nI_add]
    have eb : (40 : Int32) * nI (aC s) + nI i = nI (40 * aC s + i) := by rw [show (40 : Int32) = nI 40 from rfl, nI_mul, nI_add]
    rw [nI_clamp (show k < 2 ^ 31 by omega), z.2.2 k hk, z.1, ea, eb, nI_clamp (show 40 * v + i < 2 ^ 31 by omega), nI_clamp (show 40 * aC s + i < 2 ^ 31 by omega), nI_1]
    have f1 : PubF (aC s) J (am_u J 503 (40 * aC s + i) (J 503 (40 * v + i))) := PubF.refl.wr (by simp)
    refine ⟨nI_in hk (by decide), nI_in (by omega) (by decide), nI_in (by omega) (by decide), sp_pub195 w hc hk hv ev z0 e502 q n (i + 1) _ (by omega) (f.trans f1 (Nat.le_refl _)) (z.wr w f1 (am_u_ne (Or.inl (by decide))) (fun k _ => am_u_ne (Or.inl (by decide)))) ((am_u_ne (Or.inl (by decide))).trans e2) (fun j hj => ?_)⟩
    by_cases ji : j = i
    · rw [ji, am_u_eq]
      exact f 503 (40 * v + i) (by omega) (by omega) (by omega) (by omega) (by omega) (by omega) (by omega) (by omega)
    · rw [am_u_ne (Or.inr (by omega))]
      exact h j (by omega)
theorem sp_pub165 {c0 : Nat} : ∀ (n : Nat) (s : AS) (J : Nat → Nat → Int32) (x6 : Int32) (d7 : Option Value), BindR n s zf → PG c0 I J s → aC s + n ≤ 60 → Fnd s 0 x6 → (∀ K, PG c0 I K zf → Q (.inl (some (.int x5))) (G X K L F)) →
    WP mX10_publish 165 [some (.ref 498), some (.int x1), some (.int x2), some (.int x3), some (.int x4), some (.int x5), some (.int x6), d7] [] (G X J L F) 0 0 Q
  | 0, s, J, x6, d7, b, g, hc, fd, q => by
    obtain ⟨_, none, e⟩ := b
    subst e
    refine k_X10_publish_165 ⟨fun _ => q J g, fun n => absurd ?_ n⟩
    rcases fd with ⟨a, _⟩ | ⟨k, _, hk, _, h, _⟩
    · exact a
    · exact absurd h (none k hk)
  | n + 1, s, J, x6, d7, b, g, hc, fd, q => by
    obtain ⟨⟨w, ac⟩, k, hk, nx, b2⟩ := b
    obtain ⟨z, f, l, zz⟩ := g
    have ek : x6 = nI k := by
      rcases fd with ⟨_, a⟩ | ⟨k2, _, h2, e, h, lo⟩
      · exact absurd nx.1 (a k (by omega) hk)
      · have : k2 = k := by
          rcases Nat.lt_trichotomy k2 k with h3 | h3 | h3
          · exact absurd h (nx.2 k2 h3)
          · exact h3
          · exact absurd nx.1 (lo k (by omega) h3)
        rw [e, this]
    subst ek
    obtain ⟨v, hv, ev, _⟩ := nx.1.1
    have eO : aO s k = aT s v := by unfold aO; rw [ev, nI_clamp (by omega)]
    rw [eO] at b2
    have zz1 := z.2.1 v hv
    refine k_X10_publish_165 ⟨fun n => absurd n (nI_m1 (by omega)), fun _ => ?_⟩
    rw [nI_clamp (show k < 2 ^ 31 by omega), z.2.2 k hk, ev, z.1, nI_clamp (show v < 2 ^ 31 by omega), nI_clamp (show aC s < 2 ^ 31 by omega), zz1.2.1]
    have f1 : PubF (aC s) J (am_u J 502 (aC s) (nI (aT s v).length)) := PubF.refl.wr (by simp)
    have z1 : MA (am_u J 502 (aC s) (nI (aT s v).length)) s := z.wr w f1 (am_u_ne (Or.inl (by decide))) (fun k _ => am_u_ne (Or.inl (by decide)))
    refine ⟨nI_in hk (by decide), nI_in (by omega) (by decide), nI_in (by omega) (by decide), sp_pub195 (I0 := am_u J 502 (aC s) (nI (aT s v).length)) w (by omega) hk hv ev z1 am_u_eq (fun K a b d => k_X10_publish_247 ?_) 40 0 _ rfl PubF.refl z1 rfl (fun j hj => absurd hj (by omega))⟩
    have w2 : WA (entA k (aT s v) s) ∧ Acy (aN (entA k (aT s v) s)) := by
      cases n with
      | zero => exact b2.1
      | succ n => exact b2.1
    refine sp_nextStale w2.1 w2.2 a (fun K2 fr x6 fd2 => k_X10_publish_251 ?_)
    have fK : PubF (aC s) J K2 := (f1.trans b (Nat.le_refl _)).trans (PubF.fr6 fr) (Nat.le_refl _)
    refine sp_pub165 n (entA k (aT s v) s) K2 x6 _ b2 ⟨a.fr6 fr w2.1, f.trans fK l, by rw [entA_C]; omega, fun u h1 h2 => ?_⟩ (by rw [entA_C]; omega) fd2 q
    rw [entA_C] at h2
    by_cases uc : u = aC s
    · rw [uc, fr 510 (aC s) (by decide)]; exact d
    · rw [fK 510 u (by omega) (by omega) (by omega) (by omega) (by omega) (by omega) (by omega) (by omega)]
      exact zz u h1 (by omega)
theorem sp_pub117 {I0 : Nat → Nat → Int32} {l : Nat} (w : WA s) (hc : aC s < 60) (hm : m < 6) (tx : Txt 0 (seg (I0 499) 0 l)) (e2 : I0 498 2 = nI l) (z0 : MA I0 s) (e502 : I0 502 (aC s) = nI l)
    (q : ∀ K, MA K (entA m (seg (I0 499) 0 l) s) → PubF (aC s) I0 K → K 510 (aC s) = 0 → ∀ x6, WP mX10_publish 159 [some (.ref 498), some (.int (nI m)), some (.int x2), some (.int x3), some (.int x4), some (.int x5), some (.int x6), none] [] (G X K L F) 0 0 Q) : ∀ (n i : Nat) (J : Nat → Nat → Int32), i + n = l → PubF (aC s) I0 J → MA J s → (∀ j, j < i → J 503 (40 * aC s + j) = I0 499 j) → J 502 (aC s) = nI l → J 498 2 = nI l →
    WP mX10_publish 117 [some (.ref 498), some (.int (nI m)), some (.int x2), some (.int x3), some (.int x4), some (.int x5), some (.int (nI i)), none] [] (G X J L F) 0 0 Q
  | 0, i, J, hi, f, z, h, h2, h3 => by
    have e : i = l := by omega
    subst e
    have len := tx.1
    rw [seg_len] at len
    have et : vT (J 502) (J 503) (aC s) = seg (I0 499) 0 i := by
      unfold vT
      rw [h2, nI_clamp (by omega)]
      exact seg_cong _ _ _ (fun j hj => by rw [h j hj, Nat.zero_add])
    refine k_X10_publish_117 ⟨fun _ => sp_enters w hc hm tx z et (by rw [seg_len]; exact h2) (fun K a b d => q K a (f.trans b (Nat.le_refl _)) d _), fun n => absurd ?_ n⟩
    rw [h3, nI_leI (by omega) (by omega)]; omega
  | n + 1, i, J, hi, f, z, h, h2, h3 => by
    have len := tx.1
    rw [seg_len] at len
    refine k_X10_publish_117 ⟨fun z => absurd ((nI_leI (a := l) (b := i) (by omega) (by omega)).mp (by rw [← h3]; exact z)) (by omega), fun _ => ?_⟩
    have eb : (40 : Int32) * nI (aC s) + nI i = nI (40 * aC s + i) := by rw [show (40 : Int32) = nI 40 from rfl, nI_mul, nI_add]
    rw [nI_clamp (show i < 2 ^ 31 by omega), z.1, eb, nI_clamp (show 40 * aC s + i < 2 ^ 31 by omega), nI_1]
    have e499 : J 499 i = I0 499 i := f 499 i (by omega) (by omega) (by omega) (by omega) (by omega) (by omega) (by omega) (by omega)
    have f1 : PubF (aC s) J (am_u J 503 (40 * aC s + i) (J 499 i)) := PubF.refl.wr (by simp)
    refine ⟨nI_in (by omega) (by decide), nI_in (by omega) (by decide), sp_pub117 w hc hm tx e2 z0 e502 q n (i + 1) _ (by omega) (f.trans f1 (Nat.le_refl _)) (z.wr w f1 (am_u_ne (Or.inl (by decide))) (fun k _ => am_u_ne (Or.inl (by decide)))) (fun j hj => ?_) ((am_u_ne (Or.inl (by decide))).trans h2) ((am_u_ne (Or.inl (by decide))).trans h3)⟩
    by_cases ji : j = i
    · rw [ji, am_u_eq]; exact e499
    · rw [am_u_ne (Or.inr (by omega))]
      exact h j (by omega)
/-- what a publishing does in the model, once it is allowed -/
theorem sp_pubOk {n l : Nat} (w : WA s) (hm : m < 6) (tx : Txt 0 (seg (I 499) 0 l)) (e2 : I 498 2 = nI l) (z : MA I s) (w1 : WA (entA m (seg (I 499) 0 l) s)) (b : BindR n (entA m (seg (I 499) 0 l) s) zf) (hn : aC s + 1 + n ≤ 60)
    (q : ∀ K, PG (aC s) I K zf → Q (.inl (some (.int x5))) (G X K L F)) : WP mX10_publish 117 [some (.ref 498), some (.int (nI m)), some (.int x2), some (.int x3), some (.int x4), some (.int x5), some (.int 0), none] [] (G X (am_u I 502 (aC s) (I 498 2)) L F) 0 0 Q := by
  have f1 : PubF (aC s) I (am_u I 502 (aC s) (I 498 2)) := PubF.refl.wr (by simp)
  have z1 : MA (am_u I 502 (aC s) (I 498 2)) s := z.wr w f1 (am_u_ne (Or.inl (by decide))) (fun k _ => am_u_ne (Or.inl (by decide)))
  have e499 : am_u I 502 (aC s) (I 498 2) 499 = I 499 := by funext k; exact am_u_ne (Or.inl (by decide))
  refine sp_pub117 (I0 := am_u I 502 (aC s) (I 498 2)) (l := l) w (by omega) hm (by rw [e499]; exact tx) ((am_u_ne (Or.inl (by decide))).trans e2) z1 (am_u_eq.trans e2) (fun K a b2 d x6 => k_X10_publish_159 ?_) l 0 _ (Nat.zero_add _) PubF.refl z1 (fun j hj => absurd hj (by omega)) (am_u_eq.trans e2) ((am_u_ne (Or.inl (by decide))).trans e2)
  rw [e499] at a
  have w2 : WA (entA m (seg (I 499) 0 l) s) ∧ Acy (aN (entA m (seg (I 499) 0 l) s)) := by
    cases n with
    | zero => exact b.1
    | succ n => exact b.1
  refine sp_nextStale w2.1 w2.2 a (fun K2 fr x6 fd2 => k_X10_publish_163 ?_)
  have fK : PubF (aC s) I K2 := (f1.trans b2 (Nat.le_refl _)).trans (PubF.fr6 fr) (Nat.le_refl _)
  refine sp_pub165 n _ K2 x6 _ b ⟨a.fr6 fr w2.1, fK, by rw [entA_C]; omega, fun u h1 h2 => ?_⟩ (by rw [entA_C]; omega) fd2 q
  rw [entA_C] at h2
  have uc : u = aC s := by omega
  rw [uc, fr 510 (aC s) (by decide)]; exact d
end PX
