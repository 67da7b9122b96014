/-! own: a letter that is typed well; a factor -/
set_option maxRecDepth 100000
theorem nI_ofd (d : Nat) : (48 : Int32) + nI d = nI (48 + d) := nI_add 48 d
theorem chr_n : ∀ c, c < 256 → UInt32.toInt32 ((Int32.toUInt32 (nI c)) % 65536) = nI c := by decide +kernel
theorem dig_ok : ∀ d, d < 10 → isLb (48 + d) = true := by decide
/-- the rows that texts make, but one -/
def TFn (on : Nat) (I J : Nat → Nat → Int32) : Prop := ∀ o k, 502 ≤ o → o < 1000000 → o ≠ on → J o k = I o k
section ZT
variable {X : Nat × (Nat × (Nat → Int32))} {I J K : Nat → Nat → Int32} {L M : Nat → Nat → Int64} {F H : Nat → Nat → UInt32} {Q : AQ} {N T rc sc t n n2 d r v k h x c on m wh kd : Nat} {s : AS} {p0 w letter : Int32} {P : Nat → Prop} {b b2 : List Int32} {K1 K2 : RS → Prop}
theorem TFn.trans (a : TFn on I J) (b : TFn on J K) : TFn on I K := fun o k x y z => (b o k x y z).trans (a o k x y z)
/-- rows of the law and of texts do not concern the class -/
theorem InvS.row (z : InvS s T rc sc t n N I L F) (h : ∀ o k, (o < 498 ∨ 1000000 ≤ o) → J o k = I o k) : InvS s T rc sc t n N J L F :=
  z.quiet (z.1.same (fun o k a b c => h o k (by omega)) (h _ _ (by omega)) (fun o a b _ _ _ => funext fun k => h o k (by omega)) (fun _ _ _ _ _ => rfl) rfl) (fun o k x => h o k (by omega)) (fun _ _ _ => rfl)
theorem Al.row (z : Al s T rc sc t n N I L F) (h : ∀ o k, (o < 502 ∨ 1000000 ≤ o) → J o k = I o k) : Al s T rc sc t n N J L F :=
  ⟨z.1.row (fun o k x => h o k (by omega)), z.2.fr ⟨fun r hr => h _ _ (by omega), fun o k x => h o k (by omega)⟩ LQF.refl⟩
theorem sp_ty (hT : isT X on 1) (h6 : on < 1000000) (hX : X.1 ≤ 400000) (iv : Al s T rc sc t n N I L F) (hn : n < 40) (en : I on 0 = nI n) (hc : c < 256) (lb : isLb c = true) (dt : DT I n P b K1) (g : GoOn P b K1 (nI c) b2 K2)
    (fl : ∀ J, DT J (n + 1) P b2 K2 → rFault 0 (seg (J 2) 0 (n + 1)) = if w = 0 then nI (n + 1) else -1)
    (q : ∀ J, Al s T rc sc t (n + 1) N J L F → TFn on I J → J on 0 = nI (n + 1) → DT J (n + 1) P b2 K2 → Q (.inl (some (.int 1))) (G X J L F)) : WP mL_types 0 (am_ent 4 [.ref 0, .ref on, .int (nI c), .int w]) [] (G X I L F) 0 0 Q := by
  have h5 : 502 ≤ on := hT.2.1
  refine k_L_types_0 hT ?_
  rw [chr_n c hc, en, nI_1]
  have iv1 : Al s T rc sc t n N (am_u I on 0 (nI (n + 1))) L F := iv.row (fun o k h => am_u_ne (by omega))
  refine z_type hX iv1 hn hc lb (fun J a1 f1 g1 e1 => k_L_types_13 hT ⟨fun _ => ⟨by decide, ?_⟩, fun a => absurd ?_ a⟩)
  · refine z_fault a1 (Or.inl rfl) (fun J2 a2 f2 e2 => k_L_types_24 hT (fun y ey z ez => ?_))
    have j2 : J2 on 0 = nI (n + 1) := (f2 on 0 (by omega) h6).trans ((f1 on 0 (by omega) h6).trans am_u_eq)
    have d1 : DT J (n + 1) P b2 K2 := dt.next g (fun k hk => (g1 k hk).trans (am_u_ne (by omega))) e1
    have ez2 : z = 1 := by
      rw [ez, ey, j2, fl J d1, if_pos rfl]
    rw [ez2]
    refine ⟨Or.inr rfl, q J2 a2 (fun o k x y z => (f2 o k (by omega) y).trans ((f1 o k (by omega) y).trans (am_u_ne (by omega)))) j2 (d1.fr (fun k _ => e2 k))⟩
  · exact ((f1 on 0 (by omega) h6).trans am_u_eq).symm
/-- what is said of a text that is whole -/
def Whl (b : List Int32) (w : Int32) : Prop := (b = [] → ¬ w = 0) ∧ (b ≠ [] → w = 0)
theorem fl_be (hw : Whl b w) (h : ∀ r, K2 r → kBe r) : ∀ J, DT J (n + 1) P b K2 → rFault 0 (seg (J 2) 0 (n + 1)) = if w = 0 then nI (n + 1) else -1 := fun J z => by
  have z := DT.be (z.imp h)
  by_cases e : b = []
  · rw [z.1 e, if_neg (hw.1 e)]
  · rw [z.2 e, if_pos (hw.2 e)]
theorem fl_0 (h : ∀ J, DT J (n + 1) P b K2 → rFault 0 (seg (J 2) 0 (n + 1)) = nI (n + 1)) : ∀ J, DT J (n + 1) P b K2 → rFault 0 (seg (J 2) 0 (n + 1)) = if (0 : Int32) = 0 then nI (n + 1) else -1 := fun J z => by
  rw [if_pos rfl]; exact h J z
/-- a factor is typed -/
theorem sp_num (hT : isT X on 1) (h6 : on < 1000000) (hX : X.1 ≤ 400000) (iv : Al s T rc sc t n N I L F) (hn : n < 40) (en : I on 0 = nI n) (dt : DT I n P b K1) (hd : d < 10) (g : GoOn P b K1 (nI (48 + d)) b K2) (hb : ∀ r, K2 r → kBe r) (hw : Whl b w) (el : letter = nI d)
    (q : ∀ J, Al s T rc sc t (n + 1) N J L F → TFn on I J → J on 0 = nI (n + 1) → DT J (n + 1) P b K2 → Q (.inl (some (.int 1))) (G X J L F)) : WP mL_types 0 (am_ent 4 [.ref 0, .ref on, .int (48 + letter), .int w]) [] (G X I L F) 0 0 Q := by
  rw [el, nI_ofd]
  exact sp_ty hT h6 hX iv hn en (by omega) (dig_ok d hd) dt g (fl_be hw hb) q
theorem rem10 {a : Nat} (h : a < 2 ^ 31) : nI a - nI a / 10 * 10 = nI (a % 10) := pk_rem h (d := 10) (by decide) (by decide)
theorem rem_n {a d : Nat} (h : a < 2 ^ 31) (h0 : 0 < d) (hd : d < 2 ^ 31) : nI a - nI a / nI d * nI d = nI (a % d) := pk_rem h h0 hd
theorem sp_fac (hT : isT X on 1) (h6 : on < 1000000) (hX : X.1 ≤ 400000) (iv : Al s T rc sc t n N I L F) (en : I on 0 = nI n) (hm : m < 6) (hk : kd < 9) (hwh : wh < 2 ^ 31) (hn : if kd < 3 then n ≤ 38 else n ≤ 36)
    (dt : DT I n (fun k => k < m ∧ aL s k ≠ -1) b kAt) (hw : Whl b w) (hkd : kd ≠ 5 ∧ kd ≠ 6 ∧ kd ≠ 7)
    (q : ∀ J n2, Al s T rc sc t n2 N J L F → n + 1 ≤ n2 → (if kd < 3 then n2 ≤ n + 2 else n2 ≤ n + 4) → TFn on I J → J on 0 = nI n2 → DT J n2 (fun k => k < m ∧ aL s k ≠ -1) b kBe → Q (.inl (some (.int 1))) (G X J L F)) : WP mL_factor 0 (am_ent 8 [.ref 0, .ref on, .ref 499, .int (nI m), .int (nI kd), .int (nI wh), .int w]) [] (G X I L F) 0 0 Q := by
  have n1 : ¬ (1 : Int32) = 0 := by decide
  have r10 := rem10 hwh
  have d10 : nI wh / 10 = nI (wh / 10) := pk_div hwh (d := 10) (by decide) (by decide)
  have r10b : nI (wh / 10) - nI (wh / 10) / 10 * 10 = nI (wh / 10 % 10) := rem10 (by omega)
  have hb1 : ∀ r, kF1 r → kBe r := fun r => f1_be
  -- a number with a point
  have num : ∀ (o7 : Int32) (c0 s0 : Nat), c0 ≤ 2 → s0 ≤ 12 → ¬ kd < 3 → WP mL_types 0 (am_ent 4 [.ref 0, .ref on, .int (48 + (nI wh - nI wh / 10 * 10)), .int w]) [] (G X I L F) 0 0 (am_kq mL_factor 218 [some (.ref 0), some (.ref on), some (.ref 499), some (.int (nI m)), some (.int (nI kd)), some (.int (nI wh)), some (.int w), some (.int o7)] [] c0 s0 Q) := fun o7 c0 s0 hc0 hs0 k3 => by
    rw [if_neg k3] at hn
    refine sp_num hT h6 hX iv (by omega) en dt (Nat.mod_lt wh (by decide)) (go_fig (Nat.mod_lt wh (by decide))) hb1 hw r10 (fun J a1 f1 e1 t1 => k_L_factor_221 hT ⟨fun z => absurd z n1, fun _ => ⟨by omega, ?_⟩⟩)
    refine sp_ty (c := 46) (w := 0) hT h6 hX a1 (by omega) e1 (by decide) (by decide) t1 go_dot (fl_0 (fun J z => z.do)) (fun J2 a2 f2 e2 t2 => k_L_factor_232 hT ⟨fun z => absurd z n1, fun _ => ⟨by omega, ?_⟩⟩)
    rw [d10]
    refine sp_num hT h6 hX a2 (by omega) e2 t2 (Nat.mod_lt _ (by decide)) (go_fig3 (Nat.mod_lt _ (by decide))) (fun r => f2_be) hw r10b (fun J3 a3 f3 e3 t3 => k_L_factor_253 hT ⟨fun z => absurd z n1, fun _ => ⟨fun _ => ?_, fun _ => ⟨by omega, ?_⟩⟩⟩)
    · exact q J3 _ a3 (by omega) (by rw [if_neg k3]; omega) ((f1.trans f2).trans f3) e3 (t3.imp (fun r => f2_be))
    · refine sp_ty (c := 53) hT h6 hX a3 (by omega) e3 (by decide) (by decide) t3 (go_fig4 (d := 5) (by decide)) (fl_be hw (fun r h => h)) (fun J4 a4 f4 e4 t4 => k_L_factor_272 hT (fun y ey => ?_))
      rw [if_neg n1] at ey
      rw [ey]
      exact ⟨Or.inr rfl, q J4 _ a4 (by omega) (by rw [if_neg k3]; omega) (((f1.trans f2).trans f3).trans f4) e4 t4⟩
  refine k_L_factor_0 hT ⟨fun k0 => ?_, fun k0 => ⟨fun k1 => ?_, fun k1 => ⟨fun k2 => ?_, fun k2 => ?_⟩⟩⟩
  · have ek : kd = 0 := (nI_eq (b := 0) (by omega) (by decide)).mp k0
    rw [if_pos (by omega)] at hn
    refine sp_num hT h6 hX iv (by omega) en dt (Nat.mod_lt wh (by decide)) (go_fig (Nat.mod_lt wh (by decide))) hb1 hw r10 (fun J a1 f1 e1 t1 => k_L_factor_20 hT ⟨fun z => absurd z n1, fun _ => ⟨fun _ => ?_, fun _ => ⟨by decide, ?_⟩⟩⟩)
    · exact q J _ a1 (by omega) (by rw [if_pos (by omega)]; omega) f1 e1 (t1.imp hb1)
    · rw [d10]
      refine sp_num hT h6 hX a1 (by omega) e1 t1 (Nat.mod_lt _ (by decide)) (go_fig2 (Nat.mod_lt _ (by decide))) (fun r h => h) hw r10b (fun J2 a2 f2 e2 t2 => k_L_factor_48 hT (fun y ey => ?_))
      rw [if_neg n1] at ey
      rw [ey]
      exact ⟨Or.inr rfl, q J2 _ a2 (by omega) (by rw [if_pos (by omega)]; omega) (f1.trans f2) e2 t2⟩
  · have ek : kd = 1 := (nI_eq (b := 1) (by omega) (by decide)).mp k1
    rw [if_pos (by omega)] at hn
    refine sp_ty (c := 103) (w := 0) hT h6 hX iv (by omega) en (by decide) (by decide) dt go_g (fl_0 (fun J z => z.nm)) (fun J a1 f1 e1 t1 => k_L_factor_71 hT ⟨fun z => absurd z n1, fun _ => ⟨by decide, ?_⟩⟩)
    have r3 : nI wh - nI wh / 3 * 3 = nI (wh % 3) := rem_n hwh (d := 3) (by decide) (by decide)
    have l3 := Nat.mod_lt wh (show 0 < 3 by decide)
    refine sp_num hT h6 hX a1 (by omega) e1 t1 (show wh % 3 < 10 by omega) (go_gau l3) (fun r h => h) hw r3 (fun J2 a2 f2 e2 t2 => k_L_factor_88 hT (fun y ey => ?_))
    rw [if_neg n1] at ey
    rw [ey]
    exact ⟨Or.inr rfl, q J2 _ a2 (by omega) (by rw [if_pos (by omega)]; omega) (f1.trans f2) e2 t2⟩
  · have ek : kd = 2 := (nI_eq (b := 2) (by omega) (by decide)).mp k2
    rw [if_pos (by omega)] at hn
    intro y ey
    have qq : ∀ J, Al s T rc sc t (n + 1) N J L F → TFn on I J → J on 0 = nI (n + 1) → DT J (n + 1) (fun k => k < m ∧ aL s k ≠ -1) b kBe → WP mL_factor 124 [some (.ref 0), some (.ref on), some (.ref 499), some (.int (nI m)), some (.int (nI kd)), some (.int (nI wh)), some (.int w), none] [.int 1] (G X J L F) 1 6 Q := fun J a1 f1 e1 t1 =>
      k_L_factor_124 hT ⟨Or.inr rfl, q J _ a1 (by omega) (by rw [if_pos (by omega)]; omega) f1 e1 t1⟩
    by_cases z : (nI wh - nI wh / 2 * 2) = 0
    · rw [if_pos z] at ey
      rw [ey]
      exact sp_ty (c := 112) hT h6 hX iv (by omega) en (by decide) (by decide) dt go_p (fl_be hw (fun r h => h)) qq
    · rw [if_neg z] at ey
      rw [ey]
      exact sp_ty (c := 104) hT h6 hX iv (by omega) en (by decide) (by decide) dt go_h (fl_be hw (fun r h => h)) qq
  · have k3 : ¬ kd < 3 := fun l => by
      have : kd = 0 ∨ kd = 1 ∨ kd = 2 := by omega
      rcases this with e | e | e
      · exact k0 (by rw [e]; rfl)
      · exact k1 (by rw [e]; rfl)
      · exact k2 (by rw [e]; rfl)
    refine ⟨fun z => ⟨z, trivial⟩, fun y ey => ⟨fun k4 => ⟨fun _ => num y 1 6 (by decide) (by decide) k3, fun m0 => ?_⟩, fun _ => num y 1 6 (by decide) (by decide) k3⟩⟩
    have mp : 0 < m := Nat.pos_of_ne_zero fun e => m0 (by rw [e]; decide)
    have ey2 : y = nI (wh % m) := by
      rw [ey, if_neg (fun z => by have := (nI_eq (b := 0) (by omega) (by decide)).mp z; omega)]
      exact rem_n hwh mp (by omega)
    have lm := Nat.mod_lt wh mp
    subst ey2
    refine z_latest iv.1 (by omega) (k_L_factor_155 hT ⟨fun _ => ?_, fun la z ez => ⟨by decide, ?_⟩⟩)
    · exact ⟨by decide, num _ _ _ (by decide) (by decide) k3⟩
    · rw [if_neg k3] at hn
      have qq : ∀ J, Al s T rc sc t (n + 1 + 1) N J L F → TFn on I J → J on 0 = nI (n + 1 + 1) → DT J (n + 1 + 1) (fun k => k < m ∧ aL s k ≠ -1) b kBe → WP mL_factor 197 [some (.ref 0), some (.ref on), some (.ref 499), some (.int (nI m)), some (.int (nI kd)), some (.int (nI wh)), some (.int w), some (.int (nI (wh % m)))] [.int 1] (G X J L F) (1 + 1 + 1) (6 + 6 + 6) Q := fun J a1 f1 e1 t1 =>
        k_L_factor_197 hT (fun y ey => by
          rw [if_neg n1] at ey
          rw [ey]
          exact ⟨Or.inr rfl, q J _ a1 (by omega) (by rw [if_neg k3]; omega) f1 e1 t1⟩)
      by_cases e : (nI wh / 6) - (nI wh / 6) / 2 * 2 = 0
      · rw [if_pos e] at ez
        rw [ez]
        refine sp_ty (c := 109) (w := 0) hT h6 hX iv (by omega) en (by decide) (by decide) dt go_m (fl_0 (fun J z => z.nm)) (fun J a1 f1 e1 t1 => k_L_factor_182 hT ⟨fun z => absurd z n1, fun _ => ⟨by decide, ?_⟩⟩)
        exact sp_num hT h6 hX a1 (by omega) e1 t1 (show wh % m < 10 by omega) (go_m2 (by omega) ⟨lm, la⟩) (fun r h => h) hw rfl (fun J2 a2 f2 e2 t2 => qq J2 a2 (f1.trans f2) e2 t2)
      · rw [if_neg e] at ez
        rw [ez]
        refine sp_ty (c := 113) (w := 0) hT h6 hX iv (by omega) en (by decide) (by decide) dt go_q (fl_0 (fun J z => z.nm)) (fun J a1 f1 e1 t1 => k_L_factor_182 hT ⟨fun z => absurd z n1, fun _ => ⟨by decide, ?_⟩⟩)
        exact sp_num hT h6 hX a1 (by omega) e1 t1 (show wh % m < 10 by omega) (go_q2 (by omega) ⟨lm, la⟩) (fun r h => h) hw rfl (fun J2 a2 f2 e2 t2 => qq J2 a2 (f1.trans f2) e2 t2)
end ZT
