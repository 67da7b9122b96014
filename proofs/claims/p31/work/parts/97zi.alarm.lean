/-! own: the alarm, both sides -/
set_option maxRecDepth 100000
def alB (s : AS) (I : Nat → Nat → Int32) (t b d : Nat) : Int32 := if I 1000526 d = 0 then 0 else if aL s (I 1000518 d).toNatClampNeg = -1 then 0 else if Op.cmpValue (FP.fcmp (pk (OI I (aL s (I 1000518 d).toNatClampNeg).toNatClampNeg) t (b - t)).1 (FP.i2f (I 1000528 d))) .l < 0 then 0 else (1 : Int32) <<< (nI d &&& 31 : Int32)
def alS (s : AS) (I : Nat → Nat → Int32) (t b : Nat) : Nat → Int32
  | 0 => 0
  | n + 1 => alS s I t b n ||| alB s I t b n
section OL
variable {X : Nat × (Nat × (Nat → Int32))} {I I0 J : Nat → Nat → Int32} {L M : Nat → Nat → Int64} {F H : Nat → Nat → UInt32} {Q : AQ} {N T rc sc t n n2 d c r b : Nat} {s : AS} {p0 p1 p2 p3 : Int32}
theorem or_0 {x : Int32} : x ||| 0 = x := Int32.or_zero
theorem sp_al18 (hb : t ≤ b) (hb2 : b < 201) (q : ∀ J H, InvS s T rc sc t n N J L H → (∀ o k, 1000511 ≤ o → o ≤ 1000536 → J o k = I0 o k) → OI J = OI I0 → Q (.inl (some (.int (alS s I0 t b 3)))) (G X J L H)) : ∀ (m j : Nat) (I : Nat → Nat → Int32) (F : Nat → Nat → UInt32) (d4 d5 : Option Value), j + m = 3 → InvS s T rc sc t n N I L F → (∀ o k, 1000511 ≤ o → o ≤ 1000536 → I o k = I0 o k) → OI I = OI I0 →
    WP mX9_alarm 18 [some (.ref 0), some (.int (nI b)), some (.int (alS s I0 t b j)), some (.int (nI j)), d4, d5] [] (G X I L F) 0 0 Q
  | 0, j, I, F, d4, d5, hj, iv, hi, eo => by
    have e : j = 3 := by omega
    subst e
    exact k_X9_alarm_18 ⟨fun _ => q I F iv hi eo, fun a => absurd (by decide) a⟩
  | m + 1, j, I, F, d4, d5, hj, iv, hi, eo => by
    obtain ⟨z1, z2, _, _, _, _, z7, z8, _, z10, _⟩ := (iv.2.2.2.2.2.1 j (by omega)).1
    refine k_X9_alarm_18 ⟨fun a => absurd ((nI_leI (a := 3) (b := j) (by decide) (by omega)).mp a) (by omega), fun _ => ⟨nI_in (by omega) (by decide), ?_⟩⟩
    rw [nI_clamp (show j < 2 ^ 31 by omega), nI_1, z7]
    have es : alS s I0 t b (j + 1) = alS s I0 t b j ||| alB s I0 t b j := rfl
    have h526 := hi 1000526 j (by decide) (by decide)
    have h518 := hi 1000518 j (by decide) (by decide)
    have h528 := hi 1000528 j (by decide) (by decide)
    refine ⟨fun c1 => ?_, fun c1 => ?_⟩
    · have := sp_al18 hb hb2 q m (j + 1) I F (some (.ref (423 + 5 * j))) (some (.int (f_X6_latestOf (I (423 + 5 * j) 3) I))) (by omega) iv hi eo
      rw [es, show alB s I0 t b j = 0 by unfold alB; rw [if_pos (by rw [← h526]; exact c1)], or_0] at this
      exact this
    · obtain ⟨mo, cap, hmo, hcap, m1, m2, _⟩ := z2 (z8 c1)
      have el : f_X6_latestOf (I (423 + 5 * j) 3) I = aL s mo := by rw [m1, lat_v hmo]; exact iv.1.1.2.2.1.2.2 mo hmo
      have e518 : (I0 1000518 j).toNatClampNeg = mo := by rw [← h518, m2, nI_clamp (by omega)]
      rw [el]
      refine ⟨fun c2 => ?_, fun c2 => ?_⟩
      · have := sp_al18 hb hb2 q m (j + 1) I F (some (.ref (423 + 5 * j))) (some (.int (aL s mo))) (by omega) iv hi eo
        rw [es, show alB s I0 t b j = 0 by unfold alB; rw [if_neg (by rw [← h526]; exact c1), e518, if_pos c2], or_0] at this
        exact this
      · obtain ⟨v, hv, ev, e2⟩ := lat_lt iv.1.1.1 hmo c2
        rw [ev, iv.2.2.1.2.1]
        refine sp_look isRun_380 (by omega) (by omega) hv hb hb2 iv.1.outc (fun J H i1 i2 oc eo2 ri => k_X9_alarm_81 (gi_damN (by omega)) (fun y ey => ?_))
        have iv2 := iv.lif i1 i2 oc
        have j10 : J (423 + 5 * j) 10 = I0 1000528 j := by rw [i1 _ 10 (by omega) (by omega) (fun ⟨v, _, y, _⟩ => by omega), z10]; exact h528
        rw [ri.2.2.2.2.1, j10, eo] at ey
        have ea : y = alB s I0 t b j := by
          rw [ey]
          unfold alB
          rw [if_neg (show ¬ I0 1000526 j = 0 by rw [← h526]; exact c1), e518, if_neg c2, e2]
        rw [ea, ← es, nI_1]
        exact sp_al18 hb hb2 q m (j + 1) J H _ _ (by omega) iv2 (fun o k x y => (i1 o k (by omega) (by omega) (fun ⟨v, _, y, _⟩ => by omega)).trans (hi o k x y)) (eo2.trans eo)
end OL
