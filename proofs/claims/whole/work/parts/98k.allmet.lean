/-! ===== the reference: have all met ===== -/
def q_al (c : Nat → Bool) : Nat → Bool
  | 0 => true
  | n + 1 => q_al c n && c n
def tAM (T T' : Tw) (q : Nat) : Bool := !((tOn T 6 (T 0)).testBit (q / 6) && (tOn T 14 (T 1)).testBit (q % 6)) || decide (T (30 + q) < T' (30 + q))
theorem m_metLoop {C P : kw_H} {sc : Nat → Int32} {ar : Nat → Nat → Int32} {f : Nat → Int32} {T T' : Tw} (hC : C.length = 38) (hA : tA f 0 T) (hA' : tA f 1782 T') (hT : tOk T) (hT' : tOk T') (g1 : tOn T 6 (T 0) < 64) (g2 : tOn T 14 (T 1) < 64) (s : Bool) : X12_haveAllMet_J31 (hR C sc ar P f) 38 (nI (tOn T 6 (T 0))) (nI (tOn T 14 (T 1))) (nI (b2 s)) = some (nI (b2 (s && q_al (tAM T T') 36))) := by
  unfold X12_haveAllMet_J31
  rw [show (nI (b2 s), nI 0) = (fun k => (nI (b2 (s && q_al (tAM T T') k)), nI k)) 0 from by
    show _ = (nI (b2 (s && true)), nI 0)
    rw [Bool.and_true]]
  refine lp_for (fun k => (nI (b2 (s && q_al (tAM T T') k)), nI k)) 36 _ ?_ ?_ 2000 (by omega)
  · intro k hk
    have z1 := tA0 hA (show 30 + k < 66 by omega)
    have z2 := hA' (30 + k) (by omega)
    rw [← Nat.add_assoc] at z2
    have y1 := hT.2.2.2.2.2.2.2.2.2.2 k hk
    have y2 := hT'.2.2.2.2.2.2.2.2.2.2 k hk
    have y3 := hT.2.2.2.1
    have y4 := hT'.2.2.2.1
    have k6 : k % 6 < 6 := Nat.mod_lt _ (by omega)
    show X12_haveAllMet_b35 _ _ _ _ _ _ = some (Sum.inl (nI (b2 (s && (q_al (tAM T T') k && tAM T T' k))), nI (k + 1)))
    unfold X12_haveAllMet_b35 X12_haveAllMet_J70 X12_haveAllMet_J71 X12_haveAllMet_J110 X12_haveAllMet_J106 X12_haveAllMet_J111
    simp (disch := omega) only [q_le, q_div, q_rem, Option.bind_some, m_has g1 (show k / 6 < 8 by omega), m_has g2 (show k % 6 < 8 by omega), nI_add, r_r0 hC, r_ld hC, z1, z2]
    rw [if_neg (show ¬ 36 ≤ k by omega), ← Bool.and_assoc]
    generalize (s && q_al (tAM T T') k) = B
    unfold tAM
    cases B with
    | false =>
      rw [Bool.false_and]
      cases (tOn T 6 (T 0)).testBit (k / 6) <;> cases (tOn T 14 (T 1)).testBit (k % 6) <;> rfl
    | true =>
      rw [Bool.true_and]
      cases (tOn T 6 (T 0)).testBit (k / 6)
      · rfl
      · cases (tOn T 14 (T 1)).testBit (k % 6)
        · rfl
        · by_cases e : T' (30 + k) ≤ T (30 + k)
          · rw [decide_eq_false (show ¬ T (30 + k) < T' (30 + k) by omega)]
            simp only [e, if_true]
            rfl
          · rw [decide_eq_true (show T (30 + k) < T' (30 + k) by omega)]
            simp only [e, if_false]
            rfl
  · show X12_haveAllMet_b35 _ _ _ _ _ _ = _
    unfold X12_haveAllMet_b35
    rw [if_pos ((q_le (by omega) (by omega)).mpr (Nat.le_refl _))]
    unfold X12_haveAllMet_J118
    cases (s && q_al (tAM T T') 36) <;> rfl
