/-! ===== the reference: have all met, whole ===== -/
theorem tOn_lt {T : Tw} {b n : Nat} (h : ∀ k, k < n → T (b + k) ≤ 6) : tOn T b n < 64 := by
  unfold tOn
  refine q_os_lt n (fun s hs hd => ?_)
  have hd : T (b + s) ≠ 6 := of_decide_eq_true hd
  have := h s hs
  omega
theorem m_haveAllMet {C P : kw_H} {sc : Nat → Int32} {ar : Nat → Nat → Int32} {f : Nat → Int32} {T T' : Tw} (hC : C.length = 38) (hA : tA f 0 T) (hA' : tA f 1782 T') (hT : tOk T) (hT' : tOk T') : X12_haveAllMet_F (hR C sc ar P f) 38 = some (nI (b2 ((decide (tOn T 6 (T 0) ≠ 0) && decide (tOn T 14 (T 1) ≠ 0)) && q_al (tAM T T') 36))) := by
  obtain ⟨h0, h1, -, -, -, -, h6, h7, -⟩ := id hT
  have g1 := tOn_lt (T := T) (b := 6) (n := T 0) h6
  have g2 := tOn_lt (T := T) (b := 14) (n := T 1) h7
  unfold X12_haveAllMet_F X12_haveAllMet_J30
  rw [r_ob hC]
  simp only [Option.bind_some, m_onWheel (c := 0) (w := 6) hC (show 0 ≤ 1782 by omega) hA.tL (by omega) (by omega) h0.2 h6, m_onWheel (c := 1) (w := 14) hC (show 0 ≤ 1782 by omega) hA.tL (by omega) (by omega) h1.2 h7]
  simp (disch := omega) only [q_eq0]
  have l0 := m_metLoop (C := C) (P := P) (sc := sc) (ar := ar) hC hA hA' hT hT' g1 g2 false
  have l1 := m_metLoop (C := C) (P := P) (sc := sc) (ar := ar) hC hA hA' hT hT' g1 g2 true
  by_cases e1 : tOn T 6 (T 0) = 0
  · rw [if_pos e1, decide_eq_false (show ¬ tOn T 6 (T 0) ≠ 0 from fun z => z e1), Bool.false_and]
    exact l0
  · rw [if_neg e1, decide_eq_true e1, Bool.true_and]
    by_cases e2 : tOn T 14 (T 1) = 0
    · rw [if_pos e2, decide_eq_false (show ¬ tOn T 14 (T 1) ≠ 0 from fun z => z e2)]
      exact l0
    · rw [if_neg e2, decide_eq_true e2]
      exact l1
