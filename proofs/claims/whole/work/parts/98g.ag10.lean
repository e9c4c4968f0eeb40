/-! ===== round ===== -/
theorem q_sub1 (a : Nat) : nI (a + 1) - nI 1 = nI a := by
  rw [Nat.add_comm]
  exact q_sub 1 a
def tRd (T : Tw) (i : Nat) : Bool := decide ((i + 1) % T 2 = 0 ∧ (i + 1) % 6 = 0 ∧ tBn T (i + 1) = T 4)
theorem c_anew {hp : kw_H} {v nm jb tm : Nat → Int32} {tu : Nat → Option Nat} {T : Tw} (k1 : KC hp 20 v nm jb tu tm) (k2 : KV v nm jb tm T) (k3 : TU hp tu T) (hT : tReal T) : X1_weeksUntilAnew_F hp 25 20 = some (((List.range 100).findSome? (fun i => if tRd T i = true then some (nI (i + 1)) else none)).getD (-1000000)) := by
  have h999 := hT.2
  have h18 := hT.1.2.1
  have h24 := hT.1.2.2.1
  have h4 := hT.1.2.2.2.2.1
  unfold X1_weeksUntilAnew_F
  rw [kc_g8 k1, Option.bind_some, k2.1 4 (by omega)]
  refine lp_find (b := X1_weeksUntilAnew_B7 hp 20) (fun i => (nI (tBn T i), nI (i + 1))) 100 (fun i => if tRd T i = true then some (nI (i + 1)) else none) (-1000000) (fun i hi => ?_) ?_ 2000 (by omega)
  · have hbn := tBn_lt hT.1 i
    have hbn1 := tBn_lt hT.1 (i + 1)
    have m1 := Nat.mod_lt (i + 1) (show 0 < T 2 by omega)
    have m2 := Nat.mod_lt (i + 1) (show 0 < 6 by omega)
    have et : X2_turnedNext_F hp 20 (nI (tBn T i)) (nI (T 3) + nI (i + 1) - nI 1) = some (nI (tBn T (i + 1))) := by
      rw [nI_add, ← Nat.add_assoc, q_sub1, c_turnedNext k1 k2 hT.1 k3 (by omega) (by omega)]
      rfl
    show X1_weeksUntilAnew_b7 _ _ _ _ = _
    unfold X1_weeksUntilAnew_b7 X1_weeksUntilAnew_J51 X1_weeksUntilAnew_J52 X1_weeksUntilAnew_J69
    simp (disch := omega) only [q_lt, kc_g7 k1, k2.1 3 (show 3 < 6 by omega), kc_g6 k1, k2.1 2 (show 2 < 6 by omega), kc_g8 k1, k2.1 4 (show 4 < 6 by omega), kc_ob k1, Option.bind_some, et, c_rest, q_eq0, q_eq]
    rw [if_neg (show ¬ 100 < i + 1 by omega)]
    unfold tRd
    by_cases w1 : (i + 1) % T 2 = 0
    · rw [if_pos w1]
      by_cases w2 : (i + 1) % 6 = 0
      · rw [if_pos w2, if_neg (by decide)]
        by_cases w3 : tBn T (i + 1) = T 4
        · rw [if_pos w3, if_pos (decide_eq_true ⟨w1, w2, w3⟩)]
          rfl
        · rw [if_neg w3, if_neg (fun z => w3 (of_decide_eq_true z).2.2)]
          rw [nI_add]
      · rw [if_neg w2, if_pos trivial, if_neg (fun z => w2 (of_decide_eq_true z).2.1)]
        rw [nI_add]
    · rw [if_neg w1, if_pos trivial, if_neg (fun z => w1 (of_decide_eq_true z).1)]
      rw [nI_add]
  · show X1_weeksUntilAnew_b7 _ _ _ _ = _
    unfold X1_weeksUntilAnew_b7
    rw [if_pos ((q_lt (by omega) (by omega)).mpr (by omega))]
    rfl
theorem ag_round : lx_ag_round Inv := by
  rintro j hp h hj -
  have hM0 := Inv_M h
  have hS := Inv_S _ _ h
  obtain ⟨ks, ka, kl, kr, sc, ar, T, n, o, A, h⟩ := h
  obtain ⟨C, P, hC, rfl⟩ := MV_ex h.2.1
  have hth := IV_there h
  obtain ⟨⟨v, nm, jb, tu, tm, k1, k2, k3, k4⟩, hA, -⟩ := h.2.2.2.2.2.2.2.1
  unfold X11_round_F X12_round_F
  simp only [c0_r2 h.1, c0_r3 h.1, c25_ob h.1, Option.bind_some, kc_ob k1, m_g1 hC]
  rcases hth with ⟨hT, s1, e1⟩ | ⟨-, s1, e1⟩
  case inr => exact ⟨-1000002, _, by rw [e1, Option.bind_some, if_pos e00], hM0, by rw [s1, if_pos e00], hS⟩
  simp only [e1, s1, Option.bind_some, if_neg e10]
  have h999 := hT.2
  have h18 := hT.1.2.1
  have h24 := hT.1.2.2.1
  have h4 := hT.1.2.2.2.2.1
  obtain ⟨f0, c1, c2, c3⟩ := m_layTried (C := C) (P := P) (sc := sc) (ar := ar) hC hA hT.1 (n := 0) (by omega) (by omega)
  rw [← hR_self] at c1
  obtain ⟨F, q0, q1, q2⟩ := m_weeks (C := C) (P := P) (sc := sc) (ar := ar) hC (b := 1782) (by omega) c2 hT.1 100 (show tWn T 0 3 + 100 ≤ 2000 by show T 3 + 100 ≤ 2000; omega)
  have e0 : tWn T 0 = T := rfl
  rw [e0] at q1
  have hk : ∀ i, i ≤ 100 → ∀ k, k < 1782 → F i k = ar 0 k := fun i hi k hk => ((q1 i hi).2 k (by omega)).trans (c3 k hk)
  obtain ⟨i, hi, hpair⟩ := fs_pair (c := tRd T) (a := fun i => nI (i + 1)) (B := fun i => hR C sc ar P (F (i + 1))) (d := (-1000000 : Int32)) (m := 99) (List.range 100)
  have hi61 : i + 1 ≤ 100 := by
    rcases hi with hi | hi
    · have := List.mem_range.mp hi; omega
    · omega
  refine ⟨((List.range 100).findSome? (fun i => if tRd T i = true then some (nI (i + 1)) else none)).getD (-1000000), hR C sc ar P (F (i + 1)), ?_, hM0, ?_, IV_tried hC h (hk _ hi61)⟩
  · rw [c_anew k1 k2 k3 hT]
    rfl
  · rw [m_ob hC, Option.bind_some, c1, Option.bind_some, ← q0]
    rw [← hpair]
    refine lp_find (b := X12_round_B17 38) (fun i => (nI (i + 1), hR C sc ar P (F i))) 100 (fun i => if tRd T i = true then some (nI (i + 1), hR C sc ar P (F (i + 1))) else none) (-1000000, hR C sc ar P (F (99 + 1))) (fun i hi => ?_) ?_ 2000 (by omega)
    · have hbn1 := tBn_lt hT.1 (i + 1)
      have m1 := Nat.mod_lt (i + 1) (show 0 < T 2 by omega)
      have m2 := Nat.mod_lt (i + 1) (show 0 < 6 by omega)
      have r1 : F (i + 1) 1786 = nI (tBn T (i + 1)) := by
        rw [← tWn_4 hT.1]
        exact (q1 (i + 1) (by omega)).1 4 (by omega)
      have r2 : F (i + 1) 4 = nI (T 4) := (hk (i + 1) (by omega) 4 (by omega)).trans (tA0 hA (by omega))
      have r3 : F (i + 1) 2 = nI (T 2) := (hk (i + 1) (by omega) 2 (by omega)).trans (tA0 hA (by omega))
      show X12_round_b17 _ _ _ = _
      unfold X12_round_b17 X12_round_J67
      simp (disch := omega) only [q_le, r_ob hC, Option.bind_some, q2 i hi, r_r0 hC, r_ld hC, r1, r2, r3, q_rem, q_eq0, q_eq]
      rw [if_neg (show ¬ 101 ≤ i + 1 by omega)]
      unfold tRd
      by_cases w3 : tBn T (i + 1) = T 4
      · rw [if_pos w3]
        by_cases w1 : (i + 1) % T 2 = 0
        · rw [if_pos w1]
          by_cases w2 : (i + 1) % 6 = 0
          · rw [if_pos w2, if_pos (decide_eq_true ⟨w1, w2, w3⟩)]
            rfl
          · rw [if_neg w2, if_neg (fun z => w2 (of_decide_eq_true z).2.1)]
            rw [nI_add]
        · rw [if_neg w1, if_neg (fun z => w1 (of_decide_eq_true z).1)]
          rw [nI_add]
      · rw [if_neg w3, if_neg (fun z => w3 (of_decide_eq_true z).2.2)]
        rw [nI_add]
    · show X12_round_b17 _ _ _ = _
      unfold X12_round_b17
      rw [if_pos ((q_le (by omega) (by omega)).mpr (by omega))]
      rfl
