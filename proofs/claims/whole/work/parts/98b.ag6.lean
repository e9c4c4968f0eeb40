/-! ===== owed, count ===== -/
section MDone
variable {C P : kw_H} {sc : Nat → Int32} {ar : Nat → Nat → Int32} {f : Nat → Int32} {b : Nat} {T : Tw}
theorem m_doneBy (hC : C.length = 38) (hb : b ≤ 1782) (hA : tA f b T) {p : Nat} (hp6 : p < 6) : X12_doneBy_F (hR C sc ar P f) 38 (nI b) (nI p) = some (nI (tS T p)) := by
  unfold X12_doneBy_F
  rw [show (nI 0, nI 0) = (fun k => (nI (q_sm (fun j => T (30 + (6 * p + j))) k), nI k)) 0 from rfl]
  refine lp_for (fun k => (nI (q_sm (fun j => T (30 + (6 * p + j))) k), nI k)) 6 _ ?_ ?_ 2000 (by omega)
  · intro k hk
    unfold X12_doneBy_B5 X12_doneBy_b5
    have e := hA (30 + (6 * p + k)) (by omega)
    rw [show b + (30 + (6 * p + k)) = b + 30 + 6 * p + k by omega] at e
    simp (disch := omega) only [q_le, r_r0 hC, Option.bind_some, q_mul, nI_add, r_ld hC, e]
    rw [if_neg (by omega)]
    rfl
  · unfold X12_doneBy_B5 X12_doneBy_b5
    rw [if_pos ((q_le (by omega) (by omega)).mpr (Nat.le_refl _))]
    rfl
theorem m_doneInAll (hC : C.length = 38) (hb : b ≤ 1782) (hA : tA f b T) : X12_doneInAll_F (hR C sc ar P f) 38 (nI b) = some (nI (tSA T)) := by
  unfold X12_doneInAll_F
  rw [show (nI 0, nI 0) = (fun k => (nI (q_sm (fun p => tS T p) k), nI k)) 0 from rfl]
  refine lp_for (fun k => (nI (q_sm (fun p => tS T p) k), nI k)) 6 _ ?_ ?_ 2000 (by omega)
  · intro k hk
    unfold X12_doneInAll_B4 X12_doneInAll_b4
    simp (disch := omega) only [q_le, r_ob hC, Option.bind_some, m_doneBy hC hb hA hk, nI_add]
    rw [if_neg (by omega)]
    rfl
  · unfold X12_doneInAll_B4 X12_doneInAll_b4
    rw [if_pos ((q_le (by omega) (by omega)).mpr (Nat.le_refl _))]
    rfl
end MDone
def q_mx (f : Nat → Nat) : Nat → Nat
  | 0 => 0
  | n + 1 => if q_mx f n < f n then f n else q_mx f n
theorem q_mx_le {f : Nat → Nat} {B : Nat} : ∀ n, (∀ k, k < n → f k ≤ B) → q_mx f n ≤ B
  | 0, _ => by simp [q_mx]
  | n + 1, h => by
    have h1 := q_mx_le n (fun k hk => h k (by omega))
    have h2 := h n (by omega)
    unfold q_mx
    split <;> assumption
theorem ag_owed : lx_ag_owed Inv := by
  intro j hp h hj a1
  have hM0 := Inv_M h
  have hS := Inv_S _ _ h
  obtain ⟨ks, ka, kl, kr, sc, ar, T, n, o, A, h⟩ := h
  obtain ⟨C, P, hC, rfl⟩ := MV_ex h.2.1
  have hth := IV_there h
  obtain ⟨⟨v, nm, jb, tu, tm, k1, k2, k3, k4⟩, hA, -⟩ := h.2.2.2.2.2.2.2.1
  unfold X11_owed_F X12_owed_F
  simp only [c0_r2 h.1, Option.bind_some, kc_ob k1, m_g1 hC]
  rcases hth with ⟨hT, s1, e1⟩ | ⟨-, s1, e1⟩
  case inr => exact ⟨-1000002, by rw [e1, Option.bind_some, if_pos e00], hM0, by rw [s1, if_pos e00], hS⟩
  simp only [e1, s1, Option.bind_some, if_neg e10]
  rcases six_sp a1 with ⟨p, hp1, rfl, b1, -, b2⟩ | ⟨b1, -, b2⟩
  case inr => exact ⟨-1000001, by rw [b1, Option.bind_some, if_pos e00], hM0, by rw [b2, Option.bind_some, if_pos e00], hS⟩
  simp only [b1, b2, Option.bind_some, if_neg e10]
  have hd : ∀ q, q < 6 → X12_doneBy_F (hM C sc ar P) 38 (nI 0) (nI q) = some (nI (tS T q)) := fun q hq => by
    rw [hR_self]
    exact m_doneBy hC (by omega) hA hq
  have hle : ∀ i, i ≤ 6 → q_mx (tS T) i ≤ 96000 := fun i hi => q_mx_le i (fun k hk => tS_le hT.1 (by omega))
  refine ⟨nI (q_mx (tS T) 6) - nI (tS T p), ?_, hM0, ?_, hS⟩
  · rw [show (nI 0, nI 0) = (fun k => (nI (q_mx (tS T) k), nI k)) 0 from rfl]
    refine lp_for (fun k => (nI (q_mx (tS T) k), nI k)) 6 _ ?_ ?_ 2000 (by omega)
    · intro k hk
      have z1 := hle k (by omega)
      have z2 := tS_le hT.1 hk
      unfold X11_owed_B27 X11_owed_b27
      simp (disch := omega) only [q_le, c0_r2 h.1, kc_ob k1, Option.bind_some, c_allTimesOf k1 k2 hk, nI_add, kp_max, q_lt]
      rw [if_neg (show ¬ 6 ≤ k by omega)]
      show _ = some (Sum.inl (nI (if q_mx (tS T) k < tS T k then tS T k else q_mx (tS T) k), nI (k + 1)))
      split <;> rfl
    · unfold X11_owed_B27 X11_owed_b27
      rw [if_pos ((q_le (by omega) (by omega)).mpr (Nat.le_refl _))]
      unfold X11_owed_J52
      simp only [c0_r2 h.1, kc_ob k1, Option.bind_some, c_allTimesOf k1 k2 hp1]
      rfl
  · rw [show (nI 0, nI 0) = (fun k => (nI (q_mx (tS T) k), nI k)) 0 from rfl]
    refine lp_for (fun k => (nI (q_mx (tS T) k), nI k)) 6 _ ?_ ?_ 2000 (by omega)
    · intro k hk
      have z1 := hle k (by omega)
      have z2 := tS_le hT.1 hk
      unfold X12_owed_B24 X12_owed_b24 X12_owed_J50
      simp (disch := omega) only [q_le, m_ob hC, Option.bind_some, hd k hk, nI_add]
      rw [if_neg (show ¬ 6 ≤ k by omega)]
      show _ = some (Sum.inl (nI (if q_mx (tS T) k < tS T k then tS T k else q_mx (tS T) k), nI (k + 1)))
      by_cases e : tS T k ≤ q_mx (tS T) k
      · rw [if_pos e, if_neg (by omega)]
      · rw [if_neg e, if_pos (by omega)]
    · unfold X12_owed_B24 X12_owed_b24
      rw [if_pos ((q_le (by omega) (by omega)).mpr (Nat.le_refl _))]
      unfold X12_owed_J57
      simp only [m_ob hC, Option.bind_some, hd p hp1]
      rfl
/-- how many rows lie -/
def q_pr (f : Nat → Int32) : Nat → Nat := q_ct (fun r => decide (f r ≠ (-1)))
theorem ag_count : lx_ag_count Inv := by
  intro j hp h hj a1
  have hM0 := Inv_M h
  have hS := Inv_S _ _ h
  obtain ⟨ks, ka, kl, kr, sc, ar, T, n, o, A, h⟩ := h
  obtain ⟨C, P, hC, rfl⟩ := MV_ex h.2.1
  obtain ⟨⟨v, nm, jb, tu, tm, k1, k2, k3, k4⟩, hA, -⟩ := h.2.2.2.2.2.2.2.1
  have hd : X12_doneInAll_F (hM C sc ar P) 38 (nI 0) = some (nI (tSA T)) := by
    rw [hR_self]
    exact m_doneInAll hC (by omega) hA
  have hrow := h.2.2.2.1
  unfold X11_count_F X12_count_F
  by_cases c0 : a1 = nI 0
  · simp only [if_pos c0, c0_r0 h.1, c1_ob h.1, Option.bind_some]
    refine ⟨nI (q_pr (ka 12) 8), ?_, hM0, ?_, hS⟩
    · have : X6_present_F (hM C sc ar P) 1 = some (nI (q_pr (ka 12) 8)) := by
        unfold X6_present_F
        rw [show (nI 0, nI 0) = (fun k => (nI (q_pr (ka 12) k), nI k)) 0 from rfl]
        refine lp_for (fun k => (nI (q_pr (ka 12) k), nI k)) 8 _ ?_ ?_ 2000 (by omega)
        · intro k hk
          unfold X6_present_B4 X6_present_b4 X6_present_J21
          simp (disch := omega) only [q_le, c1_ob h.1, Option.bind_some, c_miss h.1 hk, nI_add]
          rw [if_neg (show ¬ 8 ≤ k by omega)]
          show _ = some (Sum.inl (nI (q_pr (ka 12) k + (if decide (ka 12 k ≠ (-1)) = true then 1 else 0)), nI (k + 1)))
          by_cases e : ka 12 k = (-1)
          · simp only [e, if_true, if_neg e10]
            rfl
          · simp only [if_neg e, if_pos e00]
            rw [if_pos (by simpa using e)]
        · unfold X6_present_B4 X6_present_b4
          rw [if_pos ((q_le (by omega) (by omega)).mpr (Nat.le_refl _))]
          rfl
      rw [this]
      rfl
    · rw [show (nI 0, nI 0) = (fun k => (nI (q_pr (ka 12) k), nI k)) 0 from rfl]
      refine lp_for (fun k => (nI (q_pr (ka 12) k), nI k)) 8 _ ?_ ?_ 2000 (by omega)
      · intro k hk
        unfold X12_count_B50 X12_count_b50 X12_count_J71
        obtain ⟨q1, -, q3, -⟩ := hrow k hk
        simp (disch := omega) only [q_le, m_r5 hC, m_ld3 hC hk, Option.bind_some, nI_add, q1]
        rw [if_neg (show ¬ 8 ≤ k by omega)]
        show _ = some (Sum.inl (nI (q_pr (ka 12) k + (if decide (ka 12 k ≠ (-1)) = true then 1 else 0)), nI (k + 1)))
        by_cases e : ka 12 k = (-1)
        · rw [e]
          rfl
        · obtain ⟨m, hm, e2⟩ := q3.resolve_left e
          rw [if_pos (show 0 ≤ ka 12 k by rw [e2]; exact nI_pos' (by omega)), if_pos (by simpa using e)]
      · unfold X12_count_B50 X12_count_b50
        rw [if_pos ((q_le (by omega) (by omega)).mpr (Nat.le_refl _))]
        rfl
  simp only [if_neg c0, c0_r2 h.1, Option.bind_some, kc_g4 k1, kc_g5 k1, kc_g6 k1, kc_g7 k1, k2.1 0 (by omega), k2.1 1 (by omega), k2.1 2 (by omega), k2.1 3 (by omega), kc_ob k1, c_allTimes k1 k2, c0_g8 h.1, c0_r1 h.1, c13_g1 h.1, m_r0 hC, m_ld0 hC (show 0 < 1848 by omega), m_ld0 hC (show 1 < 1848 by omega), m_ld0 hC (show 2 < 1848 by omega), m_ld0 hC (show 3 < 1848 by omega), tA0 hA (show 0 < 66 by omega), tA0 hA (show 1 < 66 by omega), tA0 hA (show 2 < 66 by omega), tA0 hA (show 3 < 66 by omega), m_ob hC, hd, m_g2 hC, m_g8 hC]
  obtain ⟨m, t1, t2, t3, t4⟩ := h.2.2.2.2.1
  obtain ⟨-, -, a3, -, a5, -⟩ := h.2.2.2.2.2.2.2.2.1
  rw [t2, t3, a3, a5]
  have key : ∀ E : Option Int32, (∃ r, E = some r) → ∃ r, E = some r ∧ (∃ fs, (hM C sc ar P)[38]? = some (.inr (11, fs))) ∧ E = some r ∧ Inv (j + 1) (hM C sc ar P) := fun E ⟨r, e⟩ => ⟨r, e, hM0, e, hS⟩
  apply key
  repeat' split
  all_goals exact ⟨_, rfl⟩
