/-! ===== the rows: row, set ===== -/
theorem q_mul (a b : Nat) : nI a * nI b = nI (a * b) := by
  rw [eI_n a, eI_n b, eI_n (a * b), eI_mul, Int.natCast_mul]
theorem w_of {x : Int32} {b : Nat} (hb : b < 2147483648) (h1 : 0 ≤ x) (h2 : x ≤ nI b) : ∃ k, k ≤ b ∧ x = nI k := by
  have e1 := Int32.le_iff_toInt_le.mp h1
  have e2 := Int32.le_iff_toInt_le.mp h2
  rw [eI_n, eI_toInt (by omega) (by omega)] at e2
  have e3 : (0 : Int32).toInt = 0 := rfl
  rw [e3] at e1
  refine ⟨x.toInt.toNat, by omega, ?_⟩
  rw [eI_n, Int.toNat_of_nonneg e1]
  exact eI_of x
theorem I_rows_cg {ka ar ar' : Nat → Nat → Int32} (h : I_rows ka ar) (e2 : ar' 2 = ar 2) (e3 : ar' 3 = ar 3) (e4 : ar' 4 = ar 4) : I_rows ka ar' := by
  intro r hr
  rw [e2, e3, e4]
  exact h r hr
theorem m_row0 {C P : kw_H} {sc : Nat → Int32} {ar : Nat → Nat → Int32} {k : Nat} (hC : C.length = 38) (hk : k < 8) (x : Int32) : kp_lp (X12_row_B55 38 (nI k) x) 2000 (nI 0, hM C sc ar P) = some (x, hM C (upd sc 10 (nI 0)) (va_up ar 4 (fun t => if 40 * k ≤ t ∧ t < 40 * k + 40 then nI 0 else ar 4 t)) P) := by
  have e1 : ar = va_up ar 4 (fun t => if 40 * k ≤ t ∧ t < 40 * k + 0 then nI 0 else ar 4 t) := by
    funext a
    by_cases e : a = 4
    · subst e
      rw [up_at]
      funext t
      rw [if_neg (by omega)]
    · rw [up_ne _ _ e]
  conv => lhs; rw [e1]
  refine lp_for (fun i => (nI i, hM C sc (va_up ar 4 (fun t => if 40 * k ≤ t ∧ t < 40 * k + i then nI 0 else ar 4 t)) P)) 40 _ (fun i hi => ?_) ?_ 2000 (by decide)
  · show X12_row_b55 _ _ _ _ _ = _
    unfold X12_row_b55
    simp (disch := omega) only [q_le]
    rw [if_neg (by omega), m_r6 hC, Option.bind_some, q_mul, nI_add, m_st4 hC (by omega), Option.bind_some, nI_add, up_up, up_at]
    have ef : upd (fun t => if 40 * k ≤ t ∧ t < 40 * k + i then nI 0 else ar 4 t) (40 * k + i) (nI 0) = fun t => if 40 * k ≤ t ∧ t < 40 * k + (i + 1) then nI 0 else ar 4 t := by
      funext t
      unfold upd
      by_cases e : t = 40 * k + i
      · rw [if_pos e, if_pos (by omega)]
      · rw [if_neg e]
        by_cases e2 : 40 * k ≤ t ∧ t < 40 * k + i
        · exact (if_pos e2).trans (if_pos (show 40 * k ≤ t ∧ t < 40 * k + (i + 1) by omega)).symm
        · exact (if_neg e2).trans (if_neg (show ¬ (40 * k ≤ t ∧ t < 40 * k + (i + 1)) by omega)).symm
    rw [ef]
  · show X12_row_b55 _ _ _ _ _ = _
    unfold X12_row_b55
    simp (disch := omega) only [q_le]
    rw [if_pos (by omega)]
    unfold X12_row_J81
    rw [m_ob hC, Option.bind_some, m_well hC]
    rfl
theorem ag_row : lx_ag_row Inv := by
  intro j hp h hj a1 a2 a3
  have hM0 := Inv_M h
  have hS := Inv_S _ _ h
  obtain ⟨ks, ka, kl, kr, sc, ar, T, n, o, A, h⟩ := h
  unfold X11_row_F X12_row_F
  rcases row_sp a1 with ⟨k, hk, rfl, r1, r2⟩ | ⟨r1, r2⟩
  case inr =>
    exact ⟨-1000001, hp, hp, by rw [r1, Option.bind_some, if_pos e00], hM0, by rw [r2, Option.bind_some, if_pos e00], hS⟩
  simp only [r1, r2, Option.bind_some, if_neg e10, l_n 0 (by decide), l_n 2 (by decide), l_in]
  rcases w_spN a2 (a := 0) (b := 2) (by decide) (by decide) with ⟨l, rfl, -, hl, w1⟩ | w1
  case inr =>
    exact ⟨-1000001, hp, hp, by rw [w1, Option.bind_some, if_pos e00], hM0, by rw [w1, Option.bind_some, if_pos e00], hS⟩
  simp only [w1, Option.bind_some, if_neg e10]
  by_cases g1 : a3 ≤ nI 40
  case neg =>
    exact ⟨-1000001, hp, hp, by rw [if_neg g1], hM0, by rw [if_neg g1], hS⟩
  simp only [if_pos g1]
  by_cases g2 : 0 ≤ a3
  case neg =>
    simp only [if_neg g2]
    obtain ⟨hp1, e1, e2, e3, e4⟩ := k_fin h.1 (nI 4)
    obtain ⟨C, P, hC, rfl⟩ := MV_ex (MV_f h.2.1 (fun q hq => e4 q (by omega)))
    refine ⟨_, _, _, by rw [c0_ob h.1, Option.bind_some, e1]; rfl, hM_38 hC, ?_, IV_find h hC e2 e3 e4⟩
    rw [m_ob hC, Option.bind_some, m_find hC]
    rfl
  simp only [if_pos g2]
  obtain ⟨m, hm, rfl⟩ := w_of (by decide) g2 g1
  have b1 := CV_row h.1 hk (fun t => if t < 40 then nI 0 else ka (3 + k) t)
  obtain ⟨hp1, c1, c2, c3, c4⟩ := c11_st b1 hk (nI l)
  obtain ⟨hp2, d1, d2, d3, d4⟩ := c12_st c2 hk (nI m)
  obtain ⟨hp3, f1, f2, f3, f4⟩ := k_unf d2 (nI m)
  have hfr : ∀ q, (20 ≤ q ∧ q < 25) ∨ 38 ≤ q → hp3[q]? = hp[q]? := fun q hq => by
    rw [f4 q (by omega), d4 q (by omega), c4 q (by omega), List.getElem?_set_ne (by omega)]
  obtain ⟨C, P, hC, rfl⟩ := MV_ex (MV_f h.2.1 (fun q hq => hfr q (Or.inr hq)))
  refine ⟨nI m, hM C sc ar P, _, ?_, hM_38 hC, ?_, ⟨_, _, _, _, _, _, _, _, _, _, IV_X h hC f2 (by rw [f3, d3, c3, List.length_set]) hfr rfl rfl h.2.2.2.2.2.2.2.2.2.2.2 rfl rfl (sc' := upd sc 10 (nI 0)) (ar' := va_up (va_up (va_up ar 2 (upd (ar 2) k (nI l))) 3 (upd (ar 3) k (nI m))) 4 (fun t => if 40 * k ≤ t ∧ t < 40 * k + 40 then nI 0 else ar 4 t)) ?_ ?_ ?_ ?_ (fun _ _ => rfl) (fun _ _ => rfl) rfl rfl⟩⟩
  · have w2 : ∀ hp, X11_within_F hp (nI m) (nI 0) (nI 40) = some (nI 1) := fun hp => by
      unfold X11_within_F
      simp (disch := omega) only [q_lt]
      rw [if_neg (by omega), if_neg (by omega)]
    unfold X6_lay_F
    simp only [c0_r0 h.1, Option.bind_some, c1_ob h.1, r1, if_neg e10, w2, c1_r0 h.1, c_ldR h.1 hk, kp_nu, c_fill h.1 hk, c1_r1 b1, c1, c1_r2 c2, d1, c0_ob d2, f1]
  · simp only [m_r4 hC, Option.bind_some, m_st2 hC hk, m_r5 hC, m_st3 hC hk]
    exact m_row0 hC hk (nI m)
  · have z := I_rows_size (k := k) (I_rows_lane (k := k) (I_rows_of h.2.2.2.1 hk (fun t => if t < 40 then nI 0 else ka (3 + k) t) (fun t => if 40 * k ≤ t ∧ t < 40 * k + 40 then nI 0 else ar 4 t) (fun i hi => by rw [if_pos (by omega), if_pos hi]) (fun t ht h => if_neg (by omega))) l hl) (nI m) (Or.inr ⟨m, hm, rfl⟩)
    exact I_rows_cg z rfl rfl rfl
  · obtain ⟨a, z1, z2, z3, z4⟩ := h.2.2.2.2.1
    refine ⟨a, z1, z2, z3, fun t ht => ?_⟩
    have : va_up (va_up (va_up ka (3 + k) (fun t => if t < 40 then nI 0 else ka (3 + k) t)) 11 (upd (va_up ka (3 + k) (fun t => if t < 40 then nI 0 else ka (3 + k) t) 11) k (nI l))) 12 (upd (va_up (va_up ka (3 + k) (fun t => if t < 40 then nI 0 else ka (3 + k) t)) 11 (upd (va_up ka (3 + k) (fun t => if t < 40 then nI 0 else ka (3 + k) t) 11) k (nI l)) 12) k (nI m)) 14 = ka 14 := by
      rw [up_ne _ _ (by omega), up_ne _ _ (by omega), up_ne _ _ (by omega)]
    rw [this]
    exact z4 t ht
  · exact ⟨h.2.2.2.2.2.1.1, rfl⟩
  · obtain ⟨⟨a, z1, z2, z3, z4⟩, y1, y2, y3, y4⟩ := h.2.2.2.2.2.2.1
    refine ⟨⟨a, z1, z2, z3, fun t ht => ?_⟩, y1, y2, y3, fun t ht => ?_⟩
    · rw [up_ne ka _ (show 35 ≠ 3 + k by omega) |> fun e => show va_up (va_up (va_up ka (3 + k) _) 11 _) 12 _ 35 = ka 35 from e]
      exact z4 t ht
    · rw [up_ne ka _ (show 19 ≠ 3 + k by omega) |> fun e => show va_up (va_up (va_up ka (3 + k) _) 11 _) 12 _ 19 = ka 19 from e]
      exact y4 t ht
