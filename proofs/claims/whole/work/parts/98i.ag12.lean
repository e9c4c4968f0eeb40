/-! ===== copy, both ===== -/
theorem c_lane {hp : kw_H} {ks ka : Nat → Nat → Int32} {kl : Nat → Nat → Int64} {kr : Nat → Nat → Option Nat} (h : CV hp ks ka kl kr) {k : Nat} (hk : k < 8) : X6_laneOf_F hp 1 (nI k) = some (ka 11 k) := by
  unfold X6_laneOf_F
  rw [c_isRow hk (x := 0), Option.bind_some, if_neg e10, c1_r1 h, Option.bind_some, ld_at (cv11 h) (by decide) hk]
  rfl
theorem IV_fin {j : Nat} {hp : kw_H} {ks ka : Nat → Nat → Int32} {kl : Nat → Nat → Int64} {kr : Nat → Nat → Option Nat} {sc : Nat → Int32} {ar : Nat → Nat → Int32} {T : Tw} {n o : Nat} {A : Nat → Tw} (h : IV j hp ks ka kl kr sc ar T n o A) (x : Int32) : ∃ C P, C.length = 38 ∧ X11_finding_F hp 0 x = some ((-1000010) - x, hM C sc ar P) ∧ Inv (j + 1) (hM C (upd sc 10 x) ar P) := by
  obtain ⟨hp1, e1, e2, e3, e4⟩ := k_fin h.1 x
  obtain ⟨C, P, hC, rfl⟩ := MV_ex (MV_f h.2.1 (fun q hq => e4 q (by omega)))
  exact ⟨C, P, hC, e1, IV_find h hC e2 e3 e4⟩
theorem ag_copy : lx_ag_copy Inv := by
  intro j hp h hj a1 a2 a3 a4 a5
  have hM0 := Inv_M h
  have hS := Inv_S _ _ h
  obtain ⟨ks, ka, kl, kr, sc, ar, T, n, o, A, h⟩ := h
  unfold X11_copy_F X12_copy_F
  rcases row_sp a1 with ⟨k, hk, rfl, r1, r2⟩ | ⟨r1, r2⟩
  case inr => exact ⟨-1000001, hp, hp, by rw [r1, Option.bind_some, if_pos e00], hM0, by rw [r2, Option.bind_some, if_pos e00], hS⟩
  simp only [r1, r2, Option.bind_some, if_neg e10]
  rcases row_sp a3 with ⟨k2, hk2, rfl, r1, r2⟩ | ⟨r1, r2⟩
  case inr => exact ⟨-1000001, hp, hp, by rw [r1, Option.bind_some, if_pos e00], hM0, by rw [r2, Option.bind_some, if_pos e00], hS⟩
  obtain ⟨q1, q2, q3, ⟨l, hl, q4⟩, q5⟩ := h.2.2.2.1 k hk
  obtain ⟨p1, p2, p3, ⟨l2, hl2, p4⟩, p5⟩ := h.2.2.2.1 k2 hk2
  simp only [r1, r2, Option.bind_some, if_neg e10, c0_r0 h.1, c1_ob h.1, c_miss h.1 hk, c_miss h.1 hk2, c_lane h.1 hk, c_lane h.1 hk2]
  have neg1 : ((-1 : Int32) < 0) := by decide
  rcases q3 with hm | ⟨m, hm, hs⟩
  · obtain ⟨C, P, hC, e1, e2⟩ := IV_fin h (nI 1)
    refine ⟨(-1000010) - nI 1, hM C sc ar P, _, ?_, hM_38 hC, ?_, e2⟩
    · rw [if_pos hm, if_neg e10]
      unfold X11_copy_J39
      rw [c0_ob h.1, Option.bind_some, e1]
      rfl
    · rw [m_r5 hC, Option.bind_some, m_ld3 hC hk, Option.bind_some, q1, hm, if_pos neg1]
      unfold X12_copy_J35
      rw [m_ob hC, Option.bind_some, m_find hC]
      rfl
  have n1 : ¬ (ka 12 k = (-1)) := by
    rw [hs]
    exact fun z => (q_neg (by decide) (by omega)).mp z
  simp only [if_neg n1, if_pos e00]
  rcases p3 with hm2 | ⟨m2, hm2, hs2⟩
  · obtain ⟨C, P, hC, e1, e2⟩ := IV_fin h (nI 1)
    refine ⟨(-1000010) - nI 1, hM C sc ar P, _, ?_, hM_38 hC, ?_, e2⟩
    · rw [if_pos hm2, if_neg e10]
      unfold X11_copy_J39
      rw [c0_ob h.1, Option.bind_some, e1]
      rfl
    · simp only [m_r5 hC, Option.bind_some, m_ld3 hC hk, m_ld3 hC hk2, q1, p1, hs, if_neg (nI_pos (show m < 2147483648 by omega)), hm2]
      rw [if_neg (by decide)]
      unfold X12_copy_J35
      rw [m_ob hC, Option.bind_some, m_find hC]
      rfl
  have n2 : ¬ (ka 12 k2 = (-1)) := by
    rw [hs2]
    exact fun z => (q_neg (by decide) (by omega)).mp z
  simp only [if_neg n2, if_pos e00]
  have sz : ∀ C P : kw_H, C.length = 38 → (kp_gR (hM C sc ar P) 38 [11] 5).bind (fun v => kp_ldI (hM C sc ar P) v (nI k)) = some (nI m) := fun C P hC => by
    rw [m_r5 hC, Option.bind_some, m_ld3 hC hk, q1, hs]
  by_cases hlane : ka 11 k = ka 11 k2
  case neg =>
    obtain ⟨C, P, hC, e1, e2⟩ := IV_fin h (nI 5)
    refine ⟨(-1000010) - nI 5, hM C sc ar P, _, ?_, hM_38 hC, ?_, e2⟩
    · rw [if_neg hlane, c0_ob h.1, Option.bind_some, e1]
      rfl
    · simp only [m_r5 hC, m_r4 hC, Option.bind_some, m_ld3 hC hk, m_ld3 hC hk2, m_ld2 hC hk, m_ld2 hC hk2, q1, p1, q2, p2, hs, hs2, if_neg (nI_pos (show m < 2147483648 by omega)), if_pos (nI_pos' (show m2 < 2147483648 by omega)), if_neg hlane, m_ob hC, m_find hC]
  simp only [if_pos hlane]
  by_cases g1 : 0 ≤ a2.toInt ∧ 0 ≤ a5.toInt ∧ a2.toInt ≤ m ∧ a5.toInt ≤ m - a2.toInt
  case neg =>
    obtain ⟨C, P, hC, e1, e2⟩ := IV_fin h (nI 2)
    have f1 := c_fat h.1 hk hm hs a2 a5
    rw [if_neg g1] at f1
    have f2 := m_isSpan (sc := sc) (P := P) hC hk hm (q1.trans hs) a2 a5
    rw [if_neg g1] at f2
    refine ⟨(-1000010) - nI 2, hM C sc ar P, _, ?_, hM_38 hC, ?_, e2⟩
    · rw [f1, Option.bind_some, if_neg (by decide)]
      unfold X11_copy_J99
      rw [c0_ob h.1, Option.bind_some, e1]
      rfl
    · simp only [m_r5 hC, m_r4 hC, Option.bind_some, m_ld3 hC hk, m_ld3 hC hk2, m_ld2 hC hk, m_ld2 hC hk2, q1, p1, q2, p2, hs, hs2, if_neg (nI_pos (show m < 2147483648 by omega)), if_pos (nI_pos' (show m2 < 2147483648 by omega)), if_pos hlane, m_ob hC, f2, if_pos e00]
      unfold X12_copy_J85
      rw [m_ob hC, Option.bind_some, m_find hC]
      rfl
  have f1 := c_fat h.1 hk hm hs a2 a5
  rw [if_pos g1] at f1
  by_cases g2 : 0 ≤ a4.toInt ∧ 0 ≤ a5.toInt ∧ a4.toInt ≤ m2 ∧ a5.toInt ≤ m2 - a4.toInt
  case neg =>
    obtain ⟨C, P, hC, e1, e2⟩ := IV_fin h (nI 2)
    have f3 := c_fat h.1 hk2 hm2 hs2 a4 a5
    rw [if_neg g2] at f3
    have f2 := m_isSpan (sc := sc) (P := P) hC hk hm (q1.trans hs) a2 a5
    rw [if_pos g1] at f2
    have f4 := m_isSpan (sc := sc) (P := P) hC hk2 hm2 (p1.trans hs2) a4 a5
    rw [if_neg g2] at f4
    refine ⟨(-1000010) - nI 2, hM C sc ar P, _, ?_, hM_38 hC, ?_, e2⟩
    · rw [f1, Option.bind_some, if_pos e00, f3, Option.bind_some, if_neg (by decide)]
      unfold X11_copy_J99
      rw [c0_ob h.1, Option.bind_some, e1]
      rfl
    · simp only [m_r5 hC, m_r4 hC, Option.bind_some, m_ld3 hC hk, m_ld3 hC hk2, m_ld2 hC hk, m_ld2 hC hk2, q1, p1, q2, p2, hs, hs2, if_neg (nI_pos (show m < 2147483648 by omega)), if_pos (nI_pos' (show m2 < 2147483648 by omega)), if_pos hlane, m_ob hC, f2, f4, if_pos e00, if_neg e10]
      unfold X12_copy_J85
      rw [m_ob hC, Option.bind_some, m_find hC]
      rfl
  have f3 := c_fat h.1 hk2 hm2 hs2 a4 a5
  rw [if_pos g2] at f3
  obtain ⟨x, hx, rfl⟩ : ∃ x : Nat, (x : Int) = a2.toInt ∧ a2 = nI x := ⟨a2.toInt.toNat, by omega, by rw [eI_n, Int.toNat_of_nonneg g1.1]; exact eI_of a2⟩
  obtain ⟨y, hy, rfl⟩ : ∃ x : Nat, (x : Int) = a4.toInt ∧ a4 = nI x := ⟨a4.toInt.toNat, by omega, by rw [eI_n, Int.toNat_of_nonneg g2.1]; exact eI_of a4⟩
  obtain ⟨c, hc, rfl⟩ : ∃ x : Nat, (x : Int) = a5.toInt ∧ a5 = nI x := ⟨a5.toInt.toNat, by omega, by rw [eI_n, Int.toNat_of_nonneg g1.2.1]; exact eI_of a5⟩
  have b1 := CV_row h.1 hk2 (va_cpy (ka (3 + k)) (ka (3 + k2)) x y c)
  obtain ⟨hp3, u1, u2, u3, u4⟩ := k_unf b1 (nI c)
  have hfr : ∀ q, (20 ≤ q ∧ q < 25) ∨ 38 ≤ q → hp3[q]? = hp[q]? := fun q hq => by
    rw [u4 q (by omega), List.getElem?_set_ne (by omega)]
  obtain ⟨C, P, hC, rfl⟩ := MV_ex (MV_f h.2.1 (fun q hq => hfr q (Or.inr hq)))
  have f2 := m_isSpan (sc := sc) (P := P) hC hk hm (q1.trans hs) (nI x) (nI c)
  rw [if_pos g1] at f2
  have f4 := m_isSpan (sc := sc) (P := P) hC hk2 hm2 (p1.trans hs2) (nI y) (nI c)
  rw [if_pos g2] at f4
  refine ⟨nI c, hM C sc ar P, _, ?_, hM_38 hC, ?_, ⟨_, _, _, _, _, _, _, _, _, _, IV_X h hC u2 (by rw [u3, List.length_set]) hfr rfl rfl h.2.2.2.2.2.2.2.2.2.2.2 rfl rfl (sc' := upd sc 10 (nI 0)) (ar' := va_up ar 4 (va_cpy (ar 4) (ar 4) (40 * k + x) (40 * k2 + y) c)) ?_ ?_ ?_ ?_ (fun _ _ => rfl) (fun _ _ => rfl) rfl rfl⟩⟩
  · have ecp : kp_cpI hp (3 + k) (nI x) (3 + k2) (nI y) (nI c) = some (hp.set (3 + k2) (.inl (0, 40, .inl (va_cpy (ka (3 + k)) (ka (3 + k2)) x y c)))) := by
      unfold kp_cpI
      rw [cv_row h.1 hk, cv_row h.1 hk2]
      show (if nI x < 0 ∨ nI y < 0 ∨ nI c < 0 ∨ 40 < (nI x).toNatClampNeg + (nI c).toNatClampNeg ∨ 40 < (nI y).toNatClampNeg + (nI c).toNatClampNeg then none else some (hp.set (3 + k2) (.inl (0, 40, .inl (va_cpy (ka (3 + k)) (ka (3 + k2)) (nI x).toNatClampNeg (nI y).toNatClampNeg (nI c).toNatClampNeg))))) = _
      rw [q_cl (by omega), q_cl (by omega), q_cl (by omega), if_neg]
      rintro (z | z | z | z | z)
      · exact nI_pos (by omega) z
      · exact nI_pos (by omega) z
      · exact nI_pos (by omega) z
      · omega
      · omega
    unfold X6_move_F
    simp only [f1, f3, Option.bind_some, if_pos e00, c1_ob h.1, c1_r0 h.1, c_ldR h.1 hk, c_ldR h.1 hk2, kp_nu, ecp, c0_ob b1, u1]
  · simp only [m_r5 hC, m_r4 hC, Option.bind_some, m_ld3 hC hk, m_ld3 hC hk2, m_ld2 hC hk, m_ld2 hC hk2, q1, p1, q2, p2, hs, hs2, if_neg (nI_pos (show m < 2147483648 by omega)), if_pos (nI_pos' (show m2 < 2147483648 by omega)), if_pos hlane, m_ob hC, f2, f4, if_neg e10]
    exact m_copyLoop hC hk hk2 (by omega) (by omega)
  · refine I_rows_of h.2.2.2.1 hk2 _ _ (fun t ht => ?_) (fun t ht hh => ?_)
    · unfold va_cpy
      by_cases e : y ≤ t ∧ t < y + c
      · rw [if_pos (by omega), if_pos e, ← q5 (x + (t - y)) (by omega)]
        congr 1
        omega
      · rw [if_neg (by omega), if_neg e]
        exact p5 t ht
    · unfold va_cpy
      rw [if_neg (by omega)]
  · obtain ⟨a, z1, z2, z3, z4⟩ := h.2.2.2.2.1
    refine ⟨a, z1, z2, z3, fun t ht => ?_⟩
    rw [up_ne _ _ (by omega), up_ne _ _ (by omega)]
    exact z4 t ht
  · exact ⟨h.2.2.2.2.2.1.1, rfl⟩
  · obtain ⟨⟨a, z1, z2, z3, z4⟩, y1, y2, y3, y4⟩ := h.2.2.2.2.2.2.1
    refine ⟨⟨a, z1, z2, z3, fun t ht => ?_⟩, y1, y2, y3, fun t ht => ?_⟩
    · rw [up_ne _ _ (by omega), up_ne _ _ (by omega)]
      exact z4 t ht
    · rw [up_ne _ _ (by omega)]
      exact y4 t ht
