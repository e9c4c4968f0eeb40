/-! ===== set, feed ===== -/
theorem w_int (hp : kw_H) (x : Int32) {a : Nat} {b : Int} (ha : a < 2147483648) (hb : -1 ≤ b) (hb2 : b < 2147483648) : X11_within_F hp x (nI a) (eI b) = some (if a ≤ x.toInt ∧ x.toInt ≤ b then nI 1 else nI 0) := by
  have hx1 := Int32.le_toInt x
  have hx2 := Int32.toInt_lt x
  have e1 : x < nI a ↔ x.toInt < a := by rw [Int32.lt_iff_toInt_lt, eI_n, eI_toInt (by omega) (by omega)]
  have e2 : eI b < x ↔ b < x.toInt := by rw [Int32.lt_iff_toInt_lt, eI_toInt (by omega) (by omega)]
  unfold X11_within_F
  by_cases h1 : x.toInt < a
  · rw [if_pos (e1.mpr h1), if_neg (by omega)]
  · rw [if_neg (fun z => h1 (e1.mp z))]
    by_cases h2 : b < x.toInt
    · rw [if_pos (e2.mpr h2), if_neg (by omega)]
    · rw [if_neg (fun z => h2 (e2.mp z)), if_pos (by omega)]
/-- what is found at a span of a row that lies -/
theorem c_fat {hp : kw_H} {ks ka : Nat → Nat → Int32} {kl : Nat → Nat → Int64} {kr : Nat → Nat → Option Nat} (h : CV hp ks ka kl kr) {k m : Nat} (hk : k < 8) (hm : m ≤ 40) (hs : ka 12 k = nI m) (x y : Int32) : X6_findingAt_F hp 1 (nI k) x y = some (if 0 ≤ x.toInt ∧ 0 ≤ y.toInt ∧ x.toInt ≤ m ∧ y.toInt ≤ m - x.toInt then nI 0 else nI 2) := by
  have hx1 := Int32.le_toInt x
  have hx2 := Int32.toInt_lt x
  have hy1 := Int32.le_toInt y
  have hy2 := Int32.toInt_lt y
  have e0 : ¬ (nI m = (-1 : Int32)) := fun z => (q_neg (by decide) (by omega)).mp z
  have e1 : x < 0 ↔ x.toInt < 0 := Int32.lt_iff_toInt_lt
  have e2 : y < 0 ↔ y.toInt < 0 := Int32.lt_iff_toInt_lt
  have e3 : nI m < x ↔ (m : Int) < x.toInt := by rw [Int32.lt_iff_toInt_lt, eI_n, eI_toInt (by omega) (by omega)]
  have hmin : kp_min (nI m) (nI 40) = nI m := by
    unfold kp_min
    rw [if_neg (fun z => by have := (q_lt (show 40 < 2147483648 by decide) (show m < 2147483648 by omega)).mp z; omega)]
  unfold X6_findingAt_F
  simp only [c1_ob h, Option.bind_some, c_miss h hk, hs, if_neg e0, if_pos e00, c1_r2 h, ld_at (cv12 h) (show 8 ≤ 2147483648 by decide) hk, hmin]
  by_cases h1 : x.toInt < 0
  · rw [if_pos (e1.mpr h1), if_neg (by omega)]
  · rw [if_neg (fun z => h1 (e1.mp z))]
    by_cases h2 : y.toInt < 0
    · rw [if_pos (e2.mpr h2), if_neg (by omega)]
    · rw [if_neg (fun z => h2 (e2.mp z))]
      by_cases h3 : (m : Int) < x.toInt
      · rw [if_pos (e3.mpr h3), if_neg (by omega)]
      · rw [if_neg (fun z => h3 (e3.mp z))]
        have e4 : y ≤ nI m - x ↔ y.toInt ≤ m - x.toInt := by
          rw [Int32.le_iff_toInt_le, eI_of x, eI_n m, eI_sub, eI_toInt (z := (m : Int) - (x.toInt)) (by omega) (by omega), eI_toInt (z := x.toInt) (by omega) (by omega)]
        by_cases h4 : y.toInt ≤ m - x.toInt
        · rw [if_pos (e4.mpr h4), if_pos (by omega)]
        · rw [if_neg (fun z => h4 (e4.mp z)), if_neg (by omega)]
def nw (l : Nat) (x : Int32) : Int32 := if l = 0 then Int8.toInt32 (Int32.toInt8 x) else if l = 1 then Int16.toInt32 (Int32.toInt16 x) else x
theorem m_narrow (hp : kw_H) {l : Nat} (hl : l ≤ 2) (x : Int32) : X12_narrow_F hp x (nI l) = some (nw l x) := by
  unfold X12_narrow_F nw
  simp (disch := omega) only [q_eq0, q_eq]
  split
  · rfl
  · split <;> rfl
theorem c_put {hp : kw_H} {ks ka : Nat → Nat → Int32} {kl : Nat → Nat → Int64} {kr : Nat → Nat → Option Nat} (h : CV hp ks ka kl kr) {k m l i : Nat} (hk : k < 8) (hm : m ≤ 40) (hs : ka 12 k = nI m) (hl : l ≤ 2) (hla : ka 11 k = nI l) (hi : i < m) (x : Int32) : X6_put_F hp 1 (nI k) (nI i) x = some (nw l x, hp.set (3 + k) (.inl (0, 40, .inl (upd (ka (3 + k)) i (nw l x))))) := by
  have ei : (nI i).toInt = i := by rw [eI_n, eI_toInt (by omega) (by omega)]
  have e1 : (nI 1).toInt = 1 := rfl
  have eJ : ∀ s, X6_put_J42 hp 1 (nI k) (nI i) s = some (s, hp.set (3 + k) (.inl (0, 40, .inl (upd (ka (3 + k)) i s)))) := fun s => by
    unfold X6_put_J42
    simp only [c1_r0 h, Option.bind_some, c_ldR h hk, kp_nu, st_at (cv_row h hk) (show 40 ≤ 2147483648 by decide) (show i < 40 by omega)]
  have ef : X6_findingAt_F hp 1 (nI k) (nI i) (nI 1) = some (nI 0) := by
    rw [c_fat h hk hm hs, ei, e1, if_pos (by omega)]
  unfold X6_put_F
  simp only [c1_ob h, Option.bind_some, ef]
  rw [if_pos e00]
  simp only [c1_r1 h, Option.bind_some, ld_at (cv11 h) (show 8 ≤ 2147483648 by decide) hk, hla, eJ]
  simp (disch := omega) only [q_eq0, q_eq]
  unfold nw
  split
  · rfl
  · split <;> rfl
theorem ag_set : lx_ag_set Inv := by
  intro j hp h hj a1 a2 a3
  have hM0 := Inv_M h
  have hS := Inv_S _ _ h
  obtain ⟨ks, ka, kl, kr, sc, ar, T, n, o, A, h⟩ := h
  unfold X11_set_F X12_set_F
  rcases row_sp a1 with ⟨k, hk, rfl, r1, r2⟩ | ⟨r1, r2⟩
  case inr =>
    exact ⟨-1000001, hp, hp, by rw [r1, Option.bind_some, if_pos e00], hM0, by rw [r2, Option.bind_some, if_pos e00], hS⟩
  simp only [r1, r2, Option.bind_some, if_neg e10, c0_r0 h.1, c1_ob h.1]
  obtain ⟨q1, q2, q3, ⟨l, hl, q4⟩, q5⟩ := h.2.2.2.1 k hk
  rcases q3 with hm | ⟨m, hm, hs⟩
  · have ef : X6_findingAt_F hp 1 (nI k) a2 (nI 1) = some (nI 1) := by
      unfold X6_findingAt_F
      simp only [c1_ob h.1, Option.bind_some, c_miss h.1 hk, hm, if_true, if_neg e10]
    obtain ⟨hp1, e1, e2, e3, e4⟩ := k_fin h.1 (nI 1)
    obtain ⟨C, P, hC, rfl⟩ := MV_ex (MV_f h.2.1 (fun q hq => e4 q (by omega)))
    refine ⟨_, _, _, by rw [ef, Option.bind_some, if_neg e10, c0_ob h.1, Option.bind_some, e1]; rfl, hM_38 hC, ?_, IV_find h hC e2 e3 e4⟩
    rw [m_r5 hC, Option.bind_some, m_ld3 hC hk, Option.bind_some, q1, hm, if_neg (by decide), m_ob hC, Option.bind_some, m_find hC]
    rfl
  · have e1 : (nI 1).toInt = 1 := rfl
    have em : nI m - nI 1 = eI ((m : Int) - 1) := by rw [eI_n, eI_n, eI_sub]; rfl
    have e20 : ¬ (nI 2 = (0 : Int32)) := by decide
    by_cases g : 0 ≤ a2.toInt ∧ a2.toInt < m
    · obtain ⟨i, hi, rfl⟩ : ∃ i, i < m ∧ a2 = nI i := ⟨a2.toInt.toNat, by omega, by rw [eI_n, Int.toNat_of_nonneg g.1]; exact eI_of a2⟩
      have ef : X6_findingAt_F hp 1 (nI k) (nI i) (nI 1) = some (nI 0) := by
        rw [c_fat h.1 hk hm hs, e1, if_pos (by omega)]
      rw [ef, Option.bind_some, if_pos e00]
      have b1 := CV_row h.1 hk (upd (ka (3 + k)) i (nw l a3))
      obtain ⟨hp3, f1, f2, f3, f4⟩ := k_unf b1 (nw l a3)
      have hfr : ∀ q, (20 ≤ q ∧ q < 25) ∨ 38 ≤ q → hp3[q]? = hp[q]? := fun q hq => by
        rw [f4 q (by omega), List.getElem?_set_ne (by omega)]
      obtain ⟨C, P, hC, rfl⟩ := MV_ex (MV_f h.2.1 (fun q hq => hfr q (Or.inr hq)))
      refine ⟨nw l a3, hM C sc ar P, _, ?_, hM_38 hC, ?_, ⟨_, _, _, _, _, _, _, _, _, _, IV_X h hC f2 (by rw [f3, List.length_set]) hfr rfl rfl h.2.2.2.2.2.2.2.2.2.2.2 rfl rfl (sc' := upd sc 10 (nI 0)) (ar' := va_up ar 4 (upd (ar 4) (40 * k + i) (nw l a3))) ?_ ?_ ?_ ?_ (fun _ _ => rfl) (fun _ _ => rfl) rfl rfl⟩⟩
      · simp only [c_put h.1 hk hm hs hl q4 hi, Option.bind_some, c0_ob b1, f1]
      · have hw : X11_within_F (hM C sc ar P) (nI i) (nI 0) (nI m - nI 1) = some (nI 1) := by
          rw [em, w_int _ _ (by decide) (by omega) (by omega), if_pos (by omega)]
        simp only [m_r5 hC, Option.bind_some, m_ld3 hC hk, q1, hs, if_pos (nI_pos' (show m < 2147483648 by omega)), l_n 0 (by decide), l_in, hw, if_neg e10, m_r6 hC, m_r4 hC, m_ld2 hC hk, q2, q4, m_narrow _ hl, q_mul, nI_add, m_st4 hC (show 40 * k + i < 320 by omega), m_ld4 hC (show 40 * k + i < 320 by omega), m_ob hC, m_well hC, up_at]
        rw [show upd (ar 4) (40 * k + i) (nw l a3) (40 * k + i) = nw l a3 from if_pos rfl]
      · refine I_rows_of h.2.2.2.1 hk _ _ (fun t ht => ?_) (fun t ht hh => if_neg (by omega))
        unfold upd
        by_cases e : t = i
        · rw [if_pos e, if_pos (by omega)]
        · rw [if_neg e, if_neg (by omega)]
          exact q5 t ht
      · obtain ⟨a, z1, z2, z3, z4⟩ := h.2.2.2.2.1
        refine ⟨a, z1, z2, z3, fun t ht => ?_⟩
        rw [up_ne _ _ (by omega), up_ne _ _ (by omega)]
        exact z4 t ht
      · exact ⟨h.2.2.2.2.2.1.1, rfl⟩
      · obtain ⟨⟨a, z1, z2, z3, z4⟩, y1, y2, y3, y4⟩ := h.2.2.2.2.2.2.1
        refine ⟨⟨a, z1, z2, z3, fun t ht => ?_⟩, y1, y2, y3, fun t ht => ?_⟩
        · rw [up_ne _ _ (by omega), up_ne _ _ (by omega)]
          exact z4 t ht
        · rw [up_ne _ _ (by omega)]
          exact y4 t ht
    · have ef : X6_findingAt_F hp 1 (nI k) a2 (nI 1) = some (nI 2) := by
        rw [c_fat h.1 hk hm hs, e1, if_neg (by omega)]
      rw [ef, Option.bind_some, if_neg e20]
      obtain ⟨hp1, e1, e2, e3, e4⟩ := k_fin h.1 (nI 2)
      obtain ⟨C, P, hC, rfl⟩ := MV_ex (MV_f h.2.1 (fun q hq => e4 q (by omega)))
      have hw : X11_within_F (hM C sc ar P) a2 (nI 0) (nI m - nI 1) = some (nI 0) := by
        rw [em, w_int _ _ (by decide) (by omega) (by omega), if_neg (by omega)]
      refine ⟨_, _, _, by rw [c0_ob h.1, Option.bind_some, e1]; rfl, hM_38 hC, ?_, IV_find h hC e2 e3 e4⟩
      simp only [m_r5 hC, Option.bind_some, m_ld3 hC hk, q1, hs, if_pos (nI_pos' (show m < 2147483648 by omega)), l_n 0 (by decide), l_in, hw, if_pos e00, m_ob hC, m_find hC]
theorem ag_feed : lx_ag_feed Inv := by
  intro j hp h hj a1
  have hM0 := Inv_M h
  have hS := Inv_S _ _ h
  obtain ⟨ks, ka, kl, kr, sc, ar, T, n, o, A, h⟩ := h
  obtain ⟨m, t1, t2, t3, t4⟩ := h.2.2.2.2.1
  unfold X11_feed_F X12_feed_F X8_take_F
  simp only [l_n 0 (by decide), l_n 255 (by decide), l_in]
  rcases w_spN a1 (a := 0) (b := 255) (by decide) (by decide) with ⟨c, rfl, -, hc, w1⟩ | w1
  case inr =>
    exact ⟨-1000001, hp, hp, by rw [w1, Option.bind_some, if_pos e00], hM0, by rw [w1, Option.bind_some, if_pos e00], hS⟩
  simp only [w1, Option.bind_some, if_neg e10, c0_r1 h.1, c13_ob h.1, c13_g1 h.1, t2, if_neg (nI_pos (show m < 2147483648 by omega))]
  simp (disch := omega) only [q_lt]
  by_cases g : m < 80
  · rw [if_pos g]
    obtain ⟨hp1, e1, e2, e3, e4⟩ := c14_st h.1 g (nI c)
    obtain ⟨hp2, f1, f2, f3, f4⟩ := c13_p1 e2 (nI m + nI 1)
    have hfr : ∀ q, (20 ≤ q ∧ q < 25) ∨ 38 ≤ q → hp2[q]? = hp[q]? := fun q hq => by
      rw [f4 q (by omega), e4 q (by omega)]
    obtain ⟨C, P, hC, rfl⟩ := MV_ex (MV_f h.2.1 (fun q hq => hfr q (Or.inr hq)))
    refine ⟨nI m + nI 1, hM C sc ar P, _, ?_, hM_38 hC, ?_, ⟨_, _, _, _, _, _, _, _, _, _, IV_X h hC f2 (f3.trans e3) hfr rfl rfl h.2.2.2.2.2.2.2.2.2.2.2 rfl rfl (sc' := upd sc 8 (nI m + nI 1)) (ar' := va_up ar 5 (upd (ar 5) m (nI c))) ?_ ?_ ?_ ?_ (fun _ _ => rfl) (fun _ _ => rfl) rfl rfl⟩⟩
    · simp only [c13_r0 h.1, Option.bind_some, e1, c13_g1 e2, t2, f1, if_neg e10, c0_r1 f2, c13_g1 f2]
      rfl
    · have e80 : ¬ (nI m = nI 80) := fun z => by
        have := (q_eq (show m < 2147483648 by omega) (by decide)).mp z
        omega
      simp only [m_g8 hC, Option.bind_some, t3, if_neg e80, m_r7 hC, m_st5 hC g, m_p8 hC]
      rfl
    · intro r hr
      obtain ⟨z1, z2, z3, z4, z5⟩ := h.2.2.2.1 r hr
      rw [up_ne ka _ (by omega), up_ne ka _ (by omega), up_ne ka _ (by omega)]
      exact ⟨z1, z2, z3, z4, z5⟩
    · refine ⟨m + 1, by omega, ?_, ?_, fun k hk => ?_⟩
      · show nI m + nI 1 = _
        rw [nI_add]
      · show nI m + nI 1 = _
        rw [nI_add]
      · rw [up_at, up_at]
        unfold upd
        by_cases e : k = m
        · rw [if_pos e, if_pos e]
          exact ⟨rfl, c, by omega, rfl⟩
        · rw [if_neg e, if_neg e]
          exact t4 k (by omega)
    · exact h.2.2.2.2.2.1
    · exact h.2.2.2.2.2.2.1
  · rw [if_neg g]
    have : m = 80 := by omega
    subst this
    obtain ⟨C, P, hC, rfl⟩ := MV_ex h.2.1
    exact ⟨-1000003, _, _, by rw [Option.bind_some, if_pos e00], hM0, by simp only [m_g8 hC, Option.bind_some, t3, if_true], hS⟩
