/-! ===== often ===== -/
theorem q_sub (a b : Nat) : nI (a + b) - nI a = nI b := by
  rw [eI_n (a + b), eI_n a, eI_n b, eI_sub, Int.natCast_add]
  congr 1
  omega
theorem q_ct_cg {p p' : Nat → Bool} : ∀ n, (∀ s, s < n → p s = p' s) → q_ct p n = q_ct p' n
  | 0, _ => rfl
  | n + 1, h => by
    unfold q_ct
    rw [q_ct_cg n (fun s hs => h s (by omega)), h n (by omega)]
def tAw (T : Tw) (n : Nat) : Nat := if n = 0 then T 5 else 0
def tTot (T : Tw) (p q : Nat) : Nat → Nat := q_sm (fun w => q_ct (tQ T (tBn T w) (tAw T w) p q) (T 0))
theorem tWn_30 {T : Tw} (hT : tOk T) {p q : Nat} (hp6 : p < 6) (hq6 : q < 6) : ∀ n, tWn T n (30 + (6 * p + q)) = T (30 + (6 * p + q)) + tTot T p q n
  | 0 => rfl
  | n + 1 => by
    obtain ⟨h0, -⟩ := id hT
    have hcg : ∀ k, k < 30 → k ≠ 3 → k ≠ 4 → k ≠ 5 → tWn T n k = T k := fun k a b c d => tWn_c a b c d n
    show tP (tWn T n) (tFar (tWn T n)) (30 + (6 * p + q)) = T (30 + (6 * p + q)) + (tTot T p q n + q_ct (tQ T (tBn T n) (tAw T n) p q) (T 0))
    unfold tP
    rw [if_neg (by omega), if_neg (by omega), if_neg (by omega), if_pos (by omega), tWn_30 hT hp6 hq6 n, tWn_4 hT, tWn_5, hcg 0 (by omega) (by omega) (by omega) (by omega), show 30 + (6 * p + q) - 30 = 6 * p + q by omega, Nat.add_assoc]
    congr 2
    refine q_ct_cg _ (fun s hs => ?_)
    unfold tc tQ
    rw [tD_cg hT hcg (by omega), tJ_cg hT hcg (by omega)]
    show decide (tD T s (tBn T n) (tAw T n) ≠ 6 ∧ 6 * tD T s (tBn T n) (tAw T n) + tJ T s (tBn T n) = 6 * p + q) = _
    have z1 := tD_le hT (s := s) (t := tBn T n) (g := tAw T n)
    have z2 := tJ_le hT (s := s) (t := tBn T n)
    rw [decide_eq_decide]
    constructor
    · rintro ⟨y1, y2⟩
      have z3 := tD_job y1
      omega
    · rintro ⟨y1, y2⟩
      omega
theorem c_timesIn {hp : kw_H} {v nm jb tm : Nat → Int32} {tu : Nat → Option Nat} {T : Tw} (k1 : KC hp 20 v nm jb tu tm) (k2 : KV v nm jb tm T) (k3 : TU hp tu T) (hT : tReal T) {p q w : Nat} (hp6 : p < 6) (hq6 : q < 6) (hw : w ≤ 60) : X1_timesIn_F hp 25 20 (nI p) (nI q) (nI w) = some (nI (tTot T p q w)) := by
  have h999 := hT.2
  have h5 := hT.1.2.2.2.2.2.1
  have h18 := hT.1.2.1
  have h08 := hT.1.1
  unfold X1_timesIn_F
  rw [kc_g8 k1, Option.bind_some, k2.1 4 (by omega)]
  refine lp_for (fun i => (nI (tTot T p q i), nI (tBn T i), nI i)) w _ (fun i hi => ?_) ?_ 2000 (by omega)
  · have hbn := tBn_lt hT.1 i
    have haw : tAw T i < 64 := by unfold tAw; split <;> omega
    show X1_timesIn_b12 _ _ _ _ _ _ _ _ = _
    unfold X1_timesIn_b12
    rw [if_neg (fun z => by have := (q_le (show w < 2147483648 by omega) (show i < 2147483648 by omega)).mp z; omega)]
    refine lp_for (fun s => (nI (tTot T p q i + q_ct (tQ T (tBn T i) (tAw T i) p q) s), nI s)) (T 0) _ (fun s hs => ?_) ?_ 2000 (by omega)
    · have z1 := tD_le hT.1 (s := s) (t := tBn T i) (g := tAw T i)
      have z2 := tJ_le hT.1 (s := s) (t := tBn T i)
      have ea : X2_awayBehind_F hp 20 (nI i) = some (nI (tAw T i)) := c_awayBehind k1 k2 (by omega)
      show X1_timesIn_b22 _ _ _ _ _ _ _ _ _ = some (Sum.inl (nI (tTot T p q i + (q_ct (tQ T (tBn T i) (tAw T i) p q) s + (if tQ T (tBn T i) (tAw T i) p q s = true then 1 else 0))), nI (s + 1)))
      unfold X1_timesIn_b22 X1_timesIn_J48 X1_timesIn_J76
      simp (disch := omega) only [kc_g4 k1, k2.1 0 (show 0 < 6 by omega), Option.bind_some, q_le, kc_ob k1, c_jobHad k1 k2 hT.1 hs (show tBn T i ≤ 1000 by omega), q_eq, ea, c_doerIn k1 k2 hT.1 hs (show tBn T i ≤ 1000 by omega) haw, nI_add]
      rw [if_neg (show ¬ T 0 ≤ s by omega)]
      unfold tQ
      by_cases w1 : tJ T s (tBn T i) = q
      · rw [if_pos w1, if_neg e10]
        by_cases w2 : tD T s (tBn T i) (tAw T i) = p
        · rw [if_pos w2, if_pos (decide_eq_true ⟨w2, w1⟩)]
          rfl
        · rw [if_neg w2, if_neg (fun z => w2 (of_decide_eq_true z).1)]
          rfl
      · rw [if_neg w1, if_pos e00, if_neg (fun z => w1 (of_decide_eq_true z).2)]
        rfl
    · show X1_timesIn_b22 _ _ _ _ _ _ _ _ _ = _
      unfold X1_timesIn_b22
      simp (disch := omega) only [kc_g4 k1, k2.1 0 (show 0 < 6 by omega), Option.bind_some, q_le]
      rw [if_pos (Nat.le_refl _)]
      unfold X1_timesIn_J82
      simp only [kc_g7 k1, k2.1 3 (show 3 < 6 by omega), Option.bind_some, kc_ob k1, nI_add, c_turnedNext k1 k2 hT.1 k3 (show tBn T i ≤ 1000 by omega) (show T 3 + i ≤ 2000 by omega)]
      rfl
  · show X1_timesIn_b12 _ _ _ _ _ _ _ _ = _
    unfold X1_timesIn_b12
    rw [if_pos ((q_le (by omega) (by omega)).mpr (Nat.le_refl _))]
    rfl
theorem ag_often : lx_ag_often Inv := by
  intro j hp h hj a1 a2 a3
  have hM0 := Inv_M h
  have hS := Inv_S _ _ h
  obtain ⟨ks, ka, kl, kr, sc, ar, T, n, o, A, h⟩ := h
  obtain ⟨C, P, hC, rfl⟩ := MV_ex h.2.1
  have hth := IV_there h
  obtain ⟨⟨v, nm, jb, tu, tm, k1, k2, k3, k4⟩, hA, -⟩ := h.2.2.2.2.2.2.2.1
  unfold X11_often_F X12_often_F
  simp only [c0_r2 h.1, c0_r3 h.1, c25_ob h.1, Option.bind_some, kc_ob k1, m_g1 hC, l_n 0 (by decide), l_n 60 (by decide), l_in]
  rcases hth with ⟨hT, s1, e1⟩ | ⟨-, s1, e1⟩
  case inr => exact ⟨-1000002, _, by rw [e1, Option.bind_some, if_pos e00], hM0, by rw [s1, if_pos e00], hS⟩
  simp only [e1, s1, Option.bind_some, if_neg e10]
  rcases six_sp a1 with ⟨p, hp1, rfl, b1, -, b3⟩ | ⟨b1, -, b3⟩
  case inr => exact ⟨-1000001, _, by rw [b1, Option.bind_some, if_pos e00], hM0, by rw [b3, Option.bind_some, if_pos e00], hS⟩
  simp only [b1, b3, Option.bind_some, if_neg e10]
  rcases six_sp a2 with ⟨q, hq1, rfl, -, b1, b3⟩ | ⟨-, b1, b3⟩
  case inr => exact ⟨-1000001, _, by rw [b1, Option.bind_some, if_pos e00], hM0, by rw [b3, Option.bind_some, if_pos e00], hS⟩
  simp only [b1, b3, Option.bind_some, if_neg e10]
  rcases w_spN a3 (a := 0) (b := 60) (by decide) (by decide) with ⟨w, rfl, -, hw, w1⟩ | w1
  case inr => exact ⟨-1000001, _, by rw [w1, Option.bind_some, if_pos e00], hM0, by rw [w1, Option.bind_some, if_pos e00], hS⟩
  have h999 := hT.2
  obtain ⟨f', c1, c2, c3⟩ := m_layTried (C := C) (P := P) (sc := sc) (ar := ar) hC hA hT.1 (n := w) (by omega) (by omega)
  rw [← hR_self] at c1
  have z1 := c2 (30 + (6 * p + q)) (by omega)
  rw [tWn_30 hT.1 hp1 hq1, show 1782 + (30 + (6 * p + q)) = 1812 + 6 * p + q by omega] at z1
  have z2 := tA0 hA (show 30 + (6 * p + q) < 66 by omega)
  rw [← c3 _ (by omega), show 30 + (6 * p + q) = 30 + 6 * p + q by omega] at z2
  rw [show 30 + (6 * p + q) = 30 + 6 * p + q by omega] at z1
  refine ⟨nI (tTot T p q w), hR C sc ar P f', ?_, hM0, ?_, IV_tried hC h c3⟩
  · simp only [w1, Option.bind_some, if_neg e10, c_timesIn k1 k2 k3 hT hp1 hq1 hw]
  · simp only [w1, Option.bind_some, if_neg e10, m_ob hC, c1, r_r0 hC, q_mul, nI_add, r_ld hC (show 1812 + 6 * p + q < 1848 by omega), r_ld hC (show 30 + 6 * p + q < 1848 by omega), z1, z2]
    rw [q_sub]
