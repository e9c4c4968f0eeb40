/-! ===== calls that read the kitchen: done, slot, kind, turner ===== -/
theorem six_sp (x : Int32) : (∃ p, p < 6 ∧ x = nI p ∧ (∀ hp, X11_isPerson_F hp x = some (nI 1)) ∧ (∀ hp, X11_isJob_F hp x = some (nI 1)) ∧ ∀ hp, X12_isSix_F hp x = some (nI 1)) ∨ ((∀ hp, X11_isPerson_F hp x = some (nI 0)) ∧ (∀ hp, X11_isJob_F hp x = some (nI 0)) ∧ ∀ hp, X12_isSix_F hp x = some (nI 0)) := by
  unfold X11_isPerson_F X11_isJob_F X12_isSix_F
  simp only [l_n 0 (by decide), l_n 5 (by decide), l_in]
  rcases w_spN x (a := 0) (b := 5) (by decide) (by decide) with ⟨k, h1, h2, h3, h4⟩ | h
  · left
    exact ⟨k, by omega, h1, fun hp => by rw [h4 hp]; rfl, fun hp => by rw [h4 hp]; rfl, fun hp => by rw [h4 hp]; rfl⟩
  · right
    exact ⟨fun hp => by rw [h hp]; rfl, fun hp => by rw [h hp]; rfl, fun hp => by rw [h hp]; rfl⟩
/-- the kitchen that is there, or none -/
theorem IV_there {j : Nat} {hp : kw_H} {ks ka : Nat → Nat → Int32} {kl : Nat → Nat → Int64} {kr : Nat → Nat → Option Nat} {sc : Nat → Int32} {ar : Nat → Nat → Int32} {T : Tw} {n o : Nat} {A : Nat → Tw} (h : IV j hp ks ka kl kr sc ar T n o A) :
    (tReal T ∧ sc 1 = nI 1 ∧ X2_isThere_F hp 20 = some (nI 1)) ∨ (T = (fun _ => 0) ∧ sc 1 = nI 0 ∧ X2_isThere_F hp 20 = some (nI 0)) := by
  obtain ⟨⟨v, nm, jb, tu, tm, k1, k2, k3, k4⟩, tA, ts⟩ := h.2.2.2.2.2.2.2.1
  rcases ts with ⟨hT, s1⟩ | ⟨rfl, s1⟩
  · left
    have := hT.1.1
    refine ⟨hT, s1, ?_⟩
    rw [c_isThere k1 (k2.1 0 (by omega)) (by omega), if_neg (by omega)]
  · right
    exact ⟨rfl, s1, by rw [c_isThere k1 (k2.1 0 (by omega)) (Nat.zero_le 8)]; rfl⟩
theorem tA0 {f : Nat → Int32} {T : Tw} (h : tA f 0 T) {k : Nat} (hk : k < 66) : f k = nI (T k) := by
  have := h k hk
  rwa [Nat.zero_add] at this
theorem ag_done : lx_ag_done Inv := by
  intro j hp h hj a1 a2
  have hM0 := Inv_M h
  have hS := Inv_S _ _ h
  obtain ⟨ks, ka, kl, kr, sc, ar, T, n, o, A, h⟩ := h
  obtain ⟨C, P, hC, rfl⟩ := MV_ex h.2.1
  have hth := IV_there h
  obtain ⟨⟨v, nm, jb, tu, tm, k1, k2, k3, k4⟩, hA, -⟩ := h.2.2.2.2.2.2.2.1
  unfold X11_done_F X12_done_F
  simp only [c0_r2 h.1, Option.bind_some, kc_ob k1, m_g1 hC]
  rcases hth with ⟨hT, s1, e1⟩ | ⟨-, s1, e1⟩
  case inr => exact ⟨-1000002, by rw [e1, Option.bind_some, if_pos e00], hM0, by rw [s1, if_pos e00], hS⟩
  simp only [e1, s1, Option.bind_some, if_neg e10]
  rcases six_sp a1 with ⟨p, hp1, rfl, b1, -, b2⟩ | ⟨b1, -, b2⟩
  case inr => exact ⟨-1000001, by rw [b1, Option.bind_some, if_pos e00], hM0, by rw [b2, Option.bind_some, if_pos e00], hS⟩
  simp only [b1, b2, Option.bind_some, if_neg e10]
  rcases six_sp a2 with ⟨q, hq1, rfl, -, b1, b2⟩ | ⟨-, b1, b2⟩
  case inr => exact ⟨-1000001, by rw [b1, Option.bind_some, if_pos e00], hM0, by rw [b2, Option.bind_some, if_pos e00], hS⟩
  simp only [b1, b2, Option.bind_some, if_neg e10, kc_r3 k1, q_mul, nI_add, kc_tm k1 (show p * 6 + q < 36 by omega), m_r0 hC, m_ld0 hC (show 30 + 6 * p + q < 1848 by omega)]
  refine ⟨_, rfl, hM0, ?_, hS⟩
  rw [k2.2.2.2 _ (by omega), tA0 hA (by omega), show 30 + 6 * p + q = 30 + (p * 6 + q) by omega]
theorem ag_slot : lx_ag_slot Inv := by
  intro j hp h hj a1 a2
  have hM0 := Inv_M h
  have hS := Inv_S _ _ h
  obtain ⟨ks, ka, kl, kr, sc, ar, T, n, o, A, h⟩ := h
  obtain ⟨C, P, hC, rfl⟩ := MV_ex h.2.1
  have hth := IV_there h
  obtain ⟨⟨v, nm, jb, tu, tm, k1, k2, k3, k4⟩, hA, -⟩ := h.2.2.2.2.2.2.2.1
  unfold X11_slot_F X12_slot_F
  simp only [c0_r2 h.1, Option.bind_some, kc_ob k1, m_g1 hC, l_n 0 (by decide), l_n 7 (by decide), l_n 2 (by decide), l_in]
  rcases hth with ⟨hT, s1, e1⟩ | ⟨-, s1, e1⟩
  case inr => exact ⟨-1000002, by rw [e1, Option.bind_some, if_pos e00], hM0, by rw [s1, if_pos e00], hS⟩
  simp only [e1, s1, Option.bind_some, if_neg e10]
  rcases w_spN a1 (a := 0) (b := 7) (by decide) (by decide) with ⟨s, rfl, -, hs, b1⟩ | b1
  case inr => exact ⟨-1000001, by rw [b1, Option.bind_some, if_pos e00], hM0, by rw [b1, Option.bind_some, if_pos e00], hS⟩
  simp only [b1, Option.bind_some, if_neg e10]
  rcases w_spN a2 (a := 0) (b := 2) (by decide) (by decide) with ⟨c, rfl, -, hc, b1⟩ | b1
  case inr => exact ⟨-1000001, by rw [b1, Option.bind_some, if_pos e00], hM0, by rw [b1, Option.bind_some, if_pos e00], hS⟩
  obtain ⟨⟨g0, g0'⟩, ⟨g1, g1'⟩, g2, g3, g4, -⟩ := id hT.1
  simp only [b1, Option.bind_some, if_neg e10, kc_g5 k1, kc_g4 k1, k2.1 0 (by omega), k2.1 1 (by omega), m_r0 hC]
  rcases (show c = 0 ∨ c = 1 ∨ c = 2 by omega) with rfl | rfl | rfl
  · rw [if_neg (by decide), if_neg (by decide)]
    unfold X11_slot_J58 X12_slot_J52
    simp only [m_ld0 hC (show 0 < 1848 by omega), tA0 hA (show 0 < 66 by omega), Option.bind_some]
    simp (disch := omega) only [q_lt, q_le]
    by_cases e : s < T 0
    · rw [if_pos e, if_neg (show ¬ T 0 ≤ s by omega)]
      refine ⟨nI (T (6 + s)), ?_, hM0, ?_, hS⟩
      · simp only [if_true, c0_r2 h.1, Option.bind_some, kc_r0 k1, kc_nm k1 (show s < 8 by omega), k2.2.1 s e]
      · unfold X12_slot_J61
        rw [if_neg e10, if_neg (by decide), if_pos e00, m_r0 hC, Option.bind_some, nI_add, m_ld0 hC (by omega), tA0 hA (by omega)]
        rfl
    · rw [if_neg e, if_pos (show T 0 ≤ s by omega)]
      exact ⟨_, rfl, hM0, by unfold X12_slot_J61; rw [if_pos e00], hS⟩
  · rw [if_pos rfl, if_pos rfl]
    unfold X11_slot_J58 X12_slot_J52
    simp only [m_ld0 hC (show 1 < 1848 by omega), tA0 hA (show 1 < 66 by omega), Option.bind_some]
    simp (disch := omega) only [q_lt, q_le]
    by_cases e : s < T 1
    · rw [if_pos e, if_neg (show ¬ T 1 ≤ s by omega)]
      refine ⟨nI (T (14 + s)), ?_, hM0, ?_, hS⟩
      · rw [if_neg (by decide), if_pos trivial]
        simp only [c0_r2 h.1, Option.bind_some, kc_r1 k1, kc_jb k1 (show s < 8 by omega), k2.2.2.1 s e]
      · unfold X12_slot_J61
        rw [if_neg e10, if_neg (by decide), if_neg (by decide), m_r0 hC, Option.bind_some, nI_add, m_ld0 hC (by omega), tA0 hA (by omega)]
        rfl
    · rw [if_neg e, if_pos (show T 1 ≤ s by omega)]
      exact ⟨_, rfl, hM0, by unfold X12_slot_J61; rw [if_pos e00], hS⟩
  · rw [if_neg (by decide), if_neg (by decide)]
    unfold X11_slot_J58 X12_slot_J52
    simp only [m_ld0 hC (show 0 < 1848 by omega), tA0 hA (show 0 < 66 by omega), Option.bind_some]
    simp (disch := omega) only [q_lt, q_le]
    by_cases e : s < T 0
    · rw [if_pos e, if_neg (show ¬ T 0 ≤ s by omega)]
      have ej := m_jobOf (sc := sc) (ar := ar) (P := P) (f := ar 0) hC (b := 0) (by omega) hA.tL hT.1 e
      rw [← hR_self] at ej
      have hj6 := tJ_le hT.1 (s := s) (t := T 4)
      refine ⟨nI (tJ T s (T 4)), ?_, hM0, ?_, hS⟩
      · rw [if_neg (by decide), if_neg (by decide)]
        simp only [c0_r2 h.1, Option.bind_some, kc_g8 k1, k2.1 4 (by omega), kc_ob k1, c_jobHad k1 k2 hT.1 e (show T 4 ≤ 1000 by omega)]
      · unfold X12_slot_J61
        rw [if_neg e10, if_pos (by decide), m_ob hC]
        simp only [Option.bind_some, ej]
        by_cases e6 : tJ T s (T 4) = 6
        · simp only [e6, if_true]
        · simp only [if_neg e6]
          rw [if_neg (fun z => (q_none (by omega)).mp z)]
    · rw [if_neg e, if_pos (show T 0 ≤ s by omega)]
      exact ⟨_, rfl, hM0, by unfold X12_slot_J61; rw [if_pos e00], hS⟩
/-- the turner that stands at a place, or none -/
theorem turn_sp {C P : kw_H} {sc : Nat → Int32} {ar : Nat → Nat → Int32} {T : Tw} {v nm jb tm : Nat → Int32} {tu : Nat → Option Nat} (hC : C.length = 38) (k1 : KC (hM C sc ar P) 20 v nm jb tu tm) (k2 : KV v nm jb tm T) (k3 : TU (hM C sc ar P) tu T) (hA : tA (ar 0) 0 T) (hT : tReal T ∨ T = (fun _ => 0)) (x : Int32) :
    (∃ k a, x = nI k ∧ k < T 2 ∧ tReal T ∧ X2_turnerAt_F (hM C sc ar P) 20 x = some (some a) ∧ (hM C sc ar P)[a]? = some (.inr (kcn (T (22 + k)), [.int (nI k), .int (nI (T (26 + k)))])) ∧ X12_isTurner_F (hM C sc ar P) 38 x = some (nI 1)) ∨ (X2_turnerAt_F (hM C sc ar P) 20 x = some none ∧ X12_isTurner_F (hM C sc ar P) 38 x = some (nI 0)) := by
  have h2 : T 2 ≤ 4 := by
    rcases hT with hT | hT
    · exact hT.1.2.2.1.2
    · rw [hT]; exact Nat.zero_le 4
  have ei : X12_isTurner_F (hM C sc ar P) 38 x = (X11_within_F (hM C sc ar P) x (nI 0) (nI (T 2) - nI 1)).bind fun r3 => (kp_bool r3).bind fun v4 => some v4 := by
    unfold X12_isTurner_F
    simp only [m_r0 hC, Option.bind_some, m_ld0 hC (show 2 < 1848 by omega), tA0 hA (show 2 < 66 by omega), l_n 0 (by decide), l_in]
  have em : nI (T 2) - nI 1 = eI ((T 2 : Int) - 1) := by rw [eI_n, eI_n, eI_sub]; rfl
  rw [ei, em, w_int _ _ (by decide) (by omega) (by omega)]
  by_cases g : 0 ≤ x.toInt ∧ x.toInt < T 2
  · left
    have hT' : tReal T := hT.resolve_right (fun z => by
      have z2 : T 2 = 0 := by rw [z]
      omega)
    obtain ⟨k, hk, rfl⟩ : ∃ i, i < T 2 ∧ x = nI i := ⟨x.toInt.toNat, by omega, by rw [eI_n, Int.toNat_of_nonneg g.1]; exact eI_of x⟩
    obtain ⟨a, c1, c2⟩ := c_turnerAt k1 k2 hT'.1 hk k3
    exact ⟨k, a, rfl, hk, hT', c1, c2, by rw [if_pos (by omega)]; rfl⟩
  · right
    refine ⟨?_, by rw [if_neg (by omega)]; rfl⟩
    have e1 : x < 0 ↔ x.toInt < 0 := Int32.lt_iff_toInt_lt
    have e3 : nI (T 2) ≤ x ↔ (T 2 : Int) ≤ x.toInt := by rw [Int32.le_iff_toInt_le, eI_n, eI_toInt (by omega) (by omega)]
    unfold X2_turnerAt_F
    by_cases h1 : x.toInt < 0
    · rw [if_pos (e1.mpr h1)]
    · rw [if_neg (fun z => h1 (e1.mp z)), kc_g6 k1, Option.bind_some, k2.1 2 (by omega), if_pos (e3.mpr (by omega))]
theorem ag_kind : lx_ag_kind Inv := by
  intro j hp h hj a1
  have hM0 := Inv_M h
  have hS := Inv_S _ _ h
  obtain ⟨ks, ka, kl, kr, sc, ar, T, n, o, A, h⟩ := h
  obtain ⟨C, P, hC, rfl⟩ := MV_ex h.2.1
  obtain ⟨⟨v, nm, jb, tu, tm, k1, k2, k3, k4⟩, hA, hT⟩ := h.2.2.2.2.2.2.2.1
  unfold X11_kind_F X12_kind_F
  simp only [c0_r2 h.1, Option.bind_some, kc_ob k1, m_ob hC]
  rcases turn_sp hC k1 k2 k3 hA (hT.imp (·.1) (·.1)) a1 with ⟨k, a, rfl, hk, hR, b1, b2, b3⟩ | ⟨b1, b3⟩
  · obtain ⟨-, -, ⟨-, g2⟩, -, -, -, -, -, g8, -⟩ := id hR.1
    have g := g8 k hk
    simp only [b1, b3, Option.bind_some, if_neg e10, kp_nu, m_r0 hC, nI_add, m_ld0 hC (show 22 + k < 1848 by omega), tA0 hA (show 22 + k < 66 by omega)]
    refine ⟨nI (T (22 + k)), ?_, hM0, rfl, hS⟩
    unfold X11_kind_D19_f
    rw [kp_ci_of b2, Option.bind_some]
    rcases (show T (22 + k) = 1 ∨ T (22 + k) = 2 ∨ T (22 + k) = 3 ∨ T (22 + k) = 4 ∨ T (22 + k) = 5 by omega) with e | e | e | e | e <;> rw [e] <;> rfl
  · exact ⟨-1000001, by rw [b1]; rfl, hM0, by rw [b3, Option.bind_some, if_pos e00], hS⟩
theorem ag_turner : lx_ag_turner Inv := by
  intro j hp h hj a1 a2
  have hM0 := Inv_M h
  have hS := Inv_S _ _ h
  obtain ⟨ks, ka, kl, kr, sc, ar, T, n, o, A, h⟩ := h
  obtain ⟨C, P, hC, rfl⟩ := MV_ex h.2.1
  obtain ⟨⟨v, nm, jb, tu, tm, k1, k2, k3, k4⟩, hA, hT⟩ := h.2.2.2.2.2.2.2.1
  unfold X11_turner_F X12_turner_F
  simp only [c0_r2 h.1, Option.bind_some, kc_ob k1, m_ob hC, l_n 0 (by decide), l_n 1 (by decide), l_in]
  rcases turn_sp hC k1 k2 k3 hA (hT.imp (·.1) (·.1)) a1 with ⟨k, a, rfl, hk, hR, b1, b2, b3⟩ | ⟨b1, b3⟩
  case inr => exact ⟨-1000001, by rw [b1]; rfl, hM0, by rw [b3, Option.bind_some, if_pos e00], hS⟩
  obtain ⟨-, -, ⟨-, g2⟩, g3, -, -, -, -, g8, g9, -⟩ := id hR.1
  have g := g8 k hk
  simp only [b1, b3, Option.bind_some, if_neg e10, kp_nu]
  rcases w_spN a2 (a := 0) (b := 1) (by decide) (by decide) with ⟨c, rfl, -, hc, w1⟩ | w1
  case inr => exact ⟨-1000001, by rw [w1, Option.bind_some, if_pos e00], hM0, by rw [w1, Option.bind_some, if_pos e00], hS⟩
  simp only [w1, Option.bind_some, if_neg e10]
  rcases (show c = 0 ∨ c = 1 by omega) with rfl | rfl
  · refine ⟨nI (T (26 + k)), ?_, hM0, ?_, hS⟩
    · rw [if_pos e00, kp_gI_of b2 (by rcases (show T (22 + k) = 1 ∨ T (22 + k) = 2 ∨ T (22 + k) = 3 ∨ T (22 + k) = 4 ∨ T (22 + k) = 5 by omega) with e | e | e | e | e <;> rw [e] <;> decide) rfl]
      rfl
    · rw [if_pos e00, m_r0 hC, Option.bind_some, nI_add, m_ld0 hC (by omega), tA0 hA (by omega)]
      rfl
  · have ef := m_farOf (sc := sc) (ar := ar) (P := P) (f := ar 0) hC (b := 0) (by omega) hA.tL hR.1 hk
    rw [← hR_self] at ef
    have ec : X11_turner_D47_f (hM C sc ar P) a (nI (T 3)) = some (eI (tH (T (22 + k)) (T (26 + k)) (T 3))) := c_far g (g9 k hk) (by omega) b2
    refine ⟨nI 1000 + eI (tH (T (22 + k)) (T (26 + k)) (T 3)), ?_, hM0, ?_, hS⟩
    · rw [if_neg e10]
      simp only [kc_g7 k1, k2.1 3 (by omega), Option.bind_some, ec]
    · rw [if_neg e10, ef]
      rfl
