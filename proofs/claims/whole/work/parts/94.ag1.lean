/-! ===== calls that read, and what is common to all ===== -/
theorem l_lt {x y : Int32} : x.toInt64 < y.toInt64 ↔ x < y := by
  rw [Int64.lt_iff_toInt_lt, Int32.lt_iff_toInt_lt, Int32.toInt_toInt64, Int32.toInt_toInt64]
theorem l_eq {x y : Int32} : x.toInt64 = y.toInt64 ↔ x = y := by
  rw [← Int64.toInt_inj, ← Int32.toInt_inj, Int32.toInt_toInt64, Int32.toInt_toInt64]
theorem l_c1 {x y : Int32} : lg_cmp x.toInt64 y.toInt64 < 0 ↔ x < y := by
  unfold lg_cmp
  have e1 : x.toInt64 > y.toInt64 ↔ y.toInt < x.toInt := by rw [gt_iff_lt, l_lt, Int32.lt_iff_toInt_lt]
  have e2 : x.toInt64 = y.toInt64 ↔ x.toInt = y.toInt := by rw [l_eq, ← Int32.toInt_inj]
  have e3 : x < y ↔ x.toInt < y.toInt := Int32.lt_iff_toInt_lt
  by_cases h1 : x.toInt64 > y.toInt64
  · rw [if_pos h1]
    have := e1.mp h1
    exact ⟨fun h => absurd h (by decide), fun h => by have := e3.mp h; omega⟩
  · rw [if_neg h1]
    have z1 : ¬ y.toInt < x.toInt := fun z => h1 (e1.mpr z)
    by_cases h2 : x.toInt64 = y.toInt64
    · rw [if_pos h2]
      have := e2.mp h2
      exact ⟨fun h => absurd h (by decide), fun h => by have := e3.mp h; omega⟩
    · rw [if_neg h2]
      have z2 : ¬ x.toInt = y.toInt := fun z => h2 (e2.mpr z)
      exact ⟨fun _ => e3.mpr (by omega), fun _ => by decide⟩
theorem l_c2 {x y : Int32} : 0 < lg_cmp x.toInt64 y.toInt64 ↔ y < x := by
  unfold lg_cmp
  have e1 : x.toInt64 > y.toInt64 ↔ y.toInt < x.toInt := by rw [gt_iff_lt, l_lt, Int32.lt_iff_toInt_lt]
  have e2 : x.toInt64 = y.toInt64 ↔ x.toInt = y.toInt := by rw [l_eq, ← Int32.toInt_inj]
  have e3 : y < x ↔ y.toInt < x.toInt := Int32.lt_iff_toInt_lt
  by_cases h1 : x.toInt64 > y.toInt64
  · rw [if_pos h1]
    have := e1.mp h1
    exact ⟨fun _ => e3.mpr (by omega), fun _ => by decide⟩
  · rw [if_neg h1]
    have z1 : ¬ y.toInt < x.toInt := fun z => h1 (e1.mpr z)
    by_cases h2 : x.toInt64 = y.toInt64
    · rw [if_pos h2]
      have := e2.mp h2
      exact ⟨fun h => absurd h (by decide), fun h => by have := e3.mp h; omega⟩
    · rw [if_neg h2]
      have z2 : ¬ x.toInt = y.toInt := fun z => h2 (e2.mpr z)
      exact ⟨fun h => absurd h (by decide), fun h => by have := e3.mp h; omega⟩
/-- the reference's bound is the class's -/
theorem l_in (hp : kw_H) (x y z : Int32) : X12_in_F hp x.toInt64 y.toInt64 z.toInt64 = X11_within_F hp x y z := by
  unfold X12_in_F X11_within_F
  simp only [l_c1, l_c2]
theorem l_n (k : Nat) (hk : k < 2147483648) : lN k = (nI k).toInt64 := by
  rw [← Int64.toInt_inj, Int32.toInt_toInt64]
  rw [show (nI k).toInt = (k : Int) by rw [eI_n, eI_toInt (by omega) (by omega)]]
  show (Int64.ofNat k).toInt = _
  exact Int64.toInt_ofNat_of_lt (by simpa using (by omega : k < 9223372036854775808))
/-- a number between two, or not -/
theorem w_sp (x : Int32) {a : Nat} {b : Int} (ha : a < 2147483648) (hb : -1 ≤ b) (hb2 : b < 2147483648) : (∃ k, x = nI k ∧ a ≤ k ∧ (k : Int) ≤ b ∧ ∀ hp, X11_within_F hp x (nI a) (eI b) = some (nI 1)) ∨ ∀ hp, X11_within_F hp x (nI a) (eI b) = some (nI 0) := by
  have hx1 := Int32.le_toInt x
  have hx2 := Int32.toInt_lt x
  rw [eI_of x]
  generalize x.toInt = z at *
  simp only [X11_within_F, eI_n a]
  have e1 : eI z < eI a ↔ z < a := eI_lt (by omega) (by omega) (by omega) (by omega)
  have e2 : eI b < eI z ↔ b < z := eI_lt (by omega) (by omega) (by omega) (by omega)
  by_cases h1 : z < a
  · right; intro hp; rw [if_pos (e1.mpr h1)]
  · by_cases h2 : b < z
    · right; intro hp; rw [if_neg (fun z => h1 (e1.mp z)), if_pos (e2.mpr h2)]
    · left
      exact ⟨z.toNat, by rw [eI_n, Int.toNat_of_nonneg (by omega)], by omega, by omega, fun hp => by rw [if_neg (fun z => h1 (e1.mp z)), if_neg (fun z => h2 (e2.mp z))]⟩
theorem w_spN (x : Int32) {a b : Nat} (ha : a < 2147483648) (hb2 : b < 2147483648) : (∃ k, x = nI k ∧ a ≤ k ∧ k ≤ b ∧ ∀ hp, X11_within_F hp x (nI a) (nI b) = some (nI 1)) ∨ ∀ hp, X11_within_F hp x (nI a) (nI b) = some (nI 0) := by
  rcases w_sp x ha (b := b) (by omega) (by omega) with ⟨k, h1, h2, h3, h4⟩ | h
  · exact Or.inl ⟨k, h1, h2, by omega, fun hp => by rw [eI_n b]; exact h4 hp⟩
  · exact Or.inr fun hp => by rw [eI_n b]; exact h hp
theorem w_spM (x : Int32) {a n : Nat} (ha : a < 2147483648) (hb2 : n < 2147483648) : (∃ k, x = nI k ∧ a ≤ k ∧ k < n ∧ ∀ hp, X11_within_F hp x (nI a) (nI n - nI 1) = some (nI 1)) ∨ ∀ hp, X11_within_F hp x (nI a) (nI n - nI 1) = some (nI 0) := by
  have e : nI n - nI 1 = eI ((n : Int) - 1) := by rw [eI_n, eI_n, eI_sub]; rfl
  rw [e]
  rcases w_sp x ha (b := (n : Int) - 1) (by omega) (by omega) with ⟨k, h1, h2, h3, h4⟩ | h
  · exact Or.inl ⟨k, h1, h2, by omega, h4⟩
  · exact Or.inr h
theorem row_sp (x : Int32) : (∃ k, k < 8 ∧ x = nI k ∧ (∀ hp, X6_isRow_F hp x = some (nI 1)) ∧ ∀ hp, X12_isRow_F hp x = some (nI 1)) ∨ ((∀ hp, X6_isRow_F hp x = some (nI 0)) ∧ ∀ hp, X12_isRow_F hp x = some (nI 0)) := by
  unfold X6_isRow_F X12_isRow_F
  simp only [l_n 0 (by decide), l_n 7 (by decide), l_in]
  rcases w_spN x (a := 0) (b := 7) (by decide) (by decide) with ⟨k, h1, h2, h3, h4⟩ | h
  · left
    exact ⟨k, by omega, h1, fun hp => by rw [h4 hp]; rfl, fun hp => by rw [h4 hp]; rfl⟩
  · right
    exact ⟨fun hp => by rw [h hp]; rfl, fun hp => by rw [h hp]; rfl⟩
theorem e10 : ¬ (nI 1 = (0 : Int32)) := by decide
theorem e00 : nI 0 = (0 : Int32) := by decide
/-- the class's fixed cells change and the reference's, the kitchens aside -/
theorem IV_X {j : Nat} {hp C P : kw_H} {ks ka ks' ka' : Nat → Nat → Int32} {kl kl' : Nat → Nat → Int64} {kr kr' : Nat → Nat → Option Nat} {sc sc' : Nat → Int32} {ar ar' : Nat → Nat → Int32} {T : Tw} {n o : Nat} {A : Nat → Tw} (h : IV j hp ks ka kl kr sc ar T n o A) (hC : C.length = 38) (hCV : CV (hM C sc ar P) ks' ka' kl' kr') (hl : (hM C sc ar P).length = hp.length) (hf : ∀ q, (20 ≤ q ∧ q < 25) ∨ 38 ≤ q → (hM C sc ar P)[q]? = hp[q]?) (h36 : kr' 36 = kr 36) (h37 : kr' 37 = kr 37) (h18 : TV hp (kr' 18)) (h7 : ks' 0 7 = ks 0 7) (h8 : ks' 0 8 = ks 0 8)
    (hrow : I_rows ka' ar') (htape : I_tape ks' ka' sc' ar') (hmisc : I_misc ks' sc') (htr : I_trace ks' ka' sc' ar') (h0 : ∀ k, k < 1782 → ar' 0 k = ar 0 k) (h1 : ∀ k, k < 2 → ar' 1 k = ar 1 k) (hs1 : sc' 1 = sc 1) (hs2 : sc' 2 = sc 2) : IV (j + 1) (hM C sc' ar' P) ks' ka' kl' kr' sc' ar' T n o A := by
  obtain ⟨-, i3, i8, i9, i10, i11, i12⟩ := IV_C h hCV hl hf h36 h37 h18 h7 h8
  exact IV_hM' hC hCV i3 i8 i9 i10 i11 i12 hrow htape hmisc htr h0 h1 hs1 hs2
theorem ag_fault : lx_ag_fault Inv := by
  rintro j hp h hj -
  have hM0 := Inv_M h
  have hS := Inv_S _ _ h
  obtain ⟨ks, ka, kl, kr, sc, ar, T, n, o, A, h⟩ := h
  obtain ⟨C, P, hC, rfl⟩ := MV_ex h.2.1
  refine ⟨ks 0 9, ?_, hM0, ?_, hS⟩
  · unfold X11_fault_F
    rw [c0_g9 h.1]; rfl
  · unfold X12_fault_F
    rw [m_g9 hC, h.2.2.2.2.2.1.1]; rfl
theorem ag_status : lx_ag_status Inv := by
  rintro j hp h hj -
  have hM0 := Inv_M h
  have hS := Inv_S _ _ h
  obtain ⟨ks, ka, kl, kr, sc, ar, T, n, o, A, h⟩ := h
  obtain ⟨C, P, hC, rfl⟩ := MV_ex h.2.1
  refine ⟨ks 0 10, ?_, hM0, ?_, hS⟩
  · unfold X11_status_F
    rw [c0_g10 h.1]; rfl
  · unfold X12_status_F
    rw [m_g10 hC, h.2.2.2.2.2.1.2]; rfl
theorem c_nAt {hp : kw_H} {ks ka : Nat → Nat → Int32} {kl : Nat → Nat → Int64} {kr : Nat → Nat → Option Nat} (h : CV hp ks ka kl kr) {m : Nat} (hm : m ≤ 16) (hs : ks 34 1 = nI m) (x : Int32) : (∃ k, x = nI k ∧ k < m ∧ X9_numberAt_F hp 34 x = some (ka 35 k) ∧ ∀ hp', X11_within_F hp' x (nI 0) (nI m - nI 1) = some (nI 1)) ∨ (X9_numberAt_F hp 34 x = some (-1000000) ∧ ∀ hp', X11_within_F hp' x (nI 0) (nI m - nI 1) = some (nI 0)) := by
  rcases w_spM x (a := 0) (n := m) (by decide) (by omega) with ⟨k, rfl, -, h3, h4⟩ | h4
  · refine Or.inl ⟨k, rfl, h3, ?_, h4⟩
    unfold X9_numberAt_F
    simp (disch := omega) only [q_lt0, if_false, c34_g1 h, hs, Option.bind_some, q_le, c34_r0 h, ld_at (cv35 h) (show 16 ≤ 2147483648 by decide)]
    rw [if_neg (by omega), if_neg (by omega)]
  · refine Or.inr ⟨?_, h4⟩
    unfold X9_numberAt_F
    by_cases g : x < 0
    · rw [if_pos g]
    · rw [if_neg g, c34_g1 h, Option.bind_some, hs]
      by_cases g2 : nI m ≤ x
      · rw [if_pos g2]
      · exfalso
        have hx1 := Int32.le_toInt x
        have hx2 := Int32.toInt_lt x
        have e2 : nI m ≤ x ↔ (m : Int) ≤ x.toInt := by rw [Int32.le_iff_toInt_le, eI_n, eI_toInt (by omega) (by omega)]
        have e3 : nI m - nI 1 < x ↔ (m : Int) - 1 < x.toInt := by rw [show nI m - nI 1 = eI ((m : Int) - 1) by rw [eI_n, eI_n, eI_sub]; rfl, Int32.lt_iff_toInt_lt, eI_toInt (by omega) (by omega)]
        have h5 := h4 hp
        unfold X11_within_F at h5
        rw [if_neg (fun z => g (by rw [e00] at z; exact z)), if_neg (fun z => by have := e3.mp z; rw [e2] at g2; omega)] at h5
        exact absurd h5 (by decide)
theorem ag_trace : lx_ag_trace Inv := by
  intro j hp h hj a1
  have hM0 := Inv_M h
  have hS := Inv_S _ _ h
  obtain ⟨ks, ka, kl, kr, sc, ar, T, n, o, A, h⟩ := h
  obtain ⟨C, P, hC, rfl⟩ := MV_ex h.2.1
  obtain ⟨m, t1, t2, t3, t4⟩ := h.2.2.2.2.2.2.1.1
  unfold X11_trace_F X12_trace_F
  rw [l_n 0 (by decide)]
  simp only [c0_r4 h.1, c34_ob h.1, m_g12 hC, m_r11 hC, t3, Option.bind_some, l_in]
  rcases c_nAt h.1 t1 t2 a1 with ⟨k, rfl, h3, h5, h4⟩ | ⟨h5, h4⟩
  · refine ⟨ka 35 k, ?_, hM0, ?_, hS⟩
    · rw [h5]; rfl
    · rw [h4, Option.bind_some, if_neg e10, m_ld6 hC (by omega), t4 k h3]; rfl
  · exact ⟨_, by rw [h5]; rfl, hM0, by rw [h4, Option.bind_some, if_pos e00], hS⟩
theorem c_isRow {x : Int32} {hp : kw_H} {k : Nat} (hk : k < 8) : X6_isRow_F hp (nI k) = some (nI 1) := by
  rcases row_sp (nI k) with ⟨_, _, _, h, _⟩ | ⟨h, _⟩
  · exact h hp
  · exfalso
    have := h hp
    unfold X6_isRow_F X11_within_F at this
    simp (disch := omega) only [q_lt, show ¬ k < 0 by omega, show ¬ 7 < k by omega, if_false, Option.bind_some] at this
    exact absurd this (by decide)
/-- a row that lies, or not -/
theorem c_miss {hp : kw_H} {ks ka : Nat → Nat → Int32} {kl : Nat → Nat → Int64} {kr : Nat → Nat → Option Nat} (h : CV hp ks ka kl kr) {k : Nat} (hk : k < 8) : X6_isMissing_F hp 1 (nI k) = some (if ka 12 k = (-1) then nI 1 else nI 0) := by
  unfold X6_isMissing_F
  rw [c_isRow hk (x := 0), Option.bind_some, if_neg e10, c1_r2 h, Option.bind_some, ld_at (cv12 h) (by decide) hk, Option.bind_some]
  split <;> rfl
theorem k_unf {hp : kw_H} {ks ka : Nat → Nat → Int32} {kl : Nat → Nat → Int64} {kr : Nat → Nat → Option Nat} (h : CV hp ks ka kl kr) (x : Int32) : ∃ hp2, X11_unfound_F hp 0 x = some (x, hp2) ∧ CV hp2 (up2 ks 0 10 (nI 0)) ka kl kr ∧ hp2.length = hp.length ∧ ∀ r, r ≠ 0 → hp2[r]? = hp[r]? := by
  obtain ⟨hp2, h1, h2, h3, h4⟩ := c0_p10 h (nI 0)
  exact ⟨hp2, by unfold X11_unfound_F; rw [h1]; rfl, h2, h3, h4⟩
theorem k_fin {hp : kw_H} {ks ka : Nat → Nat → Int32} {kl : Nat → Nat → Int64} {kr : Nat → Nat → Option Nat} (h : CV hp ks ka kl kr) (x : Int32) : ∃ hp2, X11_finding_F hp 0 x = some ((-1000010) - x, hp2) ∧ CV hp2 (up2 ks 0 10 x) ka kl kr ∧ hp2.length = hp.length ∧ ∀ r, r ≠ 0 → hp2[r]? = hp[r]? := by
  obtain ⟨hp2, h1, h2, h3, h4⟩ := c0_p10 h x
  exact ⟨hp2, by unfold X11_finding_F; rw [h1]; rfl, h2, h3, h4⟩
section MW
variable {C P : kw_H} {sc : Nat → Int32} {ar : Nat → Nat → Int32}
theorem m_well (hC : C.length = 38) (x : Int32) : X12_well_F (hM C sc ar P) 38 x = some (x, hM C (upd sc 10 (nI 0)) ar P) := by
  unfold X12_well_F
  rw [m_p10 hC]; rfl
theorem m_find (hC : C.length = 38) (x : Int32) : X12_find_F (hM C sc ar P) 38 x = some ((-1000010) - x, hM C (upd sc 10 x) ar P) := by
  unfold X12_find_F
  rw [m_p10 hC]; rfl
end MW
/-- only the word of what was found changes -/
theorem IV_find {j : Nat} {hp C P : kw_H} {ks ka : Nat → Nat → Int32} {kl : Nat → Nat → Int64} {kr : Nat → Nat → Option Nat} {sc : Nat → Int32} {ar : Nat → Nat → Int32} {T : Tw} {n o : Nat} {A : Nat → Tw} {x : Int32} (h : IV j hp ks ka kl kr sc ar T n o A) (hC : C.length = 38) (hCV : CV (hM C sc ar P) (up2 ks 0 10 x) ka kl kr) (hl : (hM C sc ar P).length = hp.length) (hf : ∀ q, q ≠ 0 → (hM C sc ar P)[q]? = hp[q]?) : Inv (j + 1) (hM C (upd sc 10 x) ar P) := by
  refine ⟨_, _, _, _, _, _, _, _, _, _, IV_X h hC hCV hl (fun q hq => hf q (by omega)) rfl rfl h.2.2.2.2.2.2.2.2.2.2.2 rfl rfl h.2.2.2.1 ?_ ?_ ?_ (fun _ _ => rfl) (fun _ _ => rfl) rfl rfl⟩
  · exact h.2.2.2.2.1
  · exact ⟨h.2.2.2.2.2.1.1, rfl⟩
  · exact h.2.2.2.2.2.2.1
theorem hM_38 {C P : kw_H} {sc : Nat → Int32} {ar : Nat → Nat → Int32} (hC : C.length = 38) : ∃ fs, (hM C sc ar P)[38]? = some (.inr (11, fs)) := ⟨_, hM_get hC 0 (by omega)⟩
