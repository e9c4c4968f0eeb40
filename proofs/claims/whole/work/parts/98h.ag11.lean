/-! ===== copy ===== -/
theorem l_add (x y : Int32) : (x.toInt64 + y.toInt64).toInt = x.toInt + y.toInt := by
  have hx1 := Int32.le_toInt x
  have hx2 := Int32.toInt_lt x
  have hy1 := Int32.le_toInt y
  have hy2 := Int32.toInt_lt y
  rw [Int64.toInt_add, Int32.toInt_toInt64, Int32.toInt_toInt64]
  simp only [Int.bmod]
  omega
theorem m_isSpan {C P : kw_H} {sc : Nat → Int32} {ar : Nat → Nat → Int32} {k m : Nat} (hC : C.length = 38) (hk : k < 8) (hm : m ≤ 40) (hs : ar 3 k = nI m) (x y : Int32) : X12_isSpan_F (hM C sc ar P) 38 (nI k) x y = some (if 0 ≤ x.toInt ∧ 0 ≤ y.toInt ∧ x.toInt ≤ m ∧ y.toInt ≤ m - x.toInt then nI 1 else nI 0) := by
  have e1 : x < 0 ↔ x.toInt < 0 := Int32.lt_iff_toInt_lt
  have e2 : y < 0 ↔ y.toInt < 0 := Int32.lt_iff_toInt_lt
  have e3 : (0 < lg_cmp (x.toInt64 + y.toInt64) (nI m).toInt64) ↔ (m : Int) < x.toInt + y.toInt := by
    have z1 : (x.toInt64 + y.toInt64 > (nI m).toInt64) ↔ (m : Int) < x.toInt + y.toInt := by
      rw [gt_iff_lt, Int64.lt_iff_toInt_lt, l_add, Int32.toInt_toInt64, eI_n, eI_toInt (by omega) (by omega)]
    unfold lg_cmp
    by_cases h : (m : Int) < x.toInt + y.toInt
    · rw [if_pos (z1.mpr h)]
      exact ⟨fun _ => h, fun _ => by decide⟩
    · rw [if_neg (fun z => h (z1.mp z))]
      refine ⟨fun z => ?_, fun z => absurd z h⟩
      split at z
      · exact absurd z (by decide)
      · exact absurd z (by decide)
  unfold X12_isSpan_F
  by_cases h1 : x.toInt < 0
  · rw [if_pos (e1.mpr h1), if_neg (by omega)]
  · rw [if_neg (fun z => h1 (e1.mp z))]
    by_cases h2 : y.toInt < 0
    · rw [if_pos (e2.mpr h2), if_neg (by omega)]
    · rw [if_neg (fun z => h2 (e2.mp z)), m_r5 hC, Option.bind_some, m_ld3 hC hk, Option.bind_some, hs]
      by_cases h3 : (m : Int) < x.toInt + y.toInt
      · rw [if_pos (e3.mpr h3), if_neg (by omega)]
      · rw [if_neg (fun z => h3 (e3.mp z)), if_pos (by omega)]
theorem m_copyLoop {C P : kw_H} {sc : Nat → Int32} {ar : Nat → Nat → Int32} {k k2 x y n : Nat} (hC : C.length = 38) (hk : k < 8) (hk2 : k2 < 8) (hx : x + n ≤ 40) (hy : y + n ≤ 40) : (if nI y ≤ nI x then X12_copy_J102 (hM C sc ar P) 38 (nI k) (nI x) (nI k2) (nI y) (nI n) (nI 0) else X12_copy_J102 (hM C sc ar P) 38 (nI k) (nI x) (nI k2) (nI y) (nI n) (nI 1)) = some (nI n, hM C (upd sc 10 (nI 0)) (va_up ar 4 (va_cpy (ar 4) (ar 4) (40 * k + x) (40 * k2 + y) n)) P) := by
  have e1 : ar = va_up ar 4 (ar 4) := by
    funext a
    by_cases e : a = 4
    · subst e; rw [up_at]
    · rw [up_ne _ _ e]
  have hend : ∀ z, X12_copy_b107 38 (nI k) (nI x) (nI k2) (nI y) (nI n) z (nI n) (hM C sc (va_up ar 4 (va_cpy (ar 4) (ar 4) (40 * k + x) (40 * k2 + y) n)) P) = some (.inr (nI n, hM C (upd sc 10 (nI 0)) (va_up ar 4 (va_cpy (ar 4) (ar 4) (40 * k + x) (40 * k2 + y) n)) P)) := fun z => by
    unfold X12_copy_b107
    rw [if_pos ((q_le (by omega) (by omega)).mpr (Nat.le_refl _))]
    unfold X12_copy_J168
    rw [m_ob hC, Option.bind_some, m_well hC]
    rfl
  simp (disch := omega) only [q_le]
  by_cases hxy : y ≤ x
  · rw [if_pos hxy]
    unfold X12_copy_J102
    have s0 : (nI 0, hM C sc ar P) = (fun i => (nI i, hM C sc (va_up ar 4 (va_cpy (ar 4) (ar 4) (40 * k + x) (40 * k2 + y) i)) P)) 0 := by
      have : va_cpy (ar 4) (ar 4) (40 * k + x) (40 * k2 + y) 0 = ar 4 := by
        funext t
        unfold va_cpy
        rw [if_neg (by omega)]
      show (nI 0, hM C sc ar P) = (nI 0, hM C sc (va_up ar 4 (va_cpy (ar 4) (ar 4) (40 * k + x) (40 * k2 + y) 0)) P)
      rw [this, ← e1]
    rw [s0]
    refine lp_for (fun i => (nI i, hM C sc (va_up ar 4 (va_cpy (ar 4) (ar 4) (40 * k + x) (40 * k2 + y) i)) P)) n _ (fun i hi => ?_) (hend _) 2000 (by omega)
    show X12_copy_b107 _ _ _ _ _ _ _ _ _ = _
    unfold X12_copy_b107 X12_copy_J131
    rw [if_neg (fun z => by have := (q_le (show n < 2147483648 by omega) (show i < 2147483648 by omega)).mp z; omega), if_pos e00]
    simp only [m_r6 hC, Option.bind_some, q_mul, nI_add, m_ld4 hC (show 40 * k + x + i < 320 by omega), m_st4 hC (show 40 * k2 + y + i < 320 by omega), up_up, up_at]
    have ef : upd (va_cpy (ar 4) (ar 4) (40 * k + x) (40 * k2 + y) i) (40 * k2 + y + i) (va_cpy (ar 4) (ar 4) (40 * k + x) (40 * k2 + y) i (40 * k + x + i)) = va_cpy (ar 4) (ar 4) (40 * k + x) (40 * k2 + y) (i + 1) := by
      funext t
      unfold upd va_cpy
      by_cases e : t = 40 * k2 + y + i
      · rw [if_pos e, if_neg (by omega), if_pos (by omega), e]
        congr 1
        omega
      · rw [if_neg e]
        by_cases e2 : 40 * k2 + y ≤ t ∧ t < 40 * k2 + y + i
        · rw [if_pos e2, if_pos (by omega)]
        · rw [if_neg e2, if_neg (by omega)]
    rw [ef]
  · rw [if_neg hxy]
    unfold X12_copy_J102
    let g : Nat → Nat → Int32 := fun i t => if 40 * k2 + y + (n - i) ≤ t ∧ t < 40 * k2 + y + n then ar 4 (40 * k + x + (t - (40 * k2 + y))) else ar 4 t
    have s0 : (nI 0, hM C sc ar P) = (fun i => (nI i, hM C sc (va_up ar 4 (g i)) P)) 0 := by
      have : g 0 = ar 4 := by
        funext t
        exact if_neg (by omega)
      show (nI 0, hM C sc ar P) = (nI 0, hM C sc (va_up ar 4 (g 0)) P)
      rw [this, ← e1]
    rw [s0]
    have gn : g n = va_cpy (ar 4) (ar 4) (40 * k + x) (40 * k2 + y) n := by
      funext t
      show (if 40 * k2 + y + (n - n) ≤ t ∧ t < 40 * k2 + y + n then ar 4 (40 * k + x + (t - (40 * k2 + y))) else ar 4 t) = _
      rw [Nat.sub_self, Nat.add_zero]
      rfl
    refine lp_for (fun i => (nI i, hM C sc (va_up ar 4 (g i)) P)) n _ (fun i hi => ?_) (by rw [← gn] at hend; rw [← gn]; exact hend _) 2000 (by omega)
    show X12_copy_b107 _ _ _ _ _ _ _ _ _ = _
    unfold X12_copy_b107 X12_copy_J131
    have es : nI n - nI 1 - nI i = nI (n - 1 - i) := by
      rw [eI_n n, eI_n 1, eI_n i, eI_n (n - 1 - i), eI_sub, eI_sub]
      congr 1
      omega
    rw [if_neg (fun z => by have := (q_le (show n < 2147483648 by omega) (show i < 2147483648 by omega)).mp z; omega), if_neg e10, es]
    simp only [m_r6 hC, Option.bind_some, q_mul, nI_add, m_ld4 hC (show 40 * k + x + (n - 1 - i) < 320 by omega), m_st4 hC (show 40 * k2 + y + (n - 1 - i) < 320 by omega), up_up, up_at]
    have ef : upd (g i) (40 * k2 + y + (n - 1 - i)) (g i (40 * k + x + (n - 1 - i))) = g (i + 1) := by
      funext t
      show (if t = 40 * k2 + y + (n - 1 - i) then (if 40 * k2 + y + (n - i) ≤ 40 * k + x + (n - 1 - i) ∧ 40 * k + x + (n - 1 - i) < 40 * k2 + y + n then ar 4 (40 * k + x + (40 * k + x + (n - 1 - i) - (40 * k2 + y))) else ar 4 (40 * k + x + (n - 1 - i))) else (if 40 * k2 + y + (n - i) ≤ t ∧ t < 40 * k2 + y + n then ar 4 (40 * k + x + (t - (40 * k2 + y))) else ar 4 t)) = (if 40 * k2 + y + (n - (i + 1)) ≤ t ∧ t < 40 * k2 + y + n then ar 4 (40 * k + x + (t - (40 * k2 + y))) else ar 4 t)
      by_cases e : t = 40 * k2 + y + (n - 1 - i)
      · rw [if_pos e, if_neg (by omega), if_pos (by omega), e]
        congr 1
        omega
      · rw [if_neg e]
        by_cases e2 : 40 * k2 + y + (n - i) ≤ t ∧ t < 40 * k2 + y + n
        · rw [if_pos e2, if_pos (by omega)]
        · rw [if_neg e2, if_neg (by omega)]
    rw [ef]
