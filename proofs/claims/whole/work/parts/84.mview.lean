theorem q_in {j n : Nat} (hj : j < n) (hn : n ≤ 2147483648) : ¬ (nI j < 0 ∨ n ≤ j) := fun h => h.elim (fun h => (q_lt0 (by omega)).mp h) (fun h => by omega)
/-! ===== the reference's cells: its object at 38, its arrays behind it; sc: its numbers by the places of the fields, ar: its arrays ===== -/
def mcells (sc : Nat → Int32) (ar : Nat → Nat → Int32) : kw_H := [.inr (11, [.ref 39, .int (sc 1), .int (sc 2), .ref 40, .ref 41, .ref 42, .ref 43, .ref 44, .int (sc 8), .int (sc 9), .int (sc 10), .ref 45, .int (sc 12), .int (sc 13), .int (sc 14), .int (sc 15), .ref 46]), .inl (0, 1848, .inl (ar 0)), .inl (2, 2, .inl (ar 1)), .inl (0, 8, .inl (ar 2)), .inl (0, 8, .inl (ar 3)), .inl (0, 320, .inl (ar 4)), .inl (0, 80, .inl (ar 5)), .inl (0, 16, .inl (ar 6)), .inl (0, 360, .inl (ar 7))]
def hM (C : kw_H) (sc : Nat → Int32) (ar : Nat → Nat → Int32) (P : kw_H) : kw_H := C ++ (mcells sc ar ++ P)
section HM
variable {C P : kw_H} {sc : Nat → Int32} {ar : Nat → Nat → Int32}
theorem hM_get (hC : C.length = 38) (i : Nat) (hi : i < 9) : (hM C sc ar P)[38 + i]? = (mcells sc ar)[i]? := by
  unfold hM
  rw [List.getElem?_append_right (by omega), hC, show 38 + i - 38 = i by omega, List.getElem?_append_left (by simp [mcells]; omega)]
theorem hM_set (hC : C.length = 38) (i : Nat) (hi : i < 9) (c : kw_E) : (hM C sc ar P).set (38 + i) c = C ++ ((mcells sc ar).set i c ++ P) := by
  unfold hM
  rw [List.set_append_right _ _ (by omega), hC, show 38 + i - 38 = i by omega, List.set_append_left _ _ (by simp [mcells]; omega)]
theorem m_ob (hC : C.length = 38) : kp_ob (hM C sc ar P) 38 11 = some () := by
  unfold kp_ob
  rw [show (hM C sc ar P)[38]? = _ from hM_get hC 0 (by decide)]
  rfl
theorem m_r0 (hC : C.length = 38) : kp_gR (hM C sc ar P) 38 [11] 0 = some 39 := by
  unfold kp_gR
  rw [show (hM C sc ar P)[38]? = _ from hM_get hC 0 (by decide)]
  rfl
theorem m_r3 (hC : C.length = 38) : kp_gR (hM C sc ar P) 38 [11] 3 = some 40 := by
  unfold kp_gR
  rw [show (hM C sc ar P)[38]? = _ from hM_get hC 0 (by decide)]
  rfl
theorem m_r4 (hC : C.length = 38) : kp_gR (hM C sc ar P) 38 [11] 4 = some 41 := by
  unfold kp_gR
  rw [show (hM C sc ar P)[38]? = _ from hM_get hC 0 (by decide)]
  rfl
theorem m_r5 (hC : C.length = 38) : kp_gR (hM C sc ar P) 38 [11] 5 = some 42 := by
  unfold kp_gR
  rw [show (hM C sc ar P)[38]? = _ from hM_get hC 0 (by decide)]
  rfl
theorem m_r6 (hC : C.length = 38) : kp_gR (hM C sc ar P) 38 [11] 6 = some 43 := by
  unfold kp_gR
  rw [show (hM C sc ar P)[38]? = _ from hM_get hC 0 (by decide)]
  rfl
theorem m_r7 (hC : C.length = 38) : kp_gR (hM C sc ar P) 38 [11] 7 = some 44 := by
  unfold kp_gR
  rw [show (hM C sc ar P)[38]? = _ from hM_get hC 0 (by decide)]
  rfl
theorem m_r11 (hC : C.length = 38) : kp_gR (hM C sc ar P) 38 [11] 11 = some 45 := by
  unfold kp_gR
  rw [show (hM C sc ar P)[38]? = _ from hM_get hC 0 (by decide)]
  rfl
theorem m_r16 (hC : C.length = 38) : kp_gR (hM C sc ar P) 38 [11] 16 = some 46 := by
  unfold kp_gR
  rw [show (hM C sc ar P)[38]? = _ from hM_get hC 0 (by decide)]
  rfl
theorem m_g1 (hC : C.length = 38) : kp_gI (hM C sc ar P) 38 [11] 1 = some (sc 1) := by
  unfold kp_gI
  rw [show (hM C sc ar P)[38]? = _ from hM_get hC 0 (by decide)]
  rfl
theorem m_p1 (hC : C.length = 38) (x : Int32) : kp_put (hM C sc ar P) 38 [11] 1 (.int x) = some (hM C (upd sc 1 x) ar P) := by
  unfold kp_put
  rw [show (hM C sc ar P)[38]? = _ from hM_get hC 0 (by decide)]
  show (if _ then some ((hM C sc ar P).set (38 + 0) _) else none) = _
  rw [if_pos (by simp), hM_set hC 0 (by decide)]
  rfl
theorem m_g2 (hC : C.length = 38) : kp_gI (hM C sc ar P) 38 [11] 2 = some (sc 2) := by
  unfold kp_gI
  rw [show (hM C sc ar P)[38]? = _ from hM_get hC 0 (by decide)]
  rfl
theorem m_p2 (hC : C.length = 38) (x : Int32) : kp_put (hM C sc ar P) 38 [11] 2 (.int x) = some (hM C (upd sc 2 x) ar P) := by
  unfold kp_put
  rw [show (hM C sc ar P)[38]? = _ from hM_get hC 0 (by decide)]
  show (if _ then some ((hM C sc ar P).set (38 + 0) _) else none) = _
  rw [if_pos (by simp), hM_set hC 0 (by decide)]
  rfl
theorem m_g8 (hC : C.length = 38) : kp_gI (hM C sc ar P) 38 [11] 8 = some (sc 8) := by
  unfold kp_gI
  rw [show (hM C sc ar P)[38]? = _ from hM_get hC 0 (by decide)]
  rfl
theorem m_p8 (hC : C.length = 38) (x : Int32) : kp_put (hM C sc ar P) 38 [11] 8 (.int x) = some (hM C (upd sc 8 x) ar P) := by
  unfold kp_put
  rw [show (hM C sc ar P)[38]? = _ from hM_get hC 0 (by decide)]
  show (if _ then some ((hM C sc ar P).set (38 + 0) _) else none) = _
  rw [if_pos (by simp), hM_set hC 0 (by decide)]
  rfl
theorem m_g9 (hC : C.length = 38) : kp_gI (hM C sc ar P) 38 [11] 9 = some (sc 9) := by
  unfold kp_gI
  rw [show (hM C sc ar P)[38]? = _ from hM_get hC 0 (by decide)]
  rfl
theorem m_p9 (hC : C.length = 38) (x : Int32) : kp_put (hM C sc ar P) 38 [11] 9 (.int x) = some (hM C (upd sc 9 x) ar P) := by
  unfold kp_put
  rw [show (hM C sc ar P)[38]? = _ from hM_get hC 0 (by decide)]
  show (if _ then some ((hM C sc ar P).set (38 + 0) _) else none) = _
  rw [if_pos (by simp), hM_set hC 0 (by decide)]
  rfl
theorem m_g10 (hC : C.length = 38) : kp_gI (hM C sc ar P) 38 [11] 10 = some (sc 10) := by
  unfold kp_gI
  rw [show (hM C sc ar P)[38]? = _ from hM_get hC 0 (by decide)]
  rfl
theorem m_p10 (hC : C.length = 38) (x : Int32) : kp_put (hM C sc ar P) 38 [11] 10 (.int x) = some (hM C (upd sc 10 x) ar P) := by
  unfold kp_put
  rw [show (hM C sc ar P)[38]? = _ from hM_get hC 0 (by decide)]
  show (if _ then some ((hM C sc ar P).set (38 + 0) _) else none) = _
  rw [if_pos (by simp), hM_set hC 0 (by decide)]
  rfl
theorem m_g12 (hC : C.length = 38) : kp_gI (hM C sc ar P) 38 [11] 12 = some (sc 12) := by
  unfold kp_gI
  rw [show (hM C sc ar P)[38]? = _ from hM_get hC 0 (by decide)]
  rfl
theorem m_p12 (hC : C.length = 38) (x : Int32) : kp_put (hM C sc ar P) 38 [11] 12 (.int x) = some (hM C (upd sc 12 x) ar P) := by
  unfold kp_put
  rw [show (hM C sc ar P)[38]? = _ from hM_get hC 0 (by decide)]
  show (if _ then some ((hM C sc ar P).set (38 + 0) _) else none) = _
  rw [if_pos (by simp), hM_set hC 0 (by decide)]
  rfl
theorem m_g13 (hC : C.length = 38) : kp_gI (hM C sc ar P) 38 [11] 13 = some (sc 13) := by
  unfold kp_gI
  rw [show (hM C sc ar P)[38]? = _ from hM_get hC 0 (by decide)]
  rfl
theorem m_p13 (hC : C.length = 38) (x : Int32) : kp_put (hM C sc ar P) 38 [11] 13 (.int x) = some (hM C (upd sc 13 x) ar P) := by
  unfold kp_put
  rw [show (hM C sc ar P)[38]? = _ from hM_get hC 0 (by decide)]
  show (if _ then some ((hM C sc ar P).set (38 + 0) _) else none) = _
  rw [if_pos (by simp), hM_set hC 0 (by decide)]
  rfl
theorem m_g14 (hC : C.length = 38) : kp_gI (hM C sc ar P) 38 [11] 14 = some (sc 14) := by
  unfold kp_gI
  rw [show (hM C sc ar P)[38]? = _ from hM_get hC 0 (by decide)]
  rfl
theorem m_p14 (hC : C.length = 38) (x : Int32) : kp_put (hM C sc ar P) 38 [11] 14 (.int x) = some (hM C (upd sc 14 x) ar P) := by
  unfold kp_put
  rw [show (hM C sc ar P)[38]? = _ from hM_get hC 0 (by decide)]
  show (if _ then some ((hM C sc ar P).set (38 + 0) _) else none) = _
  rw [if_pos (by simp), hM_set hC 0 (by decide)]
  rfl
theorem m_g15 (hC : C.length = 38) : kp_gI (hM C sc ar P) 38 [11] 15 = some (sc 15) := by
  unfold kp_gI
  rw [show (hM C sc ar P)[38]? = _ from hM_get hC 0 (by decide)]
  rfl
theorem m_p15 (hC : C.length = 38) (x : Int32) : kp_put (hM C sc ar P) 38 [11] 15 (.int x) = some (hM C (upd sc 15 x) ar P) := by
  unfold kp_put
  rw [show (hM C sc ar P)[38]? = _ from hM_get hC 0 (by decide)]
  show (if _ then some ((hM C sc ar P).set (38 + 0) _) else none) = _
  rw [if_pos (by simp), hM_set hC 0 (by decide)]
  rfl
theorem m_ld0 (hC : C.length = 38) {j : Nat} (hj : j < 1848) : kp_ldI (hM C sc ar P) 39 (nI j) = some (ar 0 j) := by
  unfold kp_ldI
  rw [show (hM C sc ar P)[39]? = _ from hM_get hC 1 (by decide)]
  show (if nI j < 0 ∨ 1848 ≤ (nI j).toNatClampNeg then none else some (ar 0 (nI j).toNatClampNeg)) = _
  rw [q_cl (by omega), if_neg (q_in hj (by omega))]
theorem m_st0 (hC : C.length = 38) {j : Nat} (hj : j < 1848) (x : Int32) : kp_stI (hM C sc ar P) 39 (nI j) x = some (hM C sc (va_up ar 0 (upd (ar 0) j x)) P) := by
  unfold kp_stI
  rw [show (hM C sc ar P)[39]? = _ from hM_get hC 1 (by decide)]
  show (if nI j < 0 ∨ 1848 ≤ (nI j).toNatClampNeg then none else some ((hM C sc ar P).set (38 + 1) (.inl (0, 1848, .inl (upd (ar 0) (nI j).toNatClampNeg x))))) = _
  rw [q_cl (by omega), if_neg (q_in hj (by omega)), hM_set hC 1 (by decide)]
  rfl
theorem m_ld2 (hC : C.length = 38) {j : Nat} (hj : j < 8) : kp_ldI (hM C sc ar P) 41 (nI j) = some (ar 2 j) := by
  unfold kp_ldI
  rw [show (hM C sc ar P)[41]? = _ from hM_get hC 3 (by decide)]
  show (if nI j < 0 ∨ 8 ≤ (nI j).toNatClampNeg then none else some (ar 2 (nI j).toNatClampNeg)) = _
  rw [q_cl (by omega), if_neg (q_in hj (by omega))]
theorem m_st2 (hC : C.length = 38) {j : Nat} (hj : j < 8) (x : Int32) : kp_stI (hM C sc ar P) 41 (nI j) x = some (hM C sc (va_up ar 2 (upd (ar 2) j x)) P) := by
  unfold kp_stI
  rw [show (hM C sc ar P)[41]? = _ from hM_get hC 3 (by decide)]
  show (if nI j < 0 ∨ 8 ≤ (nI j).toNatClampNeg then none else some ((hM C sc ar P).set (38 + 3) (.inl (0, 8, .inl (upd (ar 2) (nI j).toNatClampNeg x))))) = _
  rw [q_cl (by omega), if_neg (q_in hj (by omega)), hM_set hC 3 (by decide)]
  rfl
theorem m_ld3 (hC : C.length = 38) {j : Nat} (hj : j < 8) : kp_ldI (hM C sc ar P) 42 (nI j) = some (ar 3 j) := by
  unfold kp_ldI
  rw [show (hM C sc ar P)[42]? = _ from hM_get hC 4 (by decide)]
  show (if nI j < 0 ∨ 8 ≤ (nI j).toNatClampNeg then none else some (ar 3 (nI j).toNatClampNeg)) = _
  rw [q_cl (by omega), if_neg (q_in hj (by omega))]
theorem m_st3 (hC : C.length = 38) {j : Nat} (hj : j < 8) (x : Int32) : kp_stI (hM C sc ar P) 42 (nI j) x = some (hM C sc (va_up ar 3 (upd (ar 3) j x)) P) := by
  unfold kp_stI
  rw [show (hM C sc ar P)[42]? = _ from hM_get hC 4 (by decide)]
  show (if nI j < 0 ∨ 8 ≤ (nI j).toNatClampNeg then none else some ((hM C sc ar P).set (38 + 4) (.inl (0, 8, .inl (upd (ar 3) (nI j).toNatClampNeg x))))) = _
  rw [q_cl (by omega), if_neg (q_in hj (by omega)), hM_set hC 4 (by decide)]
  rfl
theorem m_ld4 (hC : C.length = 38) {j : Nat} (hj : j < 320) : kp_ldI (hM C sc ar P) 43 (nI j) = some (ar 4 j) := by
  unfold kp_ldI
  rw [show (hM C sc ar P)[43]? = _ from hM_get hC 5 (by decide)]
  show (if nI j < 0 ∨ 320 ≤ (nI j).toNatClampNeg then none else some (ar 4 (nI j).toNatClampNeg)) = _
  rw [q_cl (by omega), if_neg (q_in hj (by omega))]
theorem m_st4 (hC : C.length = 38) {j : Nat} (hj : j < 320) (x : Int32) : kp_stI (hM C sc ar P) 43 (nI j) x = some (hM C sc (va_up ar 4 (upd (ar 4) j x)) P) := by
  unfold kp_stI
  rw [show (hM C sc ar P)[43]? = _ from hM_get hC 5 (by decide)]
  show (if nI j < 0 ∨ 320 ≤ (nI j).toNatClampNeg then none else some ((hM C sc ar P).set (38 + 5) (.inl (0, 320, .inl (upd (ar 4) (nI j).toNatClampNeg x))))) = _
  rw [q_cl (by omega), if_neg (q_in hj (by omega)), hM_set hC 5 (by decide)]
  rfl
theorem m_ld5 (hC : C.length = 38) {j : Nat} (hj : j < 80) : kp_ldI (hM C sc ar P) 44 (nI j) = some (ar 5 j) := by
  unfold kp_ldI
  rw [show (hM C sc ar P)[44]? = _ from hM_get hC 6 (by decide)]
  show (if nI j < 0 ∨ 80 ≤ (nI j).toNatClampNeg then none else some (ar 5 (nI j).toNatClampNeg)) = _
  rw [q_cl (by omega), if_neg (q_in hj (by omega))]
theorem m_st5 (hC : C.length = 38) {j : Nat} (hj : j < 80) (x : Int32) : kp_stI (hM C sc ar P) 44 (nI j) x = some (hM C sc (va_up ar 5 (upd (ar 5) j x)) P) := by
  unfold kp_stI
  rw [show (hM C sc ar P)[44]? = _ from hM_get hC 6 (by decide)]
  show (if nI j < 0 ∨ 80 ≤ (nI j).toNatClampNeg then none else some ((hM C sc ar P).set (38 + 6) (.inl (0, 80, .inl (upd (ar 5) (nI j).toNatClampNeg x))))) = _
  rw [q_cl (by omega), if_neg (q_in hj (by omega)), hM_set hC 6 (by decide)]
  rfl
theorem m_ld6 (hC : C.length = 38) {j : Nat} (hj : j < 16) : kp_ldI (hM C sc ar P) 45 (nI j) = some (ar 6 j) := by
  unfold kp_ldI
  rw [show (hM C sc ar P)[45]? = _ from hM_get hC 7 (by decide)]
  show (if nI j < 0 ∨ 16 ≤ (nI j).toNatClampNeg then none else some (ar 6 (nI j).toNatClampNeg)) = _
  rw [q_cl (by omega), if_neg (q_in hj (by omega))]
theorem m_st6 (hC : C.length = 38) {j : Nat} (hj : j < 16) (x : Int32) : kp_stI (hM C sc ar P) 45 (nI j) x = some (hM C sc (va_up ar 6 (upd (ar 6) j x)) P) := by
  unfold kp_stI
  rw [show (hM C sc ar P)[45]? = _ from hM_get hC 7 (by decide)]
  show (if nI j < 0 ∨ 16 ≤ (nI j).toNatClampNeg then none else some ((hM C sc ar P).set (38 + 7) (.inl (0, 16, .inl (upd (ar 6) (nI j).toNatClampNeg x))))) = _
  rw [q_cl (by omega), if_neg (q_in hj (by omega)), hM_set hC 7 (by decide)]
  rfl
theorem m_ld7 (hC : C.length = 38) {j : Nat} (hj : j < 360) : kp_ldI (hM C sc ar P) 46 (nI j) = some (ar 7 j) := by
  unfold kp_ldI
  rw [show (hM C sc ar P)[46]? = _ from hM_get hC 8 (by decide)]
  show (if nI j < 0 ∨ 360 ≤ (nI j).toNatClampNeg then none else some (ar 7 (nI j).toNatClampNeg)) = _
  rw [q_cl (by omega), if_neg (q_in hj (by omega))]
theorem m_st7 (hC : C.length = 38) {j : Nat} (hj : j < 360) (x : Int32) : kp_stI (hM C sc ar P) 46 (nI j) x = some (hM C sc (va_up ar 7 (upd (ar 7) j x)) P) := by
  unfold kp_stI
  rw [show (hM C sc ar P)[46]? = _ from hM_get hC 8 (by decide)]
  show (if nI j < 0 ∨ 360 ≤ (nI j).toNatClampNeg then none else some ((hM C sc ar P).set (38 + 8) (.inl (0, 360, .inl (upd (ar 7) (nI j).toNatClampNeg x))))) = _
  rw [q_cl (by omega), if_neg (q_in hj (by omega)), hM_set hC 8 (by decide)]
  rfl
theorem m_ld1 (hC : C.length = 38) {j : Nat} (hj : j < 2) : kp_ldZ (hM C sc ar P) 40 (nI j) = some (ar 1 j) := by
  unfold kp_ldZ
  rw [show (hM C sc ar P)[40]? = _ from hM_get hC 2 (by decide)]
  show (if nI j < 0 ∨ 2 ≤ (nI j).toNatClampNeg then none else some (ar 1 (nI j).toNatClampNeg)) = _
  rw [q_cl (by omega), if_neg (q_in hj (by omega))]
theorem m_st1 (hC : C.length = 38) {j : Nat} (hj : j < 2) : kp_stZ (hM C sc ar P) 40 (nI j) (nI 1) = some (hM C sc (va_up ar 1 (upd (ar 1) j (nI 1))) P) := by
  unfold kp_stZ
  rw [show (hM C sc ar P)[40]? = _ from hM_get hC 2 (by decide)]
  show (if (nI j < 0 ∨ 2 ≤ (nI j).toNatClampNeg) ∨ ¬ (nI 1 = 0 ∨ nI 1 = 1) then none else some ((hM C sc ar P).set (38 + 2) (.inl (2, 2, .inl (upd (ar 1) (nI j).toNatClampNeg (nI 1)))))) = _
  rw [q_cl (by omega), if_neg (fun h => h.elim (q_in hj (by omega)) (fun h => h (Or.inr rfl))), hM_set hC 2 (by decide)]
  rfl
end HM
