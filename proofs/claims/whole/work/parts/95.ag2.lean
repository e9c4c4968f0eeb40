/-! ===== the rows: drop, row, set ===== -/
theorem MV_f {hp hp' : kw_H} {sc : Nat → Int32} {ar : Nat → Nat → Int32} (h : MV hp sc ar) (hf : ∀ q, 38 ≤ q → hp'[q]? = hp[q]?) : MV hp' sc ar := fun q hq => by
  rw [hf _ (by omega)]
  exact h q hq
theorem up_up {α : Type} (f : Nat → α) (k : Nat) (v w : α) : va_up (va_up f k v) k w = va_up f k w := by
  funext j
  unfold va_up
  split <;> rfl
theorem up_at {α : Type} (f : Nat → α) (k : Nat) (v : α) : va_up f k v k = v := if_pos rfl
theorem up_ne {α : Type} (f : Nat → α) {k j : Nat} (v : α) (h : j ≠ k) : va_up f k v j = f j := if_neg h
section IR
variable {ka ar : Nat → Nat → Int32} {k : Nat}
theorem I_rows_size (h : I_rows ka ar) (v : Int32) (hv : v = (-1) ∨ ∃ n, n ≤ 40 ∧ v = nI n) : I_rows (va_up ka 12 (upd (ka 12) k v)) (va_up ar 3 (upd (ar 3) k v)) := by
  intro r hr
  obtain ⟨h1, h2, h3, h4, h5⟩ := h r hr
  rw [up_at, up_at, up_ne _ _ (by omega), up_ne _ _ (by omega), up_ne _ _ (by omega)]
  unfold upd
  refine ⟨?_, h2, ?_, h4, fun i hi => ?_⟩
  · split
    · rfl
    · exact h1
  · split
    · exact hv
    · exact h3
  · rw [up_ne _ _ (by omega)]
    exact h5 i hi
theorem I_rows_lane (h : I_rows ka ar) (l : Nat) (hl : l ≤ 2) : I_rows (va_up ka 11 (upd (ka 11) k (nI l))) (va_up ar 2 (upd (ar 2) k (nI l))) := by
  intro r hr
  obtain ⟨h1, h2, h3, h4, h5⟩ := h r hr
  rw [up_at, up_at, up_ne _ _ (by omega), up_ne _ _ (by omega), up_ne _ _ (by omega)]
  unfold upd
  refine ⟨h1, ?_, h3, ?_, fun i hi => ?_⟩
  · split
    · rfl
    · exact h2
  · split
    · exact ⟨l, hl, rfl⟩
    · exact h4
  · rw [up_ne _ _ (by omega)]
    exact h5 i hi
/-- the numbers of one row -/
theorem I_rows_of (h : I_rows ka ar) (hk : k < 8) (f g : Nat → Int32) (hg : ∀ i, i < 40 → g (40 * k + i) = f i) (hg2 : ∀ t, t < 320 → (t < 40 * k ∨ 40 * k + 40 ≤ t) → g t = ar 4 t) : I_rows (va_up ka (3 + k) f) (va_up ar 4 g) := by
  intro r hr
  obtain ⟨h1, h2, h3, h4, h5⟩ := h r hr
  rw [up_ne _ _ (by omega), up_ne _ _ (by omega), up_ne _ _ (by omega), up_ne _ _ (by omega), up_at]
  refine ⟨h1, h2, h3, h4, fun i hi => ?_⟩
  by_cases e : r = k
  · subst e
    rw [up_at, hg i hi]
  · rw [up_ne _ _ (by omega), hg2 _ (by omega) (by omega)]
    exact h5 i hi
end IR
section CR
variable {hp : kw_H} {ks ka : Nat → Nat → Int32} {kl : Nat → Nat → Int64} {kr : Nat → Nat → Option Nat} {k : Nat}
theorem cv_row (h : CV hp ks ka kl kr) (hk : k < 8) : hp[3 + k]? = some (.inl (0, 40, .inl (ka (3 + k)))) := by
  rcases (show k = 0 ∨ k = 1 ∨ k = 2 ∨ k = 3 ∨ k = 4 ∨ k = 5 ∨ k = 6 ∨ k = 7 by omega) with rfl | rfl | rfl | rfl | rfl | rfl | rfl | rfl
  · exact cv3 h
  · exact cv4 h
  · exact cv5 h
  · exact cv6 h
  · exact cv7 h
  · exact cv8 h
  · exact cv9 h
  · exact cv10 h
theorem CV_row (h : CV hp ks ka kl kr) (hk : k < 8) (f : Nat → Int32) : CV (hp.set (3 + k) (.inl (0, 40, .inl f))) ks (va_up ka (3 + k) f) kl kr := by
  intro q hq
  have hl : 3 + k < hp.length := by
    have := cv_row h hk
    exact (List.getElem?_eq_some_iff.mp this).1
  by_cases e : q = 3 + k
  · subst e
    rw [List.getElem?_set_self hl]
    rcases (show k = 0 ∨ k = 1 ∨ k = 2 ∨ k = 3 ∨ k = 4 ∨ k = 5 ∨ k = 6 ∨ k = 7 by omega) with rfl | rfl | rfl | rfl | rfl | rfl | rfl | rfl <;> rfl
  · rw [List.getElem?_set_ne (fun z => e z.symm), h q hq]
    exact CV_otherA hq e
theorem c_ldR (h : CV hp ks ka kl kr) (hk : k < 8) : kp_ldR hp 5 2 (nI k) = some (some (3 + k)) := by
  unfold kp_ldR
  rw [cv2 h]
  show (if 5 = 5 then (if nI k < 0 ∨ 8 ≤ (nI k).toNatClampNeg then none else some (if (nI k).toNatClampNeg < 8 then some (2 + 1 + (nI k).toNatClampNeg) else none)) else none) = _
  rw [if_pos rfl, q_cl (by omega), if_neg (q_in hk (by decide)), if_pos hk]
/-- a row filled with noughts -/
theorem c_fill (h : CV hp ks ka kl kr) (hk : k < 8) : J7_fill_53178_F hp (3 + k) (nI 0) = some (hp.set (3 + k) (.inl (0, 40, .inl (fun t => if t < 40 then nI 0 else ka (3 + k) t)))) := by
  have hr := cv_row h hk
  have hl : 3 + k < hp.length := (List.getElem?_eq_some_iff.mp hr).1
  have e0 : kp_len hp (3 + k) = some (nI 40) := by
    unfold kp_len
    rw [hr]; rfl
  unfold J7_fill_53178_F
  rw [e0, Option.bind_some]
  have e1 : hp = hp.set (3 + k) (.inl (0, 40, .inl (fun t => if t < 0 then nI 0 else ka (3 + k) t))) := by
    apply List.ext_getElem?
    intro q
    by_cases e : q = 3 + k
    · subst e
      rw [List.getElem?_set_self hl, hr]
      rfl
    · rw [List.getElem?_set_ne (fun z => e z.symm)]
  conv => lhs; rw [e1]
  refine lp_for (fun i => (nI i, hp.set (3 + k) (.inl (0, 40, .inl (fun t => if t < i then nI 0 else ka (3 + k) t))))) 40 _ (fun i hi => ?_) ?_ 2000 (by decide)
  · show J7_fill_53178_b5 _ _ _ _ _ = _
    unfold J7_fill_53178_b5
    simp (disch := omega) only [q_le]
    rw [if_neg (by omega), st_at (List.getElem?_set_self hl) (by decide) hi, Option.bind_some, List.set_set, nI_add]
    have ef : upd (fun t => if t < i then nI 0 else ka (3 + k) t) i (nI 0) = fun t => if t < i + 1 then nI 0 else ka (3 + k) t := by
      funext t
      unfold upd
      by_cases e : t = i
      · rw [if_pos e, if_pos (by omega)]
      · rw [if_neg e]
        by_cases e2 : t < i
        · exact (if_pos e2).trans (if_pos (show t < i + 1 by omega)).symm
        · exact (if_neg e2).trans (if_neg (show ¬ t < i + 1 by omega)).symm
    rw [ef]
  · show J7_fill_53178_b5 _ _ _ _ _ = _
    unfold J7_fill_53178_b5
    simp (disch := omega) only [q_le]
    rw [if_pos (by omega)]
    rfl
end CR
theorem ag_drop : lx_ag_drop Inv := by
  intro j hp h hj a1
  have hM0 := Inv_M h
  have hS := Inv_S _ _ h
  obtain ⟨ks, ka, kl, kr, sc, ar, T, n, o, A, h⟩ := h
  rcases row_sp a1 with ⟨k, hk, rfl, r1, r2⟩ | ⟨r1, r2⟩
  case inr =>
    refine ⟨-1000001, hp, hp, ?_, hM0, ?_, hS⟩
    · unfold X11_drop_F
      rw [r1, Option.bind_some, if_pos e00]
    · unfold X12_drop_F
      rw [r2, Option.bind_some, if_pos e00]
  obtain ⟨q1, q2, q3, q4, q5⟩ := h.2.2.2.1 k hk
  unfold X11_drop_F X12_drop_F
  simp only [r1, r2, Option.bind_some, if_neg e10, c0_r0 h.1, c1_ob h.1, c_miss h.1 hk]
  by_cases hm : ka 12 k = (-1)
  · rw [if_pos hm, if_neg e10, c0_ob h.1]
    obtain ⟨hp1, e1, e2, e3, e4⟩ := k_fin h.1 (nI 1)
    obtain ⟨C, P, hC, rfl⟩ := MV_ex (MV_f h.2.1 (fun q hq => e4 q (by omega)))
    refine ⟨_, _, _, by rw [Option.bind_some, e1]; rfl, hM_38 hC, ?_, IV_find h hC e2 e3 e4⟩
    rw [m_r5 hC, Option.bind_some, m_ld3 hC hk, Option.bind_some, q1, hm, if_neg (by decide), m_ob hC, Option.bind_some, m_find hC]
    rfl
  · rw [if_neg hm, if_pos e00]
    obtain ⟨m, hm1, hm2⟩ := q3.resolve_left hm
    obtain ⟨hp1, e1, e2, e3, e4⟩ := c12_st h.1 hk (-1)
    obtain ⟨hp2, f1, f2, f3, f4⟩ := k_unf e2 (ka 12 k)
    obtain ⟨C, P, hC, rfl⟩ := MV_ex (MV_f h.2.1 (fun q hq => (f4 q (by omega)).trans (e4 q (by omega))))
    refine ⟨ka 12 k, hM C sc ar P, hM C (upd sc 10 (nI 0)) (va_up ar 3 (upd (ar 3) k (-1))) P, ?_, hM_38 hC, ?_, ⟨_, _, _, _, _, _, _, _, _, _, IV_X h hC f2 (f3.trans e3) (fun q hq => (f4 q (by omega)).trans (e4 q (by omega))) rfl rfl h.2.2.2.2.2.2.2.2.2.2.2 rfl rfl (I_rows_size h.2.2.2.1 (-1) (Or.inl rfl)) ?_ ?_ ?_ (fun _ _ => rfl) (fun _ _ => rfl) rfl rfl⟩⟩
    · unfold X6_lose_F
      rw [c1_ob h.1, Option.bind_some, c_miss h.1 hk, Option.bind_some, if_neg hm, if_pos e00, c1_r2 h.1, Option.bind_some, ld_at (cv12 h.1) (by decide) hk, Option.bind_some, Option.bind_some, e1]
      simp only [Option.bind_some, c0_ob e2, f1]
    · simp only [m_r5 hC, m_ld3 hC hk, m_st3 hC hk, Option.bind_some, q1, hm2, if_pos (nI_pos' (show m < 2147483648 by omega)), m_ob hC, m_well hC]
    · exact h.2.2.2.2.1
    · exact ⟨h.2.2.2.2.2.1.1, rfl⟩
    · exact h.2.2.2.2.2.2.1
