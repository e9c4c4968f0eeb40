/-! ===== hasJobs, whoDoes ===== -/
section MHas
variable {C P : kw_H} {sc : Nat → Int32} {ar : Nat → Nat → Int32} {f : Nat → Int32} {T : Tw}
theorem m_hasLoop (hC : C.length = 38) (hA : tA f 1782 T) (hT : tOk T) {p : Nat} (hp6 : p < 6) : kp_lp (X12_hasJobs_B42 (hR C sc ar P f) 38 (nI p)) 2000 (nI 0, nI 0) = some (nI (tJs T p (T 4) (T 5)), hR C sc ar P f) := by
  rw [← tJs_alt hT hp6]
  have hlt : ∀ k, k ≤ 6 → q_os (fun q => q_any (tQ T (T 4) (T 5) p q) (T 0)) (fun q => q) k < 64 := fun k hk => q_os_lt k (fun s hs _ => by omega)
  rw [show (nI 0, nI 0) = (fun k => (nI (q_os (fun q => q_any (tQ T (T 4) (T 5) p q) (T 0)) (fun q => q) k), nI k)) 0 from rfl]
  refine lp_for (fun k => (nI (q_os (fun q => q_any (tQ T (T 4) (T 5) p q) (T 0)) (fun q => q) k), nI k)) 6 _ ?_ ?_ 2000 (by omega)
  · intro k hk
    have z := q_sh0 _ (hlt k (by omega)) k hk
    show X12_hasJobs_b42 _ _ _ _ _ = some (Sum.inl (nI (if q_any (tQ T (T 4) (T 5) p k) (T 0) = true then q_os (fun q => q_any (tQ T (T 4) (T 5) p q) (T 0)) (fun q => q) k ||| 2 ^ k else q_os (fun q => q_any (tQ T (T 4) (T 5) p q) (T 0)) (fun q => q) k), nI (k + 1)))
    unfold X12_hasJobs_b42 X12_hasJobs_J68
    simp (disch := omega) only [q_le, r_ob hC, Option.bind_some, m_doesTried hC hA hT hp6 hk, nI_add, z.1, z.2]
    rw [if_neg (show ¬ 6 ≤ k by omega)]
    cases q_any (tQ T (T 4) (T 5) p k) (T 0)
    · rw [if_pos (by decide), if_neg (by decide)]
    · rw [if_neg (by decide), if_pos rfl]
  · show X12_hasJobs_b42 _ _ _ _ _ = _
    unfold X12_hasJobs_b42
    rw [if_pos ((q_le (by omega) (by omega)).mpr (Nat.le_refl _))]
    rfl
theorem m_doersTried (hC : C.length = 38) (hA : tA f 1782 T) (hT : tOk T) {q : Nat} (hq6 : q < 6) : X12_doersTried_F (hR C sc ar P f) 38 (nI q) = some (nI (tDs T q (T 4) (T 5))) := by
  rw [← tDs_alt hT hq6]
  have hlt : ∀ k, k ≤ 6 → q_os (fun p => q_any (tQ T (T 4) (T 5) p q) (T 0)) (fun q => q) k < 64 := fun k hk => q_os_lt k (fun s hs _ => by omega)
  unfold X12_doersTried_F
  rw [show (nI 0, nI 0) = (fun k => (nI (q_os (fun p => q_any (tQ T (T 4) (T 5) p q) (T 0)) (fun q => q) k), nI k)) 0 from rfl]
  refine lp_for (fun k => (nI (q_os (fun p => q_any (tQ T (T 4) (T 5) p q) (T 0)) (fun q => q) k), nI k)) 6 _ ?_ ?_ 2000 (by omega)
  · intro k hk
    have z := q_sh0 _ (hlt k (by omega)) k hk
    show X12_doersTried_b4 _ _ _ _ _ = some (Sum.inl (nI (if q_any (tQ T (T 4) (T 5) k q) (T 0) = true then q_os (fun p => q_any (tQ T (T 4) (T 5) p q) (T 0)) (fun q => q) k ||| 2 ^ k else q_os (fun p => q_any (tQ T (T 4) (T 5) p q) (T 0)) (fun q => q) k), nI (k + 1)))
    unfold X12_doersTried_b4 X12_doersTried_J27
    simp (disch := omega) only [q_le, r_ob hC, Option.bind_some, m_doesTried hC hA hT hk hq6, nI_add, z.1, z.2]
    rw [if_neg (show ¬ 6 ≤ k by omega)]
    cases q_any (tQ T (T 4) (T 5) k q) (T 0)
    · rw [if_pos (by decide), if_neg (by decide)]
    · rw [if_neg (by decide), if_pos rfl]
  · show X12_doersTried_b4 _ _ _ _ _ = _
    unfold X12_doersTried_b4
    rw [if_pos ((q_le (by omega) (by omega)).mpr (Nat.le_refl _))]
    rfl
end MHas
section TCg2
variable {T T' : Tw}
theorem q_os_cg {c c' : Nat → Bool} {v v' : Nat → Nat} : ∀ n, (∀ s, s < n → c s = c' s ∧ v s = v' s) → q_os c v n = q_os c' v' n
  | 0, _ => rfl
  | n + 1, h => by
    unfold q_os
    rw [q_os_cg n (fun s hs => h s (by omega)), (h n (by omega)).1, (h n (by omega)).2]
theorem tJs_cg (hT : tOk T) (h : ∀ k, k < 30 → k ≠ 3 → k ≠ 4 → k ≠ 5 → T' k = T k) {p t g : Nat} : tJs T' p t g = tJs T p t g := by
  obtain ⟨h0, -⟩ := id hT
  unfold tJs
  rw [h 0 (by omega) (by omega) (by omega) (by omega)]
  exact q_os_cg _ (fun s hs => ⟨by rw [tD_cg hT h (by omega)], tJ_cg hT h (by omega)⟩)
theorem tDs_cg (hT : tOk T) (h : ∀ k, k < 30 → k ≠ 3 → k ≠ 4 → k ≠ 5 → T' k = T k) {q t g : Nat} : tDs T' q t g = tDs T q t g := by
  obtain ⟨h0, -⟩ := id hT
  unfold tDs
  rw [h 0 (by omega) (by omega) (by omega) (by omega)]
  exact q_os_cg _ (fun s hs => ⟨by rw [tD_cg hT h (by omega), tJ_cg hT h (by omega)], tD_cg hT h (by omega)⟩)
end TCg2
/-- the reference's tried cells alone change -/
theorem IV_tried {j : Nat} {C P : kw_H} {ks ka : Nat → Nat → Int32} {kl : Nat → Nat → Int64} {kr : Nat → Nat → Option Nat} {sc : Nat → Int32} {ar : Nat → Nat → Int32} {f : Nat → Int32} {T : Tw} {n o : Nat} {A : Nat → Tw} (hC : C.length = 38) (h : IV j (hM C sc ar P) ks ka kl kr sc ar T n o A) (hf : ∀ k, k < 1782 → f k = ar 0 k) : Inv (j + 1) (hR C sc ar P f) :=
  ⟨_, _, _, _, _, _, _, _, _, _, IV_hM hC h h.2.2.2.1 h.2.2.2.2.1 h.2.2.2.2.2.1 h.2.2.2.2.2.2.1 (ar' := va_up ar 0 f) (fun k hk => by rw [up_at]; exact hf k hk) (fun _ _ => rfl) rfl rfl⟩
theorem ag_hasJobs : lx_ag_hasJobs Inv := by
  intro j hp h hj a1 a2
  have hM0 := Inv_M h
  have hS := Inv_S _ _ h
  obtain ⟨ks, ka, kl, kr, sc, ar, T, n, o, A, h⟩ := h
  obtain ⟨C, P, hC, rfl⟩ := MV_ex h.2.1
  have hth := IV_there h
  obtain ⟨⟨v, nm, jb, tu, tm, k1, k2, k3, k4⟩, hA, -⟩ := h.2.2.2.2.2.2.2.1
  unfold X11_hasJobs_F X12_hasJobs_F
  simp only [c0_r2 h.1, Option.bind_some, kc_ob k1, m_g1 hC, l_n 0 (by decide), l_n 60 (by decide), l_in]
  rcases hth with ⟨hT, s1, e1⟩ | ⟨-, s1, e1⟩
  case inr => exact ⟨-1000002, _, by rw [e1, Option.bind_some, if_pos e00], hM0, by rw [s1, if_pos e00], hS⟩
  simp only [e1, s1, Option.bind_some, if_neg e10]
  rcases six_sp a1 with ⟨p, hp1, rfl, b1, -, b2⟩ | ⟨b1, -, b2⟩
  case inr => exact ⟨-1000001, _, by rw [b1, Option.bind_some, if_pos e00], hM0, by rw [b2, Option.bind_some, if_pos e00], hS⟩
  simp only [b1, b2, Option.bind_some, if_neg e10]
  rcases w_spN a2 (a := 0) (b := 60) (by decide) (by decide) with ⟨w, rfl, -, hw, w1⟩ | w1
  case inr => exact ⟨-1000001, _, by rw [w1, Option.bind_some, if_pos e00], hM0, by rw [w1, Option.bind_some, if_pos e00], hS⟩
  have h999 := hT.2
  have h5 := hT.1.2.2.2.2.2.1
  have hbn := tBn_lt hT.1 w
  have h18 := hT.1.2.1
  have hcg : ∀ k, k < 30 → k ≠ 3 → k ≠ 4 → k ≠ 5 → tWn T w k = T k := fun k a b c d => tWn_c a b c d w
  obtain ⟨f', c1, c2, c3⟩ := m_layTried (C := C) (P := P) (sc := sc) (ar := ar) hC hA hT.1 (n := w) (by omega) (by omega)
  rw [← hR_self] at c1
  simp only [w1, Option.bind_some, if_neg e10, c_turnedBehind k1 k2 hT.1 k3 (show T 3 + w ≤ 2000 by omega) (by omega), c_awayBehind k1 k2 (show w ≤ 2000 by omega), m_ob hC, c1]
  refine ⟨nI (tJs T p (tBn T w) (if w = 0 then T 5 else 0)), _, ?_, hM0, ?_, IV_tried hC h c3⟩
  · rw [c_jobsOf k1 k2 hT.1 hp1 (by omega) (by split <;> omega)]
    rfl
  · rw [m_hasLoop hC c2 (tWn_ok hT.1 w (by omega)) hp1, tWn_4 hT.1, tWn_5, tJs_cg hT.1 hcg]
theorem ag_whoDoes : lx_ag_whoDoes Inv := by
  intro j hp h hj a1 a2
  have hM0 := Inv_M h
  have hS := Inv_S _ _ h
  obtain ⟨ks, ka, kl, kr, sc, ar, T, n, o, A, h⟩ := h
  obtain ⟨C, P, hC, rfl⟩ := MV_ex h.2.1
  have hth := IV_there h
  obtain ⟨⟨v, nm, jb, tu, tm, k1, k2, k3, k4⟩, hA, -⟩ := h.2.2.2.2.2.2.2.1
  unfold X11_whoDoes_F X12_whoDoes_F
  simp only [c0_r2 h.1, Option.bind_some, kc_ob k1, m_g1 hC, l_n 0 (by decide), l_n 60 (by decide), l_in]
  rcases hth with ⟨hT, s1, e1⟩ | ⟨-, s1, e1⟩
  case inr => exact ⟨-1000002, _, by rw [e1, Option.bind_some, if_pos e00], hM0, by rw [s1, if_pos e00], hS⟩
  simp only [e1, s1, Option.bind_some, if_neg e10]
  rcases six_sp a1 with ⟨p, hp1, rfl, -, b1, b2⟩ | ⟨-, b1, b2⟩
  case inr => exact ⟨-1000001, _, by rw [b1, Option.bind_some, if_pos e00], hM0, by rw [b2, Option.bind_some, if_pos e00], hS⟩
  simp only [b1, b2, Option.bind_some, if_neg e10]
  rcases w_spN a2 (a := 0) (b := 60) (by decide) (by decide) with ⟨w, rfl, -, hw, w1⟩ | w1
  case inr => exact ⟨-1000001, _, by rw [w1, Option.bind_some, if_pos e00], hM0, by rw [w1, Option.bind_some, if_pos e00], hS⟩
  have h999 := hT.2
  have h5 := hT.1.2.2.2.2.2.1
  have hbn := tBn_lt hT.1 w
  have h18 := hT.1.2.1
  have hcg : ∀ k, k < 30 → k ≠ 3 → k ≠ 4 → k ≠ 5 → tWn T w k = T k := fun k a b c d => tWn_c a b c d w
  obtain ⟨f', c1, c2, c3⟩ := m_layTried (C := C) (P := P) (sc := sc) (ar := ar) hC hA hT.1 (n := w) (by omega) (by omega)
  rw [← hR_self] at c1
  simp only [w1, Option.bind_some, if_neg e10, c_turnedBehind k1 k2 hT.1 k3 (show T 3 + w ≤ 2000 by omega) (by omega), c_awayBehind k1 k2 (show w ≤ 2000 by omega), m_ob hC, c1]
  refine ⟨nI (tDs T p (tBn T w) (if w = 0 then T 5 else 0)), _, ?_, hM0, ?_, IV_tried hC h c3⟩
  · rw [c_doersOf k1 k2 hT.1 hp1 (by omega) (by split <;> omega)]
    rfl
  · rw [r_ob hC, Option.bind_some, m_doersTried hC c2 (tWn_ok hT.1 w (by omega)) hp1, tWn_4 hT.1, tWn_5, tDs_cg hT.1 hcg]
    rfl
