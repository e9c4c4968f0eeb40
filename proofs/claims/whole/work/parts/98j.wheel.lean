/-! ===== the reference: who and what is on a wheel ===== -/
theorem m_onWheel {C P : kw_H} {sc : Nat → Int32} {ar : Nat → Nat → Int32} {f : Nat → Int32} {b w c : Nat} {T : Tw} (hC : C.length = 38) (hb : b ≤ 1782) (hA : tL f b T) (hc : c < 30) (hw : w + 8 ≤ 30) (hn : T c ≤ 8) (h6 : ∀ k, k < T c → T (w + k) ≤ 6) : X12_onWheel_F (hR C sc ar P f) 38 (nI b) (nI w) (nI c) = some (nI (tOn T w (T c))) := by
  unfold X12_onWheel_F
  have hbb : ∀ s, s < T c → decide (T (w + s) ≠ 6) = true → T (w + s) < 6 := fun s hs hd => by
    have hd : T (w + s) ≠ 6 := of_decide_eq_true hd
    have := h6 s hs
    omega
  have ec := hA c hc
  rw [show (nI 0, nI 0) = (fun k => (nI (q_os (fun s => decide (T (w + s) ≠ 6)) (fun s => T (w + s)) k), nI k)) 0 from rfl]
  refine lp_for (fun k => (nI (q_os (fun s => decide (T (w + s) ≠ 6)) (fun s => T (w + s)) k), nI k)) (T c) _ ?_ ?_ 2000 (by omega)
  · intro k hk
    have hl2 := q_os_lt' hbb (n := k) (by omega)
    have hbk := h6 k hk
    have ek := hA (w + k) (by omega)
    rw [← Nat.add_assoc] at ek
    show X12_onWheel_b6 _ _ _ _ _ _ _ = some (Sum.inl (nI (if decide (T (w + k) ≠ 6) = true then q_os (fun s => decide (T (w + s) ≠ 6)) (fun s => T (w + s)) k ||| 2 ^ T (w + k) else q_os (fun s => decide (T (w + s) ≠ 6)) (fun s => T (w + s)) k), nI (k + 1)))
    unfold X12_onWheel_b6 X12_onWheel_J49
    simp (disch := omega) only [r_r0 hC, Option.bind_some, nI_add, r_ld hC, ec, ek, q_le, q_eq]
    rw [if_neg (show ¬ T c ≤ k by omega)]
    by_cases e : T (w + k) = 6
    · rw [if_pos e, if_neg (by simp [e]), (q_sh0 _ hl2 0 (by omega)).1]
    · rw [if_neg e, if_pos (by simp [e]), q_or hl2 (by omega)]
  · show X12_onWheel_b6 _ _ _ _ _ _ _ = _
    unfold X12_onWheel_b6
    simp (disch := omega) only [r_r0 hC, Option.bind_some, nI_add, r_ld hC, ec, q_le]
    rw [if_pos (Nat.le_refl _)]
    rfl
