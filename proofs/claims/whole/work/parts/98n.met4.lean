/-! ===== the class's six gathered words (cell 31) ===== -/
section C31
variable {hp : kw_H} {ks ka : Nat → Nat → Int32} {kl : Nat → Nat → Int64} {kr : Nat → Nat → Option Nat}
theorem CV_31 (h : CV hp ks ka kl kr) (f : Nat → Int32) : CV (hp.set 31 (.inl (0, 6, .inl f))) ks (va_up ka 31 f) kl kr := by
  intro q hq
  have hl : 31 < hp.length := (List.getElem?_eq_some_iff.mp (cv31 h)).1
  by_cases e : q = 31
  · subst e
    rw [List.getElem?_set_self hl]
    rfl
  · rw [List.getElem?_set_ne (fun z => e z.symm), h q hq]
    exact CV_otherA hq e
theorem c_fill31 (h : CV hp ks ka kl kr) : J7_fill_53178_F hp 31 (nI 0) = some (hp.set 31 (.inl (0, 6, .inl (fun t => if t < 6 then nI 0 else ka 31 t)))) := by
  have hr := cv31 h
  have hl : 31 < hp.length := (List.getElem?_eq_some_iff.mp hr).1
  have e0 : kp_len hp 31 = some (nI 6) := by
    unfold kp_len
    rw [hr]; rfl
  unfold J7_fill_53178_F
  rw [e0, Option.bind_some]
  have e1 : hp = hp.set 31 (.inl (0, 6, .inl (fun t => if t < 0 then nI 0 else ka 31 t))) := by
    apply List.ext_getElem?
    intro q
    by_cases e : q = 31
    · subst e
      rw [List.getElem?_set_self hl, hr]
      rfl
    · rw [List.getElem?_set_ne (fun z => e z.symm)]
  conv => lhs; rw [e1]
  refine lp_for (fun i => (nI i, hp.set 31 (.inl (0, 6, .inl (fun t => if t < i then nI 0 else ka 31 t))))) 6 _ (fun i hi => ?_) ?_ 2000 (by decide)
  · show J7_fill_53178_b5 _ _ _ _ _ = _
    unfold J7_fill_53178_b5
    simp (disch := omega) only [q_le]
    rw [if_neg (by omega), st_at (List.getElem?_set_self hl) (by decide) hi, Option.bind_some, List.set_set, nI_add]
    have ef : upd (fun t => if t < i then nI 0 else ka 31 t) i (nI 0) = fun t => if t < i + 1 then nI 0 else ka 31 t := by
      funext t
      unfold upd
      by_cases e : t = i
      · rw [if_pos e, if_pos (by omega)]
      · rw [if_neg e]
        by_cases e2 : t < i
        · exact (if_pos e2).trans (if_pos (show t < i + 1 by omega)).symm
        · exact (if_neg e2).trans (if_neg (show ¬ t < i + 1 by omega)).symm
    rw [ef]
  · show J7_fill_53178_b5 _ _ _ _ _ = _
    unfold J7_fill_53178_b5
    simp (disch := omega) only [q_le]
    rw [if_pos (by omega)]
    rfl
end C31
