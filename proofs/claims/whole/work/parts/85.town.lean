/-! ===== a town (what a KITCHEN is): 66 numbers, laid as the reference lays them: 0 names' slots, 1 jobs' slots, 2 turners, 3 week, 4 turned, 5 away, 6.. names, 14.. jobs, 22.. kinds, 26.. by, 30.. done ===== -/
abbrev Tw : Type := Nat → Nat
def tOk (T : Tw) : Prop := (1 ≤ T 0 ∧ T 0 ≤ 8) ∧ (1 ≤ T 1 ∧ T 1 ≤ 8) ∧ (1 ≤ T 2 ∧ T 2 ≤ 4) ∧ T 3 ≤ 2000 ∧ T 4 < T 1 ∧ T 5 < 64 ∧ (∀ k, k < T 0 → T (6 + k) ≤ 6) ∧ (∀ k, k < T 1 → T (14 + k) ≤ 6) ∧ (∀ k, k < T 2 → 1 ≤ T (22 + k) ∧ T (22 + k) ≤ 5) ∧ (∀ k, k < T 2 → T (26 + k) ≤ 9) ∧ (∀ k, k < 36 → T (30 + k) ≤ 8 * T 3)
/-- the job that the name in slot s has, were it turned by t; 6: none -/
def tJ (T : Tw) (s t : Nat) : Nat := if T (6 + s) = 6 then 6 else T (14 + (s + t) % T 1)
/-- who does it, with those away in g; 6: none -/
def tD (T : Tw) (s t g : Nat) : Nat := if tJ T s t = 6 then 6 else ((List.range (T 0)).findSome? (fun k => if T (6 + (s + k) % T 0) = 6 ∨ g.testBit (T (6 + (s + k) % T 0)) = true then none else some (T (6 + (s + k) % T 0)))).getD 6
/-- how far a turner turns -/
def tH (kd by_ wk : Nat) : Int := if kd = 1 then 1 else if kd = 2 then by_ else if kd = 3 then (if wk % 2 = 0 then by_ + 1 else by_) else if kd = 4 then wk + by_ else if wk % 3 = 0 then -(wk + by_ : Int) else wk + by_
def q_ct (p : Nat → Bool) : Nat → Nat
  | 0 => 0
  | n + 1 => q_ct p n + (if p n = true then 1 else 0)
theorem q_ct_le (p : Nat → Bool) : ∀ n, q_ct p n ≤ n
  | 0 => Nat.le_refl _
  | n + 1 => by
    have := q_ct_le p n
    unfold q_ct
    split <;> omega
/-- slot s gives one to the count of person and job q = 6 * person + job -/
def tc (T : Tw) (t g q : Nat) (s : Nat) : Bool := decide (tD T s t g ≠ 6 ∧ 6 * tD T s t g + tJ T s t = q)
/-- a week, turned by z -/
def tP (T : Tw) (z : Int) : Tw := fun k => if k = 3 then T 3 + 1 else if k = 4 then ((T 4 + z) % T 1).toNat else if k = 5 then 0 else if 30 ≤ k then T k + q_ct (tc T (T 4) (T 5) (k - 30)) (T 0) else T k
def tFar (T : Tw) : Int := tH (T (22 + T 3 % T 2)) (T (26 + T 3 % T 2)) (T 3)
def tW (T : Tw) : Tw := tP T (tFar T)
def tA (f : Nat → Int32) (b : Nat) (T : Tw) : Prop := ∀ k, k < 66 → f (b + k) = nI (T k)
def tL (f : Nat → Int32) (b : Nat) (T : Tw) : Prop := ∀ k, k < 30 → f (b + k) = nI (T k)
theorem tA.tL {f : Nat → Int32} {b : Nat} {T : Tw} (h : tA f b T) : tL f b T := fun k hk => h k (by omega)
theorem tJ_le {T : Tw} (h : tOk T) {s t : Nat} : tJ T s t ≤ 6 := by
  unfold tJ
  split
  · exact Nat.le_refl _
  · exact h.2.2.2.2.2.2.2.1 _ (Nat.mod_lt _ (by have := h.2.1; omega))
theorem tD_le {T : Tw} (h : tOk T) {s t g : Nat} : tD T s t g ≤ 6 := by
  unfold tD
  split
  · exact Nat.le_refl _
  · cases hf : (List.range (T 0)).findSome? (fun k => if T (6 + (s + k) % T 0) = 6 ∨ g.testBit (T (6 + (s + k) % T 0)) = true then none else some (T (6 + (s + k) % T 0))) with
    | none => exact Nat.le_refl _
    | some w =>
      obtain ⟨k, -, hk⟩ := List.exists_of_findSome?_eq_some hf
      split at hk
      · cases hk
      · cases hk
        exact h.2.2.2.2.2.2.1 _ (Nat.mod_lt _ (by have := h.1; omega))
theorem tD_job {T : Tw} {s t g : Nat} (h : tD T s t g ≠ 6) : tJ T s t ≠ 6 := by
  intro h1
  apply h
  unfold tD
  rw [if_pos h1]
theorem tH_ge {kd b w : Nat} (hb : b ≤ 9) (hw : w ≤ 2000) : -2009 ≤ tH kd b w ∧ tH kd b w ≤ 2009 := by
  unfold tH
  repeat' split
  all_goals omega
theorem tP_ok {T : Tw} {z : Int} (h : tOk T) (hw : T 3 + 1 ≤ 2000) : tOk (tP T z) := by
  obtain ⟨h0, h1, h2, h3, h4, h5, h6, h7, h8, h9, h10⟩ := h
  have e0 : tP T z 0 = T 0 := rfl
  have e1 : tP T z 1 = T 1 := rfl
  have e2 : tP T z 2 = T 2 := rfl
  have e3 : tP T z 3 = T 3 + 1 := rfl
  have e4 : tP T z 4 = ((T 4 + z) % T 1).toNat := rfl
  have e5 : tP T z 5 = 0 := rfl
  have el : ∀ k, 6 ≤ k → k < 30 → tP T z k = T k := by
    intro k g1 g2
    unfold tP
    rw [if_neg (by omega), if_neg (by omega), if_neg (by omega), if_neg (by omega)]
  refine ⟨by rw [e0]; exact h0, by rw [e1]; exact h1, by rw [e2]; exact h2, by rw [e3]; omega, ?_, by rw [e5]; omega, ?_, ?_, ?_, ?_, ?_⟩
  · rw [e4, e1]
    have g1 := Int.emod_nonneg (T 4 + z) (b := (T 1 : Int)) (by omega)
    have g2 := Int.emod_lt_of_pos (T 4 + z) (b := (T 1 : Int)) (by omega)
    omega
  · rw [e0]; intro k hk; rw [el _ (by omega) (by omega)]; exact h6 k hk
  · rw [e1]; intro k hk; rw [el _ (by omega) (by omega)]; exact h7 k hk
  · rw [e2]; intro k hk; rw [el _ (by omega) (by omega)]; exact h8 k hk
  · rw [e2]; intro k hk; rw [el _ (by omega) (by omega)]; exact h9 k hk
  · intro k hk
    rw [e3]
    have g1 := h10 k hk
    have g2 := q_ct_le (tc T (T 4) (T 5) (30 + k - 30)) (T 0)
    unfold tP
    rw [if_neg (by omega), if_neg (by omega), if_neg (by omega), if_pos (by omega)]
    omega
/-! the reference's row under a name of its own -/
def hR (C : kw_H) (sc : Nat → Int32) (ar : Nat → Nat → Int32) (P : kw_H) (f : Nat → Int32) : kw_H := hM C sc (va_up ar 0 f) P
theorem hR_self (C : kw_H) (sc : Nat → Int32) (ar : Nat → Nat → Int32) (P : kw_H) : hM C sc ar P = hR C sc ar P (ar 0) := by
  unfold hR
  congr 1
  funext k
  unfold va_up
  split
  · rename_i h; rw [h]
  · rfl
section MTown
variable {C P : kw_H} {sc : Nat → Int32} {ar : Nat → Nat → Int32} {f : Nat → Int32} {b : Nat} {T : Tw}
theorem r_r0 (hC : C.length = 38) : kp_gR (hR C sc ar P f) 38 [11] 0 = some 39 := m_r0 hC
theorem r_ob (hC : C.length = 38) : kp_ob (hR C sc ar P f) 38 11 = some () := m_ob hC
theorem r_ld (hC : C.length = 38) {j : Nat} (hj : j < 1848) : kp_ldI (hR C sc ar P f) 39 (nI j) = some (f j) := m_ld0 hC hj
theorem r_st (hC : C.length = 38) {j : Nat} (hj : j < 1848) (x : Int32) : kp_stI (hR C sc ar P f) 39 (nI j) x = some (hR C sc ar P (upd f j x)) := by
  unfold hR
  rw [m_st0 hC hj]
  congr 2
  exact bx_uu ar 0 f _
theorem m_nameAt (hC : C.length = 38) (hb : b ≤ 1782) (hA : tL f b T) {s : Nat} (hs : s < 8) : X12_nameAt_F (hR C sc ar P f) 38 (nI b) (nI s) = some (nI (T (6 + s))) := by
  unfold X12_nameAt_F
  simp (disch := omega) only [r_r0 hC, Option.bind_some, nI_add, r_ld hC]
  rw [Nat.add_assoc, hA (6 + s) (by omega)]
theorem m_jobOf (hC : C.length = 38) (hb : b ≤ 1782) (hA : tL f b T) (hT : tOk T) {s : Nat} (hs : s < T 0) : X12_jobOf_F (hR C sc ar P f) 38 (nI b) (nI s) = some (if tJ T s (T 4) = 6 then (-1000000) else nI (tJ T s (T 4))) := by
  obtain ⟨h0, h1, h2, h3, h4, h5, h6, h7, -⟩ := id hT
  have hm : (s + T 4) % T 1 < T 1 := Nat.mod_lt _ (by omega)
  have e4 := hA 4 (by omega)
  have e1 := hA 1 (by omega)
  have ej := hA (14 + (s + T 4) % T 1) (by omega)
  rw [← Nat.add_assoc] at ej
  have h6s := h6 s hs
  have h7s := h7 _ hm
  unfold X12_jobOf_F
  simp (disch := omega) only [r_r0 hC, r_ob hC, Option.bind_some, nI_add, r_ld hC, e4, e1, ej, q_rem, m_nameAt hC hb hA, q_eq]
  unfold tJ
  by_cases g1 : T (6 + s) = 6
  · simp [g1]
  · by_cases g2 : T (14 + (s + T 4) % T 1) = 6
    · simp [g1, g2]
    · simp [g1, g2]
theorem q_bit0 : ∀ g, g < 64 → ∀ k, k < 8 → ((nI g >>> (nI k &&& 31)) &&& (nI 1)) = nI (if g.testBit k = true then 1 else 0) := by decide +kernel
theorem q_bit {g k : Nat} (hg : g < 64) (hk : k < 8) : ((nI g >>> (nI k &&& 31)) &&& (nI 1)) = nI (if g.testBit k = true then 1 else 0) := q_bit0 g hg k hk
theorem m_has {hp : kw_H} {g k : Nat} (hg : g < 64) (hk : k < 8) : X12_has_F hp (nI g) (nI k) = some (nI (if g.testBit k = true then 1 else 0)) := by
  unfold X12_has_F
  rw [q_bit hg hk]
  by_cases h : g.testBit k = true
  · simp [h]
  · simp [h, q_eq]
theorem m_doerOf (hC : C.length = 38) (hb : b ≤ 1782) (hA : tL f b T) (hT : tOk T) {s : Nat} (hs : s < T 0) : X12_doerOf_F (hR C sc ar P f) 38 (nI b) (nI s) = some (if tD T s (T 4) (T 5) = 6 then (-1000000) else nI (tD T s (T 4) (T 5))) := by
  obtain ⟨h0, h1, h2, h3, h4, h5, h6, h7, -⟩ := id hT
  have e0 : f b = nI (T 0) := hA 0 (by omega)
  have e5 := hA 5 (by omega)
  unfold X12_doerOf_F
  simp (disch := omega) only [r_r0 hC, r_ob hC, Option.bind_some, nI_add, Nat.add_zero, r_ld hC, e0, m_jobOf hC hb hA hT hs]
  have hj := tJ_le hT (s := s) (t := T 4)
  by_cases g1 : tJ T s (T 4) = 6
  · have : tD T s (T 4) (T 5) = 6 := by unfold tD; rw [if_pos g1]
    simp [g1, this]
  · rw [if_neg g1, if_neg (by rw [q_none (by omega)]; exact id)]
    rw [show nI 0 = (fun k => nI k) 0 from rfl]
    rw [lp_find (fun k => nI k) (T 0) (fun k => if T (6 + (s + k) % T 0) = 6 ∨ (T 5).testBit (T (6 + (s + k) % T 0)) = true then none else some (nI (T (6 + (s + k) % T 0)))) (-1000000) ?_ ?_ 2000 (by omega)]
    · unfold tD
      rw [if_neg g1]
      generalize hL : List.range (T 0) = Lr
      have hmap : Lr.findSome? (fun k => if T (6 + (s + k) % T 0) = 6 ∨ (T 5).testBit (T (6 + (s + k) % T 0)) = true then none else some (nI (T (6 + (s + k) % T 0)))) = (Lr.findSome? (fun k => if T (6 + (s + k) % T 0) = 6 ∨ (T 5).testBit (T (6 + (s + k) % T 0)) = true then none else some (T (6 + (s + k) % T 0)))).map nI := by
        clear hL
        induction Lr with
        | nil => rfl
        | cons x l ih =>
          rw [List.findSome?_cons, List.findSome?_cons]
          by_cases hx : T (6 + (s + x) % T 0) = 6 ∨ (T 5).testBit (T (6 + (s + x) % T 0)) = true
          · simp only [hx, if_true, ih]
          · simp only [hx, if_false, Option.map_some]
      rw [hmap]
      cases hf : Lr.findSome? (fun k => if T (6 + (s + k) % T 0) = 6 ∨ (T 5).testBit (T (6 + (s + k) % T 0)) = true then none else some (T (6 + (s + k) % T 0))) with
      | none => simp
      | some w =>
        have hw : w ≠ 6 := by
          obtain ⟨k, -, hk⟩ := List.exists_of_findSome?_eq_some hf
          split at hk
          · cases hk
          · rename_i hh
            cases hk
            exact fun z => hh (Or.inl z)
        simp [hw]
    · intro k hk
      have hm : (s + k) % T 0 < T 0 := Nat.mod_lt _ (by omega)
      have hn := h6 _ hm
      unfold X12_doerOf_B26 X12_doerOf_b26
      simp (disch := omega) only [nI_add, q_le, q_rem, Option.bind_some, r_ob hC, m_nameAt hC hb hA, q_eq, r_r0 hC, r_ld hC, e5, m_has h5]
      rw [if_neg (by omega)]
      by_cases g2 : T (6 + (s + k) % T 0) = 6
      · simp [g2, X12_doerOf_J71, nI_add]
      · by_cases g3 : (T 5).testBit (T (6 + (s + k) % T 0)) = true
        · simp [g2, g3, X12_doerOf_J71, nI_add, q_eq0]
        · simp [g2, g3, X12_doerOf_J68, q_eq0]
    · unfold X12_doerOf_B26 X12_doerOf_b26
      rw [if_pos ((q_le (by omega) (by omega)).mpr (Nat.le_refl _))]
      rfl
end MTown
