/-! ===== the reference: a week passes; towns are copied ===== -/
theorem eI_nat {z : Int} (h : 0 ≤ z) : eI z = nI z.toNat := by
  rw [eI_n]
  congr 1
  omega
theorem m_far {hp : kw_H} {kd b w : Nat} (hk : 1 ≤ kd ∧ kd ≤ 5) (hb : b ≤ 9) (hw : w ≤ 2000) : X12_far_F hp (nI kd) (nI b) (nI w) = some (eI (tH kd b w)) := by
  unfold X12_far_F tH
  simp (disch := omega) only [q_eq, q_rem, Option.bind_some, nI_add, q_eq0]
  by_cases h1 : kd = 1
  · simp [h1, eI_n]
  · by_cases h2 : kd = 2
    · simp [h2, eI_n]
    · by_cases h3 : kd = 3
      · by_cases h4 : w % 2 = 0 <;> simp [h3, h4, eI_n]
      · by_cases h5 : kd = 4
        · simp [h5, eI_n]
        · by_cases h6 : kd = 5
          · by_cases h7 : w % 3 = 0
            · simp only [h6, h7, if_true, eI_n, eI_neg, eI_sub]
              simp
              congr 1
              omega
            · simp [h6, h7, eI_n]
          · omega
section MPass
variable {C P : kw_H} {sc : Nat → Int32} {ar : Nat → Nat → Int32} {f : Nat → Int32} {b : Nat} {T : Tw}
theorem m_farOf (hC : C.length = 38) (hb : b ≤ 1782) (hA : tL f b T) (hT : tOk T) {t : Nat} (ht : t < T 2) : X12_farOf_F (hR C sc ar P f) 38 (nI b) (nI t) = some (eI (tH (T (22 + t)) (T (26 + t)) (T 3))) := by
  obtain ⟨h0, h1, h2, h3, h4, h5, h6, h7, h8, h9, -⟩ := id hT
  have e3 := hA 3 (by omega)
  have e1 := hA (22 + t) (by omega)
  have e2 := hA (26 + t) (by omega)
  rw [← Nat.add_assoc] at e1 e2
  have g1 := h8 t ht
  have g2 := h9 t ht
  unfold X12_farOf_F
  simp (disch := omega) only [r_r0 hC, Option.bind_some, nI_add, r_ld hC, e1, e2, e3, m_far]
theorem m_turnBy (hC : C.length = 38) (hb : b ≤ 1782) (hA : tL f b T) (hT : tOk T) {z : Int} (hz : -3000 ≤ z ∧ z ≤ 3000) : X12_turnBy_F (hR C sc ar P f) 38 (nI b) (eI z) = some (hR C sc ar P (upd f (b + 4) (nI ((T 4 + z) % T 1).toNat))) := by
  obtain ⟨h0, h1, h2, h3, h4, -⟩ := id hT
  have e1 := hA 1 (by omega)
  have e4 := hA 4 (by omega)
  have g1 := Int.emod_nonneg (T 4 + z) (b := (T 1 : Int)) (by omega)
  have g2 := Int.emod_lt_of_pos (T 4 + z) (b := (T 1 : Int)) (by omega)
  have g3 := Int.tmod_eq_emod (a := (T 4 : Int) + z) (b := T 1)
  unfold X12_turnBy_F
  simp (disch := omega) only [r_r0 hC, Option.bind_some, nI_add, r_ld hC, e1, e4]
  rw [eI_n (T 4), eI_add, eI_rem (by omega) (by omega) (by omega) (by omega)]
  simp only [Option.bind_some]
  have g4 : -8 < ((T 4 : Int) + z).tmod (T 1) ∧ ((T 4 : Int) + z).tmod (T 1) < 8 := by
    split at g3 <;> omega
  rw [eI_n (T 1), eI_add, ← eI_n (T 1), eI_rem (by omega) (by omega) (by omega) (by omega)]
  simp (disch := omega) only [Option.bind_some, r_st hC]
  congr 2
  have g5 : (((T 4 : Int) + z).tmod (T 1) + (T 1 : Int)).tmod (T 1) = ((T 4 : Int) + z) % T 1 := by
    have k0 : 0 ≤ ((T 4 : Int) + z).tmod (T 1) + (T 1 : Int) := by
      split at g3 <;> omega
    rw [Int.tmod_eq_emod_of_nonneg k0]
    split at g3
    · rw [g3, Int.add_emod_right]
      simp
    · rw [g3]
      have : ((T 4 : Int) + z) % (T 1 : Int) - ((T 1 : Int).natAbs : Int) + (T 1 : Int) = ((T 4 : Int) + z) % (T 1 : Int) := by omega
      rw [this, Int.emod_emod_of_dvd _ (Int.dvd_refl _)]
  rw [g5, eI_nat g1]
/-- the row behind s slots of a week -/
def pF (T : Tw) (b : Nat) (f : Nat → Int32) : Nat → Nat → Int32
  | 0 => f
  | s + 1 => if tD T s (T 4) (T 5) = 6 then pF T b f s else upd (pF T b f s) (b + 30 + 6 * tD T s (T 4) (T 5) + tJ T s (T 4)) (pF T b f s (b + 30 + 6 * tD T s (T 4) (T 5) + tJ T s (T 4)) + nI 1)
theorem pF_facts (hA : tA f b T) (hT : tOk T) : ∀ s, s ≤ T 0 → (∀ k, k < b + 30 ∨ b + 66 ≤ k → pF T b f s k = f k) ∧ ∀ q, q < 36 → pF T b f s (b + (30 + q)) = nI (T (30 + q) + q_ct (tc T (T 4) (T 5) q) s)
  | 0, _ => ⟨fun _ _ => rfl, fun q hq => by rw [show pF T b f 0 = f from rfl, hA (30 + q) (by omega)]; rfl⟩
  | s + 1, hs => by
    obtain ⟨i1, i2⟩ := pF_facts hA hT s (by omega)
    have hj := tJ_le hT (s := s) (t := T 4)
    have hd := tD_le hT (s := s) (t := T 4) (g := T 5)
    have ep : pF T b f (s + 1) = if tD T s (T 4) (T 5) = 6 then pF T b f s else upd (pF T b f s) (b + 30 + 6 * tD T s (T 4) (T 5) + tJ T s (T 4)) (pF T b f s (b + 30 + 6 * tD T s (T 4) (T 5) + tJ T s (T 4)) + nI 1) := rfl
    have ec : ∀ q, q_ct (tc T (T 4) (T 5) q) (s + 1) = q_ct (tc T (T 4) (T 5) q) s + (if tc T (T 4) (T 5) q s = true then 1 else 0) := fun _ => rfl
    rw [ep]
    by_cases g : tD T s (T 4) (T 5) = 6
    · rw [if_pos g]
      refine ⟨i1, fun q hq => ?_⟩
      rw [i2 q hq, ec, if_neg (by simp [tc, g])]
      rfl
    · have hj6 := tD_job g
      rw [if_neg g]
      refine ⟨fun k hk => ?_, fun q hq => ?_⟩
      · rw [pk_un (by omega)]
        exact i1 k hk
      · rw [ec]
        by_cases e : 6 * tD T s (T 4) (T 5) + tJ T s (T 4) = q
        · rw [show b + (30 + q) = b + 30 + 6 * tD T s (T 4) (T 5) + tJ T s (T 4) by omega, pk_us, show b + 30 + 6 * tD T s (T 4) (T 5) + tJ T s (T 4) = b + (30 + q) by omega, i2 q hq, nI_add, if_pos (by simp [tc, g, e])]
          rfl
        · rw [pk_un (by omega), i2 q hq, if_neg (by simp [tc, e])]
          rfl
theorem m_pass (hC : C.length = 38) (hb : b ≤ 1782) (hA : tA f b T) (hT : tOk T) {z : Int} (hz : -3000 ≤ z ∧ z ≤ 3000) : ∃ f', X12_pass_F (hR C sc ar P f) 38 (nI b) (eI z) = some (hR C sc ar P f') ∧ tA f' b (tP T z) ∧ ∀ k, k < b ∨ b + 66 ≤ k → f' k = f k := by
  obtain ⟨h0, h1, h2, h3, h4, h5, h6, h7, h8, h9, h10⟩ := id hT
  have hl : ∀ s, s ≤ T 0 → tL (pF T b f s) b T := fun s hs k hk => by
    rw [(pF_facts hA hT s hs).1 _ (by omega)]
    exact hA k (by omega)
  obtain ⟨i1, i2⟩ := pF_facts hA hT (T 0) (Nat.le_refl _)
  have e3 : pF T b f (T 0) (b + 3) = nI (T 3) := hl _ (Nat.le_refl _) 3 (by omega)
  refine ⟨upd (upd (upd (pF T b f (T 0)) (b + 4) (nI ((T 4 + z) % T 1).toNat)) (b + 5) (nI 0)) (b + 3) (nI (T 3 + 1)), ?_, ?_, ?_⟩
  · unfold X12_pass_F
    rw [show (nI 0, hR C sc ar P f) = (fun s => (nI s, hR C sc ar P (pF T b f s))) 0 from rfl]
    refine lp_for (fun s => (nI s, hR C sc ar P (pF T b f s))) (T 0) _ ?_ ?_ 2000 (by omega)
    · intro s hs
      have hjl := tJ_le hT (s := s) (t := T 4)
      have hdl := tD_le hT (s := s) (t := T 4) (g := T 5)
      have e0 : pF T b f s b = nI (T 0) := hl s (by omega) 0 (by omega)
      unfold X12_pass_B2 X12_pass_b2
      simp (disch := omega) only [r_r0 hC, r_ob hC, Option.bind_some, nI_add, Nat.add_zero, r_ld hC, e0, q_le, m_doerOf hC hb (hl s (by omega)) hT hs]
      rw [if_neg (by omega)]
      by_cases g : tD T s (T 4) (T 5) = 6
      · rw [if_pos g, if_pos rfl]
        simp only [X12_pass_J55, nI_add]
        have ep : pF T b f (s + 1) = pF T b f s := by show (if _ then _ else _) = _; rw [if_pos g]
        rw [ep]
      · have hj6 := tD_job g
        rw [if_neg g, if_neg (by rw [q_none (by omega)]; exact id)]
        simp (disch := omega) only [m_jobOf hC hb (hl s (by omega)) hT hs, Option.bind_some]
        rw [if_neg hj6]
        simp (disch := omega) only [pk_mul, nI_add, r_ld hC, Option.bind_some, r_st hC, X12_pass_J55]
        have ep : pF T b f (s + 1) = upd (pF T b f s) (b + 30 + 6 * tD T s (T 4) (T 5) + tJ T s (T 4)) (pF T b f s (b + 30 + 6 * tD T s (T 4) (T 5) + tJ T s (T 4)) + nI 1) := by show (if _ then _ else _) = _; rw [if_neg g]
        rw [ep]
    · have e0 : pF T b f (T 0) b = nI (T 0) := hl _ (Nat.le_refl _) 0 (by omega)
      unfold X12_pass_B2 X12_pass_b2
      simp (disch := omega) only [r_r0 hC, r_ob hC, Option.bind_some, nI_add, Nat.add_zero, r_ld hC, e0, q_le]
      rw [if_pos (Nat.le_refl _)]
      unfold X12_pass_J61
      simp (disch := omega) only [r_ob hC, Option.bind_some, m_turnBy hC hb (hl _ (Nat.le_refl _)) hT hz, r_r0 hC, nI_add, r_st hC, r_ld hC]
      have e6 : upd (upd (pF T b f (T 0)) (b + 4) (nI ((T 4 + z) % T 1).toNat)) (b + 5) (nI 0) (b + 3) = nI (T 3) := by
        rw [pk_un (by omega), pk_un (by omega), e3]
      rw [e6, nI_add]
      rfl
  · intro k hk
    unfold tP
    by_cases k3 : k = 3
    · subst k3; rw [pk_us]; rfl
    · rw [pk_un (by omega), if_neg k3]
      by_cases k5 : k = 5
      · subst k5; rw [pk_us]; rfl
      · rw [pk_un (by omega)]
        by_cases k4 : k = 4
        · subst k4; rw [pk_us]; rfl
        · rw [pk_un (by omega), if_neg k4, if_neg k5]
          by_cases k30 : 30 ≤ k
          · rw [if_pos k30]
            have := i2 (k - 30) (by omega)
            rw [show 30 + (k - 30) = k by omega] at this
            exact this
          · rw [if_neg k30, i1 _ (by omega)]
            exact hA k hk
  · intro k hk
    rw [pk_un (by omega), pk_un (by omega), pk_un (by omega)]
    exact i1 k (by omega)
theorem m_passAsTold (hC : C.length = 38) (hb : b ≤ 1782) (hA : tA f b T) (hT : tOk T) : ∃ f', X12_passAsTold_F (hR C sc ar P f) 38 (nI b) = some (hR C sc ar P f') ∧ tA f' b (tW T) ∧ ∀ k, k < b ∨ b + 66 ≤ k → f' k = f k := by
  obtain ⟨h0, h1, h2, h3, h4, h5, h6, h7, h8, h9, h10⟩ := id hT
  have hm : T 3 % T 2 < T 2 := Nat.mod_lt _ (by omega)
  have g2 := h9 _ hm
  have g3 := tH_ge (kd := T (22 + T 3 % T 2)) g2 h3
  obtain ⟨f', q1, q2, q3⟩ := m_pass (C := C) (P := P) (sc := sc) (ar := ar) hC hb hA hT (z := tFar T) (by unfold tFar; omega)
  refine ⟨f', ?_, q2, q3⟩
  have e3 := hA 3 (by omega)
  have e2 := hA 2 (by omega)
  unfold X12_passAsTold_F
  simp (disch := omega) only [r_r0 hC, r_ob hC, Option.bind_some, nI_add, r_ld hC, e3, e2, q_rem, m_farOf hC hb hA.tL hT hm]
  unfold tFar at q1
  rw [q1]
  rfl
theorem m_copyTown (hC : C.length = 38) {a : Nat} (ha : a ≤ 1782) (hb : b ≤ 1782) (hd : a + 66 ≤ b ∨ b + 66 ≤ a) : ∃ f', X12_copyTown_F (hR C sc ar P f) 38 (nI a) (nI b) = some (hR C sc ar P f') ∧ (∀ k, k < 66 → f' (b + k) = f (a + k)) ∧ ∀ k, k < b ∨ b + 66 ≤ k → f' k = f k := by
  refine ⟨fun k => if b ≤ k ∧ k < b + 66 then f (a + (k - b)) else f k, ?_, ?_, ?_⟩
  · unfold X12_copyTown_F
    have hst : ∀ F : Nat → Int32, (fun k => if b ≤ k ∧ k < b + 0 then f (a + (k - b)) else f k) = F → F = f := fun F h => by
      rw [← h]; funext k; rw [if_neg (by omega)]
    rw [show (nI 0, hR C sc ar P f) = (fun i => (nI i, hR C sc ar P (fun k => if b ≤ k ∧ k < b + i then f (a + (k - b)) else f k))) 0 from by
      show _ = (nI 0, hR C sc ar P _)
      rw [hst _ rfl]]
    refine lp_for (fun i => (nI i, hR C sc ar P (fun k => if b ≤ k ∧ k < b + i then f (a + (k - b)) else f k))) 66 _ ?_ ?_ 2000 (by omega)
    · intro i hi
      unfold X12_copyTown_B2 X12_copyTown_b2
      simp (disch := omega) only [q_le, r_r0 hC, Option.bind_some, nI_add, r_ld hC, r_st hC]
      rw [if_neg (by omega), if_neg (by omega)]
      congr 4
      funext k
      unfold upd
      by_cases e : k = b + i
      · rw [if_pos e, if_pos (by omega)]
        congr 1
        omega
      · rw [if_neg e]
        dsimp only
        by_cases e2 : b ≤ k ∧ k < b + i
        · rw [if_pos e2, if_pos (by omega)]
        · rw [if_neg e2, if_neg (by omega)]
    · unfold X12_copyTown_B2 X12_copyTown_b2
      rw [if_pos ((q_le (by omega) (by omega)).mpr (Nat.le_refl _))]
      rfl
  · intro k hk
    dsimp only
    rw [if_pos (by omega)]
    congr 1
    omega
  · intro k hk
    dsimp only
    rw [if_neg (by omega)]
/-- n weeks -/
def tWn (T : Tw) : Nat → Tw
  | 0 => T
  | n + 1 => tW (tWn T n)
theorem tW_3 (T : Tw) : tW T 3 = T 3 + 1 := rfl
theorem tWn_3 (T : Tw) : ∀ n, tWn T n 3 = T 3 + n
  | 0 => rfl
  | n + 1 => by
    show tW (tWn T n) 3 = _
    rw [tW_3, tWn_3 T n]
    omega
theorem tWn_ok (hT : tOk T) : ∀ n, T 3 + n ≤ 2000 → tOk (tWn T n)
  | 0, _ => hT
  | n + 1, h => tP_ok (tWn_ok hT n (by omega)) (by rw [tWn_3]; omega)
/-- n weeks of the tried town -/
theorem m_weeks (hC : C.length = 38) (hb : b ≤ 1782) (hA : tA f b T) (hT : tOk T) : ∀ n, T 3 + n ≤ 2000 → ∃ F : Nat → Nat → Int32, F 0 = f ∧ (∀ i, i ≤ n → tA (F i) b (tWn T i) ∧ ∀ k, k < b ∨ b + 66 ≤ k → F i k = f k) ∧ ∀ i, i < n → X12_passAsTold_F (hR C sc ar P (F i)) 38 (nI b) = some (hR C sc ar P (F (i + 1)))
  | 0, _ => ⟨fun _ => f, rfl, fun i hi => by
      have : i = 0 := by omega
      subst this
      exact ⟨hA, fun _ _ => rfl⟩, fun i hi => by omega⟩
  | n + 1, h => by
    obtain ⟨F, q0, q1, q2⟩ := m_weeks hC hb hA hT n (by omega)
    obtain ⟨f', p1, p2, p3⟩ := m_passAsTold (C := C) (P := P) (sc := sc) (ar := ar) hC hb (q1 n (Nat.le_refl _)).1 (tWn_ok hT n (by omega))
    refine ⟨fun i => if i ≤ n then F i else f', ?_, fun i hi => ?_, fun i hi => ?_⟩
    · show (if 0 ≤ n then F 0 else f') = f
      rw [if_pos (by omega), q0]
    · by_cases e : i ≤ n
      · simp only [e, if_true]
        exact q1 i e
      · have : i = n + 1 := by omega
        subst this
        simp only [e, if_false]
        exact ⟨p2, fun k hk => (p3 k hk).trans ((q1 n (Nat.le_refl _)).2 k hk)⟩
    · by_cases e : i < n
      · simp only [show i ≤ n by omega, show i + 1 ≤ n by omega, if_true]
        exact q2 i e
      · have : i = n := by omega
        subst this
        simp only [Nat.le_refl, if_true, show ¬ i + 1 ≤ i by omega, if_false]
        exact p1
end MPass
