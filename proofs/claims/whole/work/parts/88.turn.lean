/-! ===== the class: turners, what is turned; sums ===== -/
def tN (T : Tw) (t w : Nat) : Nat := ((t + tH (T (22 + w % T 2)) (T (26 + w % T 2)) w) % T 1).toNat
def tBn (T : Tw) : Nat → Nat
  | 0 => T 4
  | n + 1 => tN T (tBn T n) (T 3 + n)
theorem tN_lt {T : Tw} (h : 1 ≤ T 1) (t w : Nat) : tN T t w < T 1 := by
  unfold tN
  have g1 := Int.emod_nonneg (t + tH (T (22 + w % T 2)) (T (26 + w % T 2)) w) (b := (T 1 : Int)) (by omega)
  have g2 := Int.emod_lt_of_pos (t + tH (T (22 + w % T 2)) (T (26 + w % T 2)) w) (b := (T 1 : Int)) (by omega)
  omega
theorem tBn_lt {T : Tw} (h : tOk T) : ∀ n, tBn T n < T 1
  | 0 => h.2.2.2.2.1
  | n + 1 => tN_lt h.2.1.1 _ _
section KTurn
variable {hp : kw_H} {i : Nat} {v nm jb tm : Nat → Int32} {tu : Nat → Option Nat} {T : Tw}
theorem kp_gI_of {a ci : Nat} {fs : List Value} {cs : List Nat} {k : Nat} {x : Int32} (h : hp[a]? = some (.inr (ci, fs))) (hc : ci ∈ cs) (hk : fs[k]? = some (.int x)) : kp_gI hp a cs k = some x := by
  unfold kp_gI
  rw [h]
  simp only [hc, if_true, hk]
theorem kp_ci_of {a ci : Nat} {fs : List Value} (h : hp[a]? = some (.inr (ci, fs))) : kp_ci hp a = some ci := by
  unfold kp_ci
  rw [h]
theorem c_far {a kd b w : Nat} {x : Int32} (hk : 1 ≤ kd ∧ kd ≤ 5) (hb : b ≤ 9) (hw : w ≤ 2000) (h : hp[a]? = some (.inr (kcn kd, [.int x, .int (nI b)]))) : X2_turnedNext_D24_f hp a (nI w) = some (eI (tH kd b w)) := by
  unfold X2_turnedNext_D24_f
  rw [kp_ci_of h, Option.bind_some]
  rcases (show kd = 1 ∨ kd = 2 ∨ kd = 3 ∨ kd = 4 ∨ kd = 5 by omega) with rfl | rfl | rfl | rfl | rfl
  · show X4_howFar_F hp a (nI w) = _
    unfold X4_howFar_F tH
    simp [eI_n]
  · show X7_howFar_F hp a (nI w) = _
    unfold X7_howFar_F tH
    rw [kp_gI_of h (by decide) rfl]
    simp [eI_n]
  · show X0_howFar_F hp a (nI w) = _
    unfold X0_howFar_F tH
    have := Nat.mod_lt w (show 0 < 2 by omega)
    rw [kp_gI_of h (by decide) rfl]
    simp (disch := omega) only [c_rest, Option.bind_some, q_eq0, nI_add]
    by_cases e : w % 2 = 0 <;> simp [e, eI_n]
  · show X3_howFar_F hp a (nI w) = _
    unfold X3_howFar_F tH
    rw [kp_gI_of h (by decide) rfl]
    simp [eI_n, eI_add]
  · show X5_howFar_F hp a (nI w) = _
    unfold X5_howFar_F X5_howFar_S10_f X5_howFar_S19_f X3_howFar_F tH
    have := Nat.mod_lt w (show 0 < 3 by omega)
    rw [kp_gI_of h (by decide) rfl, kp_ci_of h]
    simp (disch := omega) only [c_rest, Option.bind_some, q_eq0, nI_add]
    by_cases e : w % 3 = 0
    · simp [e, eI_n, eI_neg, kcn]
    · simp [e, eI_n, kcn]
theorem c_turnerAt (h : KC hp i v nm jb tu tm) (hV : KV v nm jb tm T) (hT : tOk T) {k : Nat} (hk : k < T 2) (hU : TU hp tu T) : ∃ a, X2_turnerAt_F hp i (nI k) = some (some a) ∧ hp[a]? = some (.inr (kcn (T (22 + k)), [.int (nI k), .int (nI (T (26 + k)))])) := by
  obtain ⟨h0, h1, h2, -⟩ := id hT
  obtain ⟨v1, v2, v3, v4⟩ := hV
  obtain ⟨a, e1, e2⟩ := hU k hk
  refine ⟨a, ?_, e2⟩
  unfold X2_turnerAt_F
  simp (disch := omega) only [q_lt0, if_false, kc_g6 h, v1 2 (by omega), Option.bind_some, q_le, kc_r2 h, kc_tu h, e1, kp_nu]
  rw [if_neg (by omega), if_neg (by omega)]
theorem c_turnedNext (h : KC hp i v nm jb tu tm) (hV : KV v nm jb tm T) (hT : tOk T) (hU : TU hp tu T) {t w : Nat} (ht : t ≤ 1000) (hw : w ≤ 2000) : X2_turnedNext_F hp i (nI t) (nI w) = some (nI (tN T t w)) := by
  obtain ⟨h0, h1, h2, h3, h4, h5, h6, h7, h8, h9, -⟩ := id hT
  obtain ⟨v1, v2, v3, v4⟩ := id hV
  have hm : w % T 2 < T 2 := Nat.mod_lt _ (by omega)
  obtain ⟨a, e1, e2⟩ := c_turnerAt h hV hT hm hU
  have g8 := h8 _ hm
  have g9 := h9 _ hm
  have g3 := tH_ge (kd := T (22 + w % T 2)) g9 hw
  unfold X2_turnedNext_F
  simp (disch := omega) only [kc_g6 h, v1 2 (by omega), Option.bind_some, c_rest, kc_ob h, e1, kp_nu, c_far g8 g9 hw e2, kc_g5 h, v1 1 (by omega)]
  rw [eI_n t, eI_add, c_restI (by omega) (by omega) (by omega) (by omega)]
  rfl
theorem c_turnedBehind (h : KC hp i v nm jb tu tm) (hV : KV v nm jb tm T) (hT : tOk T) (hU : TU hp tu T) {n : Nat} (hn : T 3 + n ≤ 2000) (hn2 : n < 2000) : X2_turnedBehind_F hp i (nI n) = some (nI (tBn T n)) := by
  obtain ⟨h0, h1, h2, h3, h4, -⟩ := id hT
  obtain ⟨v1, v2, v3, v4⟩ := id hV
  unfold X2_turnedBehind_F
  simp (disch := omega) only [kc_g8 h, v1 4 (by omega), Option.bind_some]
  rw [show (nI (T 4), nI 0) = (fun k => (nI (tBn T k), nI k)) 0 from rfl]
  refine lp_for (fun k => (nI (tBn T k), nI k)) n _ ?_ ?_ 2000 hn2
  · intro k hk
    have := tBn_lt hT k
    unfold X2_turnedBehind_B7 X2_turnedBehind_b7
    simp (disch := omega) only [q_le, kc_g7 h, v1 3 (by omega), Option.bind_some, nI_add, kc_ob h, c_turnedNext h hV hT hU]
    rw [if_neg (by omega)]
    rfl
  · unfold X2_turnedBehind_B7 X2_turnedBehind_b7
    rw [if_pos ((q_le (by omega) (by omega)).mpr (Nat.le_refl _))]
    rfl
theorem c_awayBehind (h : KC hp i v nm jb tu tm) (hV : KV v nm jb tm T) {n : Nat} (hn : n ≤ 2000) : X2_awayBehind_F hp i (nI n) = some (nI (if n = 0 then T 5 else 0)) := by
  unfold X2_awayBehind_F
  simp (disch := omega) only [q_eq0, kc_g9 h, hV.1 5 (by omega), Option.bind_some]
  split <;> rfl
/-- what is on a wheel -/
def tOn (T : Tw) (b n : Nat) : Nat := q_os (fun s => decide (T (b + s) ≠ 6)) (fun s => T (b + s)) n
theorem c_bitsOf {a b n : Nat} {f : Nat → Int32} (h : hp[a]? = some (.inl (0, 8, .inl f))) (hl : kp_len hp a = some (nI 8)) (hn : n ≤ 8) (hf : ∀ k, k < n → f k = nI (T (b + k))) (hb : ∀ k, k < n → T (b + k) ≤ 6) : X2_bitsOf_F hp a (nI n) = some (nI (tOn T b n)) := by
  unfold X2_bitsOf_F
  have hbb : ∀ s, s < n → decide (T (b + s) ≠ 6) = true → T (b + s) < 6 := fun s hs hc => by
    have hc : T (b + s) ≠ 6 := of_decide_eq_true hc
    have := hb s hs
    omega
  rw [show (nI 0, nI 0) = (fun k => (nI (q_os (fun s => decide (T (b + s) ≠ 6)) (fun s => T (b + s)) k), nI k)) 0 from rfl]
  refine lp_for (fun k => (nI (q_os (fun s => decide (T (b + s) ≠ 6)) (fun s => T (b + s)) k), nI k)) n _ ?_ ?_ 2000 (by omega)
  · intro k hk
    have hl2 := q_os_lt' hbb (n := k) (by omega)
    have hbk := hb k hk
    unfold X2_bitsOf_B4 X2_bitsOf_b4
    simp (disch := omega) only [q_le, hl, Option.bind_some, ld_at h, hf k hk, q_eq]
    rw [if_neg (by omega), if_neg (by omega)]
    by_cases e : T (b + k) = 6
    · rw [if_pos e]
      have e2 : q_os (fun s => decide (T (b + s) ≠ 6)) (fun s => T (b + s)) (k + 1) = q_os (fun s => decide (T (b + s) ≠ 6)) (fun s => T (b + s)) k := by
        show (if _ then _ else _) = _
        rw [if_neg (by simp [e])]
      simp only [X2_bitsOf_J31, nI_add, e2]
    · rw [if_neg e]
      have e2 : q_os (fun s => decide (T (b + s) ≠ 6)) (fun s => T (b + s)) (k + 1) = q_os (fun s => decide (T (b + s) ≠ 6)) (fun s => T (b + s)) k ||| 2 ^ T (b + k) := by
        show (if _ then _ else _) = _
        rw [if_pos (by simp [e])]
      simp only [X2_bitsOf_J31, nI_add, e2]
      rw [q_or hl2 (by omega)]
  · unfold X2_bitsOf_B4 X2_bitsOf_b4
    rw [if_pos ((q_le (by omega) (by omega)).mpr (Nat.le_refl _))]
    rfl
theorem c_peopleOnIt (h : KC hp i v nm jb tu tm) (hV : KV v nm jb tm T) (hT : tOk T) : X2_peopleOnIt_F hp i = some (nI (tOn T 6 (T 0))) := by
  obtain ⟨h0, h1, h2, h3, h4, h5, h6, h7, -⟩ := id hT
  obtain ⟨v1, v2, v3, v4⟩ := id hV
  unfold X2_peopleOnIt_F
  simp (disch := omega) only [kc_r0 h, kc_g4 h, v1 0 (by omega), Option.bind_some]
  rw [c_bitsOf h.2.1 (kc_ln h) h0.2 v2 h6]
  rfl
theorem c_jobsOnIt (h : KC hp i v nm jb tu tm) (hV : KV v nm jb tm T) (hT : tOk T) : X2_jobsOnIt_F hp i = some (nI (tOn T 14 (T 1))) := by
  obtain ⟨h0, h1, h2, h3, h4, h5, h6, h7, -⟩ := id hT
  obtain ⟨v1, v2, v3, v4⟩ := id hV
  unfold X2_jobsOnIt_F
  simp (disch := omega) only [kc_r1 h, kc_g5 h, v1 1 (by omega), Option.bind_some]
  rw [c_bitsOf h.2.2.1 (kc_lj h) h1.2 v3 h7]
  rfl
/-- all that one has done, all that was done -/
def tS (T : Tw) (p : Nat) : Nat := q_sm (fun j => T (30 + (6 * p + j))) 6
def tSA (T : Tw) : Nat := q_sm (fun p => tS T p) 6
theorem q_sm_le {f : Nat → Nat} {B : Nat} : ∀ n, (∀ k, k < n → f k ≤ B) → q_sm f n ≤ n * B
  | 0, _ => by simp [q_sm]
  | n + 1, h => by
    have h1 := q_sm_le n (fun k hk => h k (by omega))
    have h2 := h n (by omega)
    unfold q_sm
    rw [Nat.add_mul]
    omega
theorem tS_le (hT : tOk T) {p : Nat} (hp6 : p < 6) : tS T p ≤ 96000 := by
  have := q_sm_le (f := fun j => T (30 + (6 * p + j))) (B := 16000) 6 (fun k hk => by
    have := hT.2.2.2.2.2.2.2.2.2.2 (6 * p + k) (by omega)
    have := hT.2.2.2.1
    omega)
  exact this
theorem c_within {hp : kw_H} (x : Int32) (a b : Int32) : X11_within_F hp x a b = some (if a ≤ x ∧ x ≤ b then nI 1 else nI 0) := by
  unfold X11_within_F
  by_cases h1 : x < a
  · rw [if_pos h1, if_neg (fun h => absurd h1 (Int32.not_lt.mpr h.1))]
  · rw [if_neg h1]
    by_cases h2 : b < x
    · rw [if_pos h2, if_neg (fun h => absurd h2 (Int32.not_lt.mpr h.2))]
    · rw [if_neg h2, if_pos ⟨Int32.not_lt.mp h1, Int32.not_lt.mp h2⟩]
theorem c_isPerson {hp : kw_H} {p : Nat} (h : p < 6) : X11_isPerson_F hp (nI p) = some (nI 1) := by
  unfold X11_isPerson_F
  rw [c_within, if_pos ⟨(q_le (by omega) (by omega)).mpr (by omega), (q_le (by omega) (by omega)).mpr (by omega)⟩]
  rfl
theorem c_isJob {hp : kw_H} {p : Nat} (h : p < 6) : X11_isJob_F hp (nI p) = some (nI 1) := by
  unfold X11_isJob_F
  rw [c_within, if_pos ⟨(q_le (by omega) (by omega)).mpr (by omega), (q_le (by omega) (by omega)).mpr (by omega)⟩]
  rfl
theorem c_allTimesOf (h : KC hp i v nm jb tu tm) (hV : KV v nm jb tm T) {p : Nat} (hp6 : p < 6) : X2_allTimesOf_F hp i (nI p) = some (nI (tS T p)) := by
  obtain ⟨v1, v2, v3, v4⟩ := id hV
  unfold X2_allTimesOf_F
  rw [show (nI 0, nI 0) = (fun k => (nI (q_sm (fun j => T (30 + (6 * p + j))) k), nI k)) 0 from rfl]
  refine lp_for (fun k => (nI (q_sm (fun j => T (30 + (6 * p + j))) k), nI k)) 6 _ ?_ ?_ 2000 (by omega)
  · intro k hk
    unfold X2_allTimesOf_B4 X2_allTimesOf_b4
    simp (disch := omega) only [q_le, c_isPerson hp6, Option.bind_some, q_eq0, kc_r3 h, pk_mul, nI_add, kc_tm h, v4 (p * 6 + k) (by omega)]
    rw [if_neg (by omega), if_neg (by omega)]
    rw [Nat.mul_comm p 6]
    rfl
  · unfold X2_allTimesOf_B4 X2_allTimesOf_b4
    rw [if_pos ((q_le (by omega) (by omega)).mpr (Nat.le_refl _))]
    rfl
theorem c_allTimes (h : KC hp i v nm jb tu tm) (hV : KV v nm jb tm T) : X2_allTimes_F hp i = some (nI (tSA T)) := by
  unfold X2_allTimes_F
  rw [show (nI 0, nI 0) = (fun k => (nI (q_sm (fun p => tS T p) k), nI k)) 0 from rfl]
  refine lp_for (fun k => (nI (q_sm (fun p => tS T p) k), nI k)) 6 _ ?_ ?_ 2000 (by omega)
  · intro k hk
    unfold X2_allTimes_B4 X2_allTimes_b4
    simp (disch := omega) only [q_le, kc_ob h, Option.bind_some, c_allTimesOf h hV hk, nI_add]
    rw [if_neg (by omega)]
    rfl
  · unfold X2_allTimes_B4 X2_allTimes_b4
    rw [if_pos ((q_le (by omega) (by omega)).mpr (Nat.le_refl _))]
    rfl
end KTurn
