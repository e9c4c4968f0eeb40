/-! ===== the class's kitchens: what is read of them ===== -/
def q_os (c : Nat → Bool) (v : Nat → Nat) : Nat → Nat
  | 0 => 0
  | n + 1 => if c n = true then q_os c v n ||| 2 ^ v n else q_os c v n
theorem q_os_bit (c : Nat → Bool) (v : Nat → Nat) (j : Nat) : ∀ n, (q_os c v n).testBit j = true ↔ ∃ s, s < n ∧ c s = true ∧ v s = j
  | 0 => by simp [q_os]
  | n + 1 => by
    unfold q_os
    have ih := q_os_bit c v j n
    by_cases h : c n = true
    · rw [if_pos h, Nat.testBit_or, Bool.or_eq_true, ih, Nat.testBit_two_pow]
      constructor
      · rintro (⟨s, h1, h2⟩ | h1)
        · exact ⟨s, by omega, h2⟩
        · exact ⟨n, by omega, h, by simpa using h1⟩
      · rintro ⟨s, h1, h2, h3⟩
        by_cases e : s = n
        · subst e; right; simpa using h3
        · left; exact ⟨s, by omega, h2, h3⟩
    · rw [if_neg h, ih]
      constructor
      · rintro ⟨s, h1, h2⟩
        exact ⟨s, by omega, h2⟩
      · rintro ⟨s, h1, h2, h3⟩
        by_cases e : s = n
        · subst e; exact absurd h2 h
        · exact ⟨s, by omega, h2, h3⟩
theorem q_os_lt {c : Nat → Bool} {v : Nat → Nat} : ∀ n, (∀ s, s < n → c s = true → v s < 6) → q_os c v n < 64
  | 0, _ => by simp [q_os]
  | n + 1, h => by
    have ih := q_os_lt (c := c) (v := v) n (fun s hs => h s (by omega))
    unfold q_os
    split
    · rename_i hc
      have := h n (by omega) hc
      exact Nat.or_lt_two_pow (n := 6) ih (Nat.pow_lt_pow_right (by omega) this)
    · exact ih
def q_sm (f : Nat → Nat) : Nat → Nat
  | 0 => 0
  | n + 1 => q_sm f n + f n
theorem q_or0 : ∀ a, a < 64 → ∀ j, j < 6 → (nI a ||| (nI 1 <<< (nI j &&& 31))) = nI (a ||| 2 ^ j) := by decide +kernel
theorem q_or {a j : Nat} (ha : a < 64) (hj : j < 6) : (nI a ||| (nI 1 <<< (nI j &&& 31))) = nI (a ||| 2 ^ j) := q_or0 a ha j hj
/-- the number of the class of a kind of turner -/
def kcn (kd : Nat) : Nat := if kd = 1 then 4 else if kd = 2 then 7 else if kd = 3 then 0 else if kd = 4 then 3 else 5
/-- a kitchen's five cells: the object at i, then its arrays -/
def KC (hp : kw_H) (i : Nat) (v : Nat → Int32) (nm jb : Nat → Int32) (tu : Nat → Option Nat) (tm : Nat → Int32) : Prop :=
  hp[i]? = some (.inr (2, [.ref (i + 1), .ref (i + 2), .ref (i + 3), .ref (i + 4), .int (v 0), .int (v 1), .int (v 2), .int (v 3), .int (v 4), .int (v 5)])) ∧ hp[i + 1]? = some (.inl (0, 8, .inl nm)) ∧ hp[i + 2]? = some (.inl (0, 8, .inl jb)) ∧ hp[i + 3]? = some (.inl (3, 4, .inr (.inr (.inr (.inr tu))))) ∧ hp[i + 4]? = some (.inl (0, 36, .inl tm))
/-- the turners that an array of turners holds -/
def TU (hp : kw_H) (tu : Nat → Option Nat) (T : Tw) : Prop := ∀ k, k < T 2 → ∃ a, tu k = some a ∧ hp[a]? = some (.inr (kcn (T (22 + k)), [.int (nI k), .int (nI (T (26 + k)))]))
def KV (v nm jb tm : Nat → Int32) (T : Tw) : Prop := (∀ k, k < 6 → v k = nI (T k)) ∧ (∀ k, k < T 0 → nm k = nI (T (6 + k))) ∧ (∀ k, k < T 1 → jb k = nI (T (14 + k))) ∧ ∀ k, k < 36 → tm k = nI (T (30 + k))
def KA (hp : kw_H) (i : Nat) (T : Tw) : Prop := ∃ v nm jb tu tm, KC hp i v nm jb tu tm ∧ KV v nm jb tm T ∧ TU hp tu T
section KRead
variable {hp : kw_H} {i : Nat} {v nm jb tm : Nat → Int32} {tu : Nat → Option Nat} {T : Tw}
theorem kc_ob (h : KC hp i v nm jb tu tm) : kp_ob hp i 2 = some () := by
  unfold kp_ob; rw [h.1]; rfl
theorem kc_g4 (h : KC hp i v nm jb tu tm) : kp_gI hp i [2] 4 = some (v 0) := by
  unfold kp_gI; rw [h.1]; rfl
theorem kc_g5 (h : KC hp i v nm jb tu tm) : kp_gI hp i [2] 5 = some (v 1) := by
  unfold kp_gI; rw [h.1]; rfl
theorem kc_g6 (h : KC hp i v nm jb tu tm) : kp_gI hp i [2] 6 = some (v 2) := by
  unfold kp_gI; rw [h.1]; rfl
theorem kc_g7 (h : KC hp i v nm jb tu tm) : kp_gI hp i [2] 7 = some (v 3) := by
  unfold kp_gI; rw [h.1]; rfl
theorem kc_g8 (h : KC hp i v nm jb tu tm) : kp_gI hp i [2] 8 = some (v 4) := by
  unfold kp_gI; rw [h.1]; rfl
theorem kc_g9 (h : KC hp i v nm jb tu tm) : kp_gI hp i [2] 9 = some (v 5) := by
  unfold kp_gI; rw [h.1]; rfl
theorem kc_r0 (h : KC hp i v nm jb tu tm) : kp_gR hp i [2] 0 = some (i + 1) := by
  unfold kp_gR; rw [h.1]; rfl
theorem kc_r1 (h : KC hp i v nm jb tu tm) : kp_gR hp i [2] 1 = some (i + 2) := by
  unfold kp_gR; rw [h.1]; rfl
theorem kc_r2 (h : KC hp i v nm jb tu tm) : kp_gR hp i [2] 2 = some (i + 3) := by
  unfold kp_gR; rw [h.1]; rfl
theorem kc_r3 (h : KC hp i v nm jb tu tm) : kp_gR hp i [2] 3 = some (i + 4) := by
  unfold kp_gR; rw [h.1]; rfl
theorem ld_at {a n : Nat} {f : Nat → Int32} (h : hp[a]? = some (.inl (0, n, .inl f))) (hn : n ≤ 2147483648) {j : Nat} (hj : j < n) : kp_ldI hp a (nI j) = some (f j) := by
  unfold kp_ldI
  rw [h]
  show (if nI j < 0 ∨ n ≤ (nI j).toNatClampNeg then none else some (f (nI j).toNatClampNeg)) = _
  rw [q_cl (by omega), if_neg (q_in hj hn)]
theorem kc_nm (h : KC hp i v nm jb tu tm) {k : Nat} (hk : k < 8) : kp_ldI hp (i + 1) (nI k) = some (nm k) := ld_at h.2.1 (by decide) hk
theorem kc_jb (h : KC hp i v nm jb tu tm) {k : Nat} (hk : k < 8) : kp_ldI hp (i + 2) (nI k) = some (jb k) := ld_at h.2.2.1 (by decide) hk
theorem kc_tm (h : KC hp i v nm jb tu tm) {k : Nat} (hk : k < 36) : kp_ldI hp (i + 4) (nI k) = some (tm k) := ld_at h.2.2.2.2 (by decide) hk
theorem kc_tu (h : KC hp i v nm jb tu tm) {k : Nat} (hk : k < 4) : kp_ldR hp 3 (i + 3) (nI k) = some (tu k) := by
  unfold kp_ldR
  rw [h.2.2.2.1]
  show (if 3 = 3 then (if nI k < 0 ∨ 4 ≤ (nI k).toNatClampNeg then none else some (tu (nI k).toNatClampNeg)) else none) = _
  rw [if_pos rfl, q_cl (by omega), if_neg (q_in hk (by decide))]
theorem kc_ln (h : KC hp i v nm jb tu tm) : kp_len hp (i + 1) = some (nI 8) := by
  unfold kp_len; rw [h.2.1]; rfl
theorem kc_lj (h : KC hp i v nm jb tu tm) : kp_len hp (i + 2) = some (nI 8) := by
  unfold kp_len; rw [h.2.2.1]; rfl
theorem c_rest {hp : kw_H} {a b : Nat} (ha : a < 2147483648) (h0 : 0 < b) (hb : b < 2147483648) : X11_rest_F hp (nI a) (nI b) = some (nI (a % b)) := by
  unfold X11_rest_F
  have := Nat.mod_lt a h0
  simp (disch := omega) only [q_0lt, q_rem, Option.bind_some, q_0le, if_true]
  rw [if_pos h0]
theorem c_restI {hp : kw_H} {z : Int} {n : Nat} (h1 : -1073741824 ≤ z) (h2 : z < 1073741824) (h0 : 0 < n) (hn : n < 1000) : X11_rest_F hp (eI z) (nI n) = some (nI (z % n).toNat) := by
  have g1 := Int.emod_nonneg z (b := (n : Int)) (by omega)
  have g2 := Int.emod_lt_of_pos z (b := (n : Int)) (by omega)
  have g3 := eI_rest (z := z) h0
  have g4 := Int.tmod_eq_emod (a := z) (b := n)
  have g5 : -(n : Int) < z.tmod n ∧ z.tmod n < n := by
    split at g4 <;> omega
  unfold X11_rest_F
  rw [if_pos ((q_0lt (by omega)).mpr h0), eI_rem h1 h2 h0 (by omega)]
  simp only [Option.bind_some]
  have e0 : (0 : Int32) = eI 0 := rfl
  rw [e0]
  by_cases h : z.tmod n < 0
  · rw [if_neg (by rw [eI_le (by omega) (by omega) (by omega) (by omega)]; omega)]
    rw [if_pos h] at g3
    rw [eI_n n, eI_add, g3, eI_nat g1]
  · rw [if_pos (by rw [eI_le (by omega) (by omega) (by omega) (by omega)]; omega)]
    rw [if_neg h] at g3
    rw [g3, eI_nat g1]
theorem c_holds {hp : kw_H} {g k : Nat} (hg : g < 64) (hk : k < 8) : X11_holds_F hp (nI g) (nI k) = some (nI (if g.testBit k = true then 1 else 0)) := by
  unfold X11_holds_F
  rw [q_bit hg hk]
  by_cases h : g.testBit k = true
  · simp [h, q_eq0]
  · simp [h, q_eq0]
theorem c_isThere (h : KC hp i v nm jb tu tm) {n : Nat} (hv : v 0 = nI n) (hn : n ≤ 8) : X2_isThere_F hp i = some (nI (if n = 0 then 0 else 1)) := by
  unfold X2_isThere_F
  simp (disch := omega) only [kc_g4 h, hv, Option.bind_some, q_le0]
  split <;> rfl
theorem c_nameIn (h : KC hp i v nm jb tu tm) {s n : Nat} (hv : v 0 = nI n) (hn : n ≤ 8) (hs : s < n) : X2_nameIn_F hp i (nI s) = some (nm s) := by
  unfold X2_nameIn_F
  simp (disch := omega) only [q_lt0, if_false, kc_g4 h, hv, Option.bind_some, q_le, kc_r0 h, kc_nm h]
  rw [if_neg (by omega), if_neg (by omega)]
theorem c_jobIn (h : KC hp i v nm jb tu tm) {s n : Nat} (hv : v 1 = nI n) (hn : n ≤ 8) (hs : s < n) : X2_jobIn_F hp i (nI s) = some (jb s) := by
  unfold X2_jobIn_F
  simp (disch := omega) only [q_lt0, if_false, kc_g5 h, hv, Option.bind_some, q_le, kc_r1 h, kc_jb h]
  rw [if_neg (by omega), if_neg (by omega)]
theorem c_jobHad (h : KC hp i v nm jb tu tm) (hV : KV v nm jb tm T) (hT : tOk T) {s t : Nat} (hs : s < T 0) (ht : t ≤ 1000) : X2_jobHad_F hp i (nI s) (nI t) = some (nI (tJ T s t)) := by
  obtain ⟨h0, h1, h2, h3, h4, h5, h6, h7, -⟩ := id hT
  obtain ⟨v1, v2, v3, v4⟩ := hV
  have hm : (s + t) % T 1 < T 1 := Nat.mod_lt _ (by omega)
  have g6 := h6 s hs
  unfold X2_jobHad_F
  simp (disch := omega) only [kc_ob h, c_nameIn h (v1 0 (by omega)) (by omega) hs, Option.bind_some, v2 s hs, q_eq, kc_g5 h, v1 1 (by omega), nI_add, c_rest, c_jobIn h (v1 1 (by omega)) (by omega) hm, v3 _ hm]
  unfold tJ
  split <;> rfl
theorem c_doerIn (h : KC hp i v nm jb tu tm) (hV : KV v nm jb tm T) (hT : tOk T) {s t g : Nat} (hs : s < T 0) (ht : t ≤ 1000) (hg : g < 64) : X2_doerIn_F hp i (nI s) (nI t) (nI g) = some (nI (tD T s t g)) := by
  obtain ⟨h0, h1, h2, h3, h4, h5, h6, h7, -⟩ := id hT
  obtain ⟨v1, v2, v3, v4⟩ := id hV
  have hj := tJ_le hT (s := s) (t := t)
  unfold X2_doerIn_F
  simp (disch := omega) only [kc_ob h, Option.bind_some, c_jobHad h hV hT hs ht, q_eq]
  unfold tD
  by_cases g1 : tJ T s t = 6
  · rw [if_pos g1, if_pos g1]
  · rw [if_neg g1, if_neg g1]
    rw [show nI 0 = (fun k => nI k) 0 from rfl]
    rw [lp_find (fun k => nI k) (T 0) (fun k => if T (6 + (s + k) % T 0) = 6 ∨ g.testBit (T (6 + (s + k) % T 0)) = true then none else some (nI (T (6 + (s + k) % T 0)))) (nI 6) ?_ ?_ 2000 (by omega)]
    · generalize hL : List.range (T 0) = Lr
      have hmap : Lr.findSome? (fun k => if T (6 + (s + k) % T 0) = 6 ∨ g.testBit (T (6 + (s + k) % T 0)) = true then none else some (nI (T (6 + (s + k) % T 0)))) = (Lr.findSome? (fun k => if T (6 + (s + k) % T 0) = 6 ∨ g.testBit (T (6 + (s + k) % T 0)) = true then none else some (T (6 + (s + k) % T 0)))).map nI := by
        clear hL
        induction Lr with
        | nil => rfl
        | cons x l ih =>
          rw [List.findSome?_cons, List.findSome?_cons]
          by_cases hx : T (6 + (s + x) % T 0) = 6 ∨ g.testBit (T (6 + (s + x) % T 0)) = true
          · simp only [hx, if_true, ih]
          · simp only [hx, if_false, Option.map_some]
      rw [hmap]
      cases Lr.findSome? (fun k => if T (6 + (s + k) % T 0) = 6 ∨ g.testBit (T (6 + (s + k) % T 0)) = true then none else some (T (6 + (s + k) % T 0))) <;> rfl
    · intro k hk
      have hm : (s + k) % T 0 < T 0 := Nat.mod_lt _ (by omega)
      have hn := h6 _ hm
      unfold X2_doerIn_B17 X2_doerIn_b17
      simp (disch := omega) only [kc_g4 h, v1 0 (by omega), nI_add, q_le, Option.bind_some, kc_ob h, c_rest, c_nameIn h (v1 0 (by omega)) (by omega) hm, v2 _ hm, q_eq, c_holds hg]
      rw [if_neg (by omega)]
      by_cases g2 : T (6 + (s + k) % T 0) = 6
      · simp [g2, X2_doerIn_J62, nI_add]
      · by_cases g3 : g.testBit (T (6 + (s + k) % T 0)) = true
        · simp [g2, g3, X2_doerIn_J62, nI_add, q_eq0]
        · simp [g2, g3, X2_doerIn_J59, q_eq0]
    · unfold X2_doerIn_B17 X2_doerIn_b17
      simp (disch := omega) only [kc_g4 h, v1 0 (by omega), Option.bind_some, q_le]
      rw [if_pos (Nat.le_refl _)]
      rfl
/-- the jobs that one does, the people who do one -/
def tJs (T : Tw) (p t g : Nat) : Nat := q_os (fun s => decide (tD T s t g = p)) (fun s => tJ T s t) (T 0)
def tDs (T : Tw) (j t g : Nat) : Nat := q_os (fun s => decide (tJ T s t = j ∧ tD T s t g ≠ 6)) (fun s => tD T s t g) (T 0)
theorem tJs_lt (hT : tOk T) {p t g : Nat} (hp6 : p < 6) : tJs T p t g < 64 := by
  refine q_os_lt _ (fun s hs hc => ?_)
  have hc : tD T s t g = p := of_decide_eq_true hc
  have h1 := tD_job (T := T) (s := s) (t := t) (g := g) (by omega)
  have h2 := tJ_le hT (s := s) (t := t)
  omega
theorem tDs_lt (hT : tOk T) {j t g : Nat} : tDs T j t g < 64 := by
  refine q_os_lt _ (fun s hs hc => ?_)
  have hc : tJ T s t = j ∧ tD T s t g ≠ 6 := of_decide_eq_true hc
  have h2 := tD_le hT (s := s) (t := t) (g := g)
  omega
theorem q_os_lt' {c : Nat → Bool} {v : Nat → Nat} {N : Nat} (h : ∀ s, s < N → c s = true → v s < 6) {n : Nat} (hn : n ≤ N) : q_os c v n < 64 := q_os_lt n (fun s hs => h s (by omega))
theorem c_jobsOf (h : KC hp i v nm jb tu tm) (hV : KV v nm jb tm T) (hT : tOk T) {p t g : Nat} (hp6 : p < 6) (ht : t ≤ 1000) (hg : g < 64) : X2_jobsOf_F hp i (nI p) (nI t) (nI g) = some (nI (tJs T p t g)) := by
  obtain ⟨h0, h1, h2, h3, h4, h5, h6, h7, -⟩ := id hT
  obtain ⟨v1, v2, v3, v4⟩ := id hV
  have hb : ∀ s, s < T 0 → decide (tD T s t g = p) = true → tJ T s t < 6 := fun s hs hc => by
    have hc : tD T s t g = p := of_decide_eq_true hc
    have h1 := tD_job (T := T) (s := s) (t := t) (g := g) (by omega)
    have h2 := tJ_le hT (s := s) (t := t)
    omega
  unfold X2_jobsOf_F
  rw [show (nI 0, nI 0) = (fun s => (nI (q_os (fun s => decide (tD T s t g = p)) (fun s => tJ T s t) s), nI s)) 0 from rfl]
  refine lp_for (fun s => (nI (q_os (fun s => decide (tD T s t g = p)) (fun s => tJ T s t) s), nI s)) (T 0) _ ?_ ?_ 2000 (by omega)
  · intro s hs
    have hd := tD_le hT (s := s) (t := t) (g := g)
    have hl := q_os_lt' hb (n := s) (by omega)
    unfold X2_jobsOf_B6 X2_jobsOf_b6
    simp (disch := omega) only [kc_g4 h, v1 0 (by omega), Option.bind_some, q_le, kc_ob h, c_doerIn h hV hT hs ht hg, q_eq, c_jobHad h hV hT hs ht]
    rw [if_neg (by omega)]
    by_cases g1 : tD T s t g = p
    · rw [if_pos g1]
      simp only [X2_jobsOf_J41, nI_add]
      rw [q_or hl (hb s hs (by simp [g1]))]
      have e : q_os (fun s => decide (tD T s t g = p)) (fun s => tJ T s t) (s + 1) = q_os (fun s => decide (tD T s t g = p)) (fun s => tJ T s t) s ||| 2 ^ tJ T s t := by
        show (if _ then _ else _) = _
        rw [if_pos (by simp [g1])]
      rw [e]
    · rw [if_neg g1]
      simp only [X2_jobsOf_J41, nI_add]
      have e : q_os (fun s => decide (tD T s t g = p)) (fun s => tJ T s t) (s + 1) = q_os (fun s => decide (tD T s t g = p)) (fun s => tJ T s t) s := by
        show (if _ then _ else _) = _
        rw [if_neg (by simp [g1])]
      rw [e]
  · unfold X2_jobsOf_B6 X2_jobsOf_b6
    simp (disch := omega) only [kc_g4 h, v1 0 (by omega), Option.bind_some, q_le]
    rw [if_pos (Nat.le_refl _)]
    rfl
theorem c_doersOf (h : KC hp i v nm jb tu tm) (hV : KV v nm jb tm T) (hT : tOk T) {j t g : Nat} (hj6 : j < 6) (ht : t ≤ 1000) (hg : g < 64) : X2_doersOf_F hp i (nI j) (nI t) (nI g) = some (nI (tDs T j t g)) := by
  obtain ⟨h0, h1, h2, h3, h4, h5, h6, h7, -⟩ := id hT
  obtain ⟨v1, v2, v3, v4⟩ := id hV
  have hb : ∀ s, s < T 0 → decide (tJ T s t = j ∧ tD T s t g ≠ 6) = true → tD T s t g < 6 := fun s hs hc => by
    have hc : tJ T s t = j ∧ tD T s t g ≠ 6 := of_decide_eq_true hc
    have h2 := tD_le hT (s := s) (t := t) (g := g)
    omega
  unfold X2_doersOf_F
  rw [show (nI 0, nI 0) = (fun s => (nI (q_os (fun s => decide (tJ T s t = j ∧ tD T s t g ≠ 6)) (fun s => tD T s t g) s), nI s)) 0 from rfl]
  refine lp_for (fun s => (nI (q_os (fun s => decide (tJ T s t = j ∧ tD T s t g ≠ 6)) (fun s => tD T s t g) s), nI s)) (T 0) _ ?_ ?_ 2000 (by omega)
  · intro s hs
    have hd := tD_le hT (s := s) (t := t) (g := g)
    have hjl := tJ_le hT (s := s) (t := t)
    have hl := q_os_lt' hb (n := s) (by omega)
    unfold X2_doersOf_B6 X2_doersOf_b6
    simp (disch := omega) only [kc_g4 h, v1 0 (by omega), Option.bind_some, q_le, kc_ob h, c_doerIn h hV hT hs ht hg, q_eq, c_jobHad h hV hT hs ht]
    rw [if_neg (by omega)]
    unfold X2_doersOf_J39
    simp (disch := omega) only [q_eq]
    by_cases g1 : tJ T s t = j ∧ tD T s t g ≠ 6
    · rw [if_pos g1.1, if_neg g1.2]
      simp only [X2_doersOf_J57, nI_add]
      rw [q_or hl (hb s hs (by simp [g1]))]
      have e : q_os (fun s => decide (tJ T s t = j ∧ tD T s t g ≠ 6)) (fun s => tD T s t g) (s + 1) = q_os (fun s => decide (tJ T s t = j ∧ tD T s t g ≠ 6)) (fun s => tD T s t g) s ||| 2 ^ tD T s t g := by
        show (if _ then _ else _) = _
        rw [if_pos (by simp [g1])]
      rw [e]
    · have e : q_os (fun s => decide (tJ T s t = j ∧ tD T s t g ≠ 6)) (fun s => tD T s t g) (s + 1) = q_os (fun s => decide (tJ T s t = j ∧ tD T s t g ≠ 6)) (fun s => tD T s t g) s := by
        show (if _ then _ else _) = _
        rw [if_neg (by simp only [decide_eq_true_eq]; exact g1)]
      simp only [X2_doersOf_J57, nI_add]
      rw [e]
      by_cases g2 : tJ T s t = j
      · have g3 : tD T s t g = 6 := Classical.not_not.mp fun z => g1 ⟨g2, z⟩
        rw [if_pos g2, if_pos g3]
      · rw [if_neg g2, if_pos trivial]
  · unfold X2_doersOf_B6 X2_doersOf_b6
    simp (disch := omega) only [kc_g4 h, v1 0 (by omega), Option.bind_some, q_le]
    rw [if_pos (Nat.le_refl _)]
    rfl
end KRead
