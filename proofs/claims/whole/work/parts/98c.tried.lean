/-! ===== the reference's tried town ===== -/
theorem tWn_c {T : Tw} {k : Nat} (h : k < 30) (h3 : k ≠ 3) (h4 : k ≠ 4) (h5 : k ≠ 5) : ∀ n, tWn T n k = T k
  | 0 => rfl
  | n + 1 => by
    show tP (tWn T n) (tFar (tWn T n)) k = _
    unfold tP
    rw [if_neg h3, if_neg h4, if_neg h5, if_neg (by omega), tWn_c h h3 h4 h5 n]
theorem tWn_5 {T : Tw} : ∀ n, tWn T n 5 = if n = 0 then T 5 else 0
  | 0 => rfl
  | _ + 1 => rfl
theorem tWn_4 {T : Tw} (hT : tOk T) : ∀ n, tWn T n 4 = tBn T n
  | 0 => rfl
  | n + 1 => by
    obtain ⟨-, -, h2, -⟩ := id hT
    have hm := Nat.mod_lt (T 3 + n) (show 0 < T 2 by omega)
    show ((tWn T n 4 + tFar (tWn T n)) % tWn T n 1).toNat = tN T (tBn T n) (T 3 + n)
    unfold tFar tN
    rw [tWn_4 hT n, tWn_3, tWn_c (by omega) (by omega) (by omega) (by omega) n (k := 2), tWn_c (by omega) (by omega) (by omega) (by omega) n (k := 1), tWn_c (by omega) (by omega) (by omega) (by omega) n (k := 22 + (T 3 + n) % T 2), tWn_c (by omega) (by omega) (by omega) (by omega) n (k := 26 + (T 3 + n) % T 2)]
section TCg
variable {T T' : Tw}
theorem tJ_cg (hT : tOk T) (h : ∀ k, k < 30 → k ≠ 3 → k ≠ 4 → k ≠ 5 → T' k = T k) {s t : Nat} (hs : s < 8) : tJ T' s t = tJ T s t := by
  obtain ⟨-, h1, -⟩ := id hT
  have hm := Nat.mod_lt (s + t) (show 0 < T 1 by omega)
  unfold tJ
  rw [h (6 + s) (by omega) (by omega) (by omega) (by omega), h 1 (by omega) (by omega) (by omega) (by omega), h (14 + (s + t) % T 1) (by omega) (by omega) (by omega) (by omega)]
theorem tD_cg (hT : tOk T) (h : ∀ k, k < 30 → k ≠ 3 → k ≠ 4 → k ≠ 5 → T' k = T k) {s t g : Nat} (hs : s < 8) : tD T' s t g = tD T s t g := by
  obtain ⟨h0, -⟩ := id hT
  unfold tD
  rw [tJ_cg hT h hs, h 0 (by omega) (by omega) (by omega) (by omega)]
  have : ∀ k, T' (6 + (s + k) % T 0) = T (6 + (s + k) % T 0) := fun k => by
    have hm := Nat.mod_lt (s + k) (show 0 < T 0 by omega)
    exact h _ (by omega) (by omega) (by omega) (by omega)
  simp only [this]
end TCg
def q_any (c : Nat → Bool) : Nat → Bool
  | 0 => false
  | n + 1 => q_any c n || c n
theorem q_any_iff (c : Nat → Bool) : ∀ n, q_any c n = true ↔ ∃ s, s < n ∧ c s = true
  | 0 => by simp [q_any]
  | n + 1 => by
    unfold q_any
    rw [Bool.or_eq_true, q_any_iff c n]
    constructor
    · rintro (⟨s, h1, h2⟩ | h)
      · exact ⟨s, by omega, h2⟩
      · exact ⟨n, by omega, h⟩
    · rintro ⟨s, h1, h2⟩
      by_cases e : s = n
      · subst e; exact Or.inr h2
      · exact Or.inl ⟨s, by omega, h2⟩
def tQ (T : Tw) (t g p q : Nat) (s : Nat) : Bool := decide (tD T s t g = p ∧ tJ T s t = q)
def b2 (b : Bool) : Nat := if b = true then 1 else 0
section MTr
variable {C P : kw_H} {sc : Nat → Int32} {ar : Nat → Nat → Int32} {f : Nat → Int32} {T : Tw}
theorem m_layTried (hC : C.length = 38) (hA : tA f 0 T) (hT : tOk T) {n : Nat} (hn : T 3 + n ≤ 2000) (hn2 : n < 2000) : ∃ f', X12_layTried_F (hR C sc ar P f) 38 (nI n) = some (hR C sc ar P f') ∧ tA f' 1782 (tWn T n) ∧ ∀ k, k < 1782 → f' k = f k := by
  obtain ⟨f1, c1, c2, c3⟩ := m_copyTown (C := C) (P := P) (sc := sc) (ar := ar) (f := f) hC (a := 0) (b := 1782) (by omega) (by omega) (by omega)
  have hA1 : tA f1 1782 T := fun k hk => by rw [c2 k hk]; exact hA k hk
  obtain ⟨F, q0, q1, q2⟩ := m_weeks (C := C) (P := P) (sc := sc) (ar := ar) hC (b := 1782) (by omega) hA1 hT n hn
  refine ⟨F n, ?_, (q1 n (Nat.le_refl _)).1, fun k hk => ((q1 n (Nat.le_refl _)).2 k (by omega)).trans (c3 k (by omega))⟩
  unfold X12_layTried_F
  rw [r_ob hC, Option.bind_some, c1, Option.bind_some, ← q0]
  refine lp_for (fun i => (nI i, hR C sc ar P (F i))) n _ ?_ ?_ 2000 hn2
  · intro i hi
    show X12_layTried_b10 _ _ _ _ = _
    unfold X12_layTried_b10
    simp (disch := omega) only [q_le, r_ob hC, Option.bind_some, q2 i hi, nI_add]
    rw [if_neg (by omega)]
  · show X12_layTried_b10 _ _ _ _ = _
    unfold X12_layTried_b10
    rw [if_pos ((q_le (by omega) (by omega)).mpr (Nat.le_refl _))]
    rfl
theorem m_doesTried (hC : C.length = 38) (hA : tA f 1782 T) (hT : tOk T) {p q : Nat} (hp6 : p < 6) (hq6 : q < 6) : X12_doesTried_F (hR C sc ar P f) 38 (nI p) (nI q) = some (nI (b2 (q_any (tQ T (T 4) (T 5) p q) (T 0)))) := by
  obtain ⟨h0, -⟩ := id hT
  have e0 := hA 0 (by omega)
  rw [Nat.add_zero] at e0
  unfold X12_doesTried_F
  rw [show (nI 0, nI 0) = (fun k => (nI (b2 (q_any (tQ T (T 4) (T 5) p q) k)), nI k)) 0 from rfl]
  refine lp_for (fun k => (nI (b2 (q_any (tQ T (T 4) (T 5) p q) k)), nI k)) (T 0) _ ?_ ?_ 2000 (by omega)
  · intro k hk
    have hd := tD_le hT (s := k) (t := T 4) (g := T 5)
    have hjj := tJ_le hT (s := k) (t := T 4)
    show X12_doesTried_b5 _ _ _ _ _ _ = some (Sum.inl (nI (b2 (q_any (tQ T (T 4) (T 5) p q) k || tQ T (T 4) (T 5) p q k)), nI (k + 1)))
    unfold X12_doesTried_b5 X12_doesTried_J48 X12_doesTried_J52 X12_doesTried_J53
    simp (disch := omega) only [r_r0 hC, r_ld hC, e0, Option.bind_some, q_le, r_ob hC, m_doerOf hC (show 1782 ≤ 1782 by omega) hA.tL hT hk, m_jobOf hC (show 1782 ≤ 1782 by omega) hA.tL hT hk, nI_add]
    rw [if_neg (show ¬ T 0 ≤ k by omega)]
    cases hb : q_any (tQ T (T 4) (T 5) p q) k with
    | true =>
      rw [if_neg (by decide)]
      rfl
    | false =>
      rw [if_pos (by decide), Bool.false_or]
      unfold tQ
      by_cases d : tD T k (T 4) (T 5) = p
      · have d6 : tD T k (T 4) (T 5) ≠ 6 := by omega
        rw [if_neg d6, d, if_pos rfl]
        have j6 := tD_job d6
        rw [if_neg j6]
        by_cases w : tJ T k (T 4) = q
        · rw [w, if_pos rfl]
          simp [b2]
        · rw [if_neg (fun z => w ((q_eq (by omega) (by omega)).mp z))]
          simp [b2, w]
      · have : ¬ ((if tD T k (T 4) (T 5) = 6 then (-1000000) else nI (tD T k (T 4) (T 5))) = nI p) := by
          by_cases d6 : tD T k (T 4) (T 5) = 6
          · rw [if_pos d6]
            exact fun z => (q_none (show p < 2147483648 by omega)).mp z.symm
          · rw [if_neg d6]
            exact fun z => d ((q_eq (by omega) (by omega)).mp z)
        rw [if_neg this]
        simp [b2, d]
  · show X12_doesTried_b5 _ _ _ _ _ _ = _
    unfold X12_doesTried_b5
    simp (disch := omega) only [r_r0 hC, r_ld hC, e0, Option.bind_some, q_le]
    rw [if_pos (Nat.le_refl _)]
    unfold X12_doesTried_J60
    cases q_any (tQ T (T 4) (T 5) p q) (T 0) <;> rfl
end MTr
theorem q_sh0 : ∀ a, a < 64 → ∀ j, j < 6 → (nI a ||| nI 0) = nI a ∧ (nI a ||| (nI 1 <<< (nI j &&& 31))) = nI (a ||| 2 ^ j) := by decide +kernel
theorem tJs_alt {T : Tw} (hT : tOk T) {p t g : Nat} (hp6 : p < 6) : q_os (fun q => q_any (tQ T t g p q) (T 0)) (fun q => q) 6 = tJs T p t g := by
  apply Nat.eq_of_testBit_eq
  intro j
  unfold tJs
  rw [Bool.eq_iff_iff, q_os_bit, q_os_bit]
  constructor
  · rintro ⟨q, h1, h2, rfl⟩
    obtain ⟨s, h3, h4⟩ := (q_any_iff _ _).mp h2
    have h5 := of_decide_eq_true h4
    exact ⟨s, h3, by simpa using h5.1, h5.2⟩
  · rintro ⟨s, h1, h2, rfl⟩
    have h3 : tD T s t g = p := by simpa using h2
    have h4 := tD_job (T := T) (s := s) (t := t) (g := g) (by omega)
    have h5 := tJ_le hT (s := s) (t := t)
    exact ⟨tJ T s t, by omega, (q_any_iff _ _).mpr ⟨s, h1, by unfold tQ; simp [h3]⟩, rfl⟩
theorem tDs_alt {T : Tw} (hT : tOk T) {q t g : Nat} (hq6 : q < 6) : q_os (fun p => q_any (tQ T t g p q) (T 0)) (fun p => p) 6 = tDs T q t g := by
  apply Nat.eq_of_testBit_eq
  intro j
  unfold tDs
  rw [Bool.eq_iff_iff, q_os_bit, q_os_bit]
  constructor
  · rintro ⟨p, h1, h2, rfl⟩
    obtain ⟨s, h3, h4⟩ := (q_any_iff _ _).mp h2
    have h5 := of_decide_eq_true h4
    exact ⟨s, h3, decide_eq_true ⟨h5.2, by omega⟩, h5.1⟩
  · rintro ⟨s, h1, h2, rfl⟩
    have h3 := of_decide_eq_true h2
    have h5 := tD_le hT (s := s) (t := t) (g := g)
    exact ⟨tD T s t g, by omega, (q_any_iff _ _).mpr ⟨s, h1, by unfold tQ; simp [h3.1]⟩, rfl⟩
