/-! ===== what the weeks' jobs gather ===== -/
theorem q_ct_pos (c : Nat → Bool) : ∀ n, 0 < q_ct c n ↔ q_any c n = true
  | 0 => by simp [q_ct, q_any]
  | n + 1 => by
    unfold q_ct q_any
    rw [Bool.or_eq_true, ← q_ct_pos c n]
    by_cases h : c n = true
    · rw [if_pos h]
      exact ⟨fun _ => Or.inr h, fun _ => by omega⟩
    · rw [if_neg h]
      exact ⟨fun z => Or.inl (by omega), fun z => z.elim (fun z => by omega) (fun z => absurd z h)⟩
theorem tJs_any {T : Tw} (hT : tOk T) {p q t g : Nat} (hp6 : p < 6) (hq6 : q < 6) : (tJs T p t g).testBit q = q_any (tQ T t g p q) (T 0) := by
  rw [← tJs_alt hT hp6, Bool.eq_iff_iff, q_os_bit]
  constructor
  · rintro ⟨s, h1, h2, rfl⟩
    exact h2
  · intro h
    exact ⟨q, hq6, h, rfl⟩
def tOr (T : Tw) (p : Nat) : Nat → Nat
  | 0 => 0
  | n + 1 => tOr T p n ||| tJs T p (tBn T n) (tAw T n)
theorem tOr_bit {T : Tw} (hT : tOk T) {p q : Nat} (hp6 : p < 6) (hq6 : q < 6) : ∀ n, (tOr T p n).testBit q = true ↔ 0 < tTot T p q n
  | 0 => by simp [tOr, tTot, q_sm]
  | n + 1 => by
    show (tOr T p n ||| tJs T p (tBn T n) (tAw T n)).testBit q = true ↔ 0 < tTot T p q n + q_ct (tQ T (tBn T n) (tAw T n) p q) (T 0)
    rw [Nat.testBit_or, Bool.or_eq_true, tOr_bit hT hp6 hq6 n, tJs_any hT hp6 hq6, ← q_ct_pos]
    omega
theorem tOr_lt {T : Tw} (hT : tOk T) {p : Nat} (hp6 : p < 6) : ∀ n, tOr T p n < 64
  | 0 => by show 0 < 64; omega
  | n + 1 => Nat.or_lt_two_pow (n := 6) (tOr_lt hT hp6 n) (tJs_lt hT hp6)
