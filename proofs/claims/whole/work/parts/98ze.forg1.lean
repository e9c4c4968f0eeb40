/-! ===== forgets: what both count ===== -/
theorem q_sm_up (d g : Nat → Nat) {k : Nat} (x : Nat) : ∀ N, q_sm (fun u => va_up d k (d k + x) u * g u) N = q_sm (fun u => d u * g u) N + if k < N then x * g k else 0
  | 0 => by rw [if_neg (by omega)]; rfl
  | N + 1 => by
    show q_sm (fun u => va_up d k (d k + x) u * g u) N + va_up d k (d k + x) N * g N = q_sm (fun u => d u * g u) N + d N * g N + _
    rw [q_sm_up d g x N]
    unfold va_up
    by_cases e : N = k
    · subst e
      rw [if_pos rfl, if_neg (by omega), if_pos (by omega), Nat.add_mul]
      omega
    · rw [if_neg e]
      by_cases e2 : k < N
      · rw [if_pos e2, if_pos (by omega)]
        omega
      · rw [if_neg e2, if_neg (by omega)]
        omega
theorem q_sm_split (f : Nat → Nat) (a : Nat) : ∀ b, q_sm f (a + b) = q_sm f a + q_sm (fun i => f (a + i)) b
  | 0 => rfl
  | b + 1 => by
    show q_sm f (a + b) + f (a + b) = q_sm f a + (q_sm (fun i => f (a + i)) b + f (a + b))
    rw [q_sm_split f a b]
    omega
def gG (nx : Nat → Nat → Nat) (p : Nat) (D : Nat → Nat) : Nat → Nat → Nat → Nat
  | 0, _, t => D t
  | r + 1, i, t => p * gG nx p D r (i + 1) t + (10 - p) * gG nx p D r (i + 1) (nx i t)
theorem gG_le {nx : Nat → Nat → Nat} {p : Nat} (hp : p ≤ 10) {D : Nat → Nat} (hD : ∀ t, D t ≤ 1) : ∀ r i t, gG nx p D r i t ≤ 10 ^ r
  | 0, _, t => hD t
  | r + 1, i, t => by
    have h1 := gG_le (nx := nx) hp hD r (i + 1) t
    have h2 := gG_le (nx := nx) hp hD r (i + 1) (nx i t)
    show p * gG nx p D r (i + 1) t + (10 - p) * gG nx p D r (i + 1) (nx i t) ≤ 10 ^ (r + 1)
    have h3 := Nat.mul_le_mul_left p h1
    have h4 := Nat.mul_le_mul_left (10 - p) h2
    have h5 : p * 10 ^ r + (10 - p) * 10 ^ r = 10 ^ (r + 1) := by
      rw [← Nat.add_mul, show p + (10 - p) = 10 by omega, Nat.pow_succ, Nat.mul_comm]
    omega
theorem gG_1 {nx : Nat → Nat → Nat} {p : Nat} (hp : p ≤ 10) : ∀ r i t, gG nx p (fun _ => 1) r i t = 10 ^ r
  | 0, _, _ => rfl
  | r + 1, i, t => by
    show p * gG nx p (fun _ => 1) r (i + 1) t + (10 - p) * gG nx p (fun _ => 1) r (i + 1) (nx i t) = 10 ^ (r + 1)
    rw [gG_1 hp r, gG_1 hp r, ← Nat.add_mul, show p + (10 - p) = 10 by omega, Nat.pow_succ, Nat.mul_comm]
/-- the table behind s entries of a week -/
def pS (c nx : Nat → Nat) (p : Nat) : Nat → Nat → Nat
  | 0 => fun _ => 0
  | s + 1 => va_up (va_up (pS c nx p s) s (pS c nx p s s + c s * p)) (nx s) (va_up (pS c nx p s) s (pS c nx p s s + c s * p) (nx s) + c s * (10 - p))
def pC (nx : Nat → Nat → Nat) (p N t0 : Nat) : Nat → Nat → Nat
  | 0 => va_up (fun _ => 0) t0 1
  | i + 1 => pS (pC nx p N t0 i) (nx i) p N
theorem pS_sum {c nx : Nat → Nat} {p N : Nat} (hn : ∀ t, t < N → nx t < N) (g : Nat → Nat) : ∀ s, s ≤ N → q_sm (fun u => pS c nx p s u * g u) N = q_sm (fun t => c t * (p * g t + (10 - p) * g (nx t))) s
  | 0, _ => by
    show q_sm (fun u => 0 * g u) N = 0
    have : ∀ N, q_sm (fun u => 0 * g u) N = 0 := by
      intro N
      induction N with
      | zero => rfl
      | succ N ih =>
        show q_sm (fun u => 0 * g u) N + 0 * g N = 0
        rw [ih, Nat.zero_mul]
    exact this N
  | s + 1, hs => by
    show q_sm (fun u => va_up (va_up (pS c nx p s) s (pS c nx p s s + c s * p)) (nx s) (va_up (pS c nx p s) s (pS c nx p s s + c s * p) (nx s) + c s * (10 - p)) u * g u) N = q_sm (fun t => c t * (p * g t + (10 - p) * g (nx t))) s + c s * (p * g s + (10 - p) * g (nx s))
    rw [q_sm_up, q_sm_up, pS_sum hn g s (by omega), if_pos (by omega), if_pos (hn s (by omega)), Nat.mul_add, Nat.mul_assoc, Nat.mul_assoc]
    omega
theorem pC_sum {nx : Nat → Nat → Nat} {p N t0 : Nat} (hn : ∀ i t, t < N → nx i t < N) (h0 : t0 < N) (D : Nat → Nat) : ∀ i r, q_sm (fun t => pC nx p N t0 i t * gG nx p D r i t) N = gG nx p D (i + r) 0 t0
  | 0, r => by
    have := q_sm_up (fun _ => 0) (gG nx p D r 0) (k := t0) 1 N
    rw [if_pos h0] at this
    show q_sm (fun t => va_up (fun _ => 0) t0 (0 + 1) t * gG nx p D r 0 t) N = _
    rw [this, Nat.one_mul, Nat.zero_add]
    have z : ∀ N, q_sm (fun u => 0 * gG nx p D r 0 u) N = 0 := by
      intro N
      induction N with
      | zero => rfl
      | succ N ih =>
        show q_sm (fun u => 0 * gG nx p D r 0 u) N + 0 * gG nx p D r 0 N = 0
        rw [ih, Nat.zero_mul]
    rw [z, Nat.zero_add]
  | i + 1, r => by
    show q_sm (fun u => pS (pC nx p N t0 i) (nx i) p N u * gG nx p D r (i + 1) u) N = _
    rw [pS_sum (hn i) _ N (Nat.le_refl _)]
    have := pC_sum (p := p) hn h0 D i (r + 1)
    rw [show i + 1 + r = i + (r + 1) by omega, ← this]
    rfl
def pWy (p : Nat) (s : Nat) : Nat → Nat
  | 0 => 1
  | k + 1 => pWy p s k * (if s.testBit k = true then p else 10 - p)
def pTt (nx : Nat → Nat → Nat) (t0 s : Nat) : Nat → Nat
  | 0 => t0
  | k + 1 => if s.testBit k = true then pTt nx t0 s k else nx k (pTt nx t0 s k)
theorem pWy_cg {p s s' : Nat} : ∀ k, (∀ j, j < k → s.testBit j = s'.testBit j) → pWy p s k = pWy p s' k
  | 0, _ => rfl
  | k + 1, h => by
    unfold pWy
    rw [pWy_cg k (fun j hj => h j (by omega)), h k (by omega)]
theorem pTt_cg {nx : Nat → Nat → Nat} {t0 s s' : Nat} : ∀ k, (∀ j, j < k → s.testBit j = s'.testBit j) → pTt nx t0 s k = pTt nx t0 s' k
  | 0, _ => rfl
  | k + 1, h => by
    unfold pTt
    rw [pTt_cg k (fun j hj => h j (by omega)), h k (by omega)]
theorem pWy_sum {nx : Nat → Nat → Nat} {p t0 : Nat} (D : Nat → Nat) : ∀ k r, q_sm (fun s => pWy p s k * gG nx p D r k (pTt nx t0 s k)) (2 ^ k) = gG nx p D (k + r) 0 t0
  | 0, r => by
    show 0 + 1 * gG nx p D r 0 t0 = _
    rw [Nat.zero_add, Nat.one_mul, Nat.zero_add]
  | k + 1, r => by
    have ih := pWy_sum (nx := nx) (p := p) (t0 := t0) D k (r + 1)
    rw [Nat.pow_succ, Nat.mul_two, q_sm_split, ← q_sm_add, show k + 1 + r = k + (r + 1) by omega, ← ih]
    refine q_sm_cg _ (fun s hs => ?_)
    have b0 : s.testBit k = false := Nat.testBit_lt_two_pow hs
    have b1 : (2 ^ k + s).testBit k = true := by rw [Nat.testBit_two_pow_add_eq, b0]; rfl
    have bl : ∀ j, j < k → (2 ^ k + s).testBit j = s.testBit j := fun j hj => Nat.testBit_two_pow_add_gt hj s
    show pWy p s k * (if s.testBit k = true then p else 10 - p) * gG nx p D r (k + 1) (if s.testBit k = true then pTt nx t0 s k else nx k (pTt nx t0 s k)) + pWy p (2 ^ k + s) k * (if (2 ^ k + s).testBit k = true then p else 10 - p) * gG nx p D r (k + 1) (if (2 ^ k + s).testBit k = true then pTt nx t0 (2 ^ k + s) k else nx k (pTt nx t0 (2 ^ k + s) k)) = pWy p s k * (p * gG nx p D r (k + 1) (pTt nx t0 s k) + (10 - p) * gG nx p D r (k + 1) (nx k (pTt nx t0 s k)))
    rw [b0, b1, pWy_cg k bl, pTt_cg k bl, if_neg (by decide), if_neg (by decide), if_pos rfl, if_pos rfl, Nat.mul_add, Nat.mul_assoc, Nat.mul_assoc]
    omega
/-! Euclid -/
def eu : Nat → Nat × Nat → Nat × Nat
  | 0, s => s
  | i + 1, s => eu i (s.2, s.1 % s.2)
theorem eu_s : ∀ i s, eu (i + 1) s = ((eu i s).2, (eu i s).1 % (eu i s).2)
  | 0, _ => rfl
  | i + 1, s => by
    show eu (i + 1) (s.2, s.1 % s.2) = _
    rw [eu_s i]
    rfl
theorem eu_end : ∀ k g l, l < 2 ^ k → ∃ m, m ≤ 2 * k ∧ (∀ i, i < m → (eu i (g, l)).2 ≠ 0) ∧ eu m (g, l) = (Nat.gcd g l, 0)
  | 0, g, l, h => ⟨0, by omega, fun i hi => by omega, by
      have : l = 0 := by omega
      rw [this, Nat.gcd_zero_right]
      rfl⟩
  | k + 1, g, l, h => by
    by_cases e : l = 0
    · exact ⟨0, by omega, fun i hi => by omega, by rw [e, Nat.gcd_zero_right]; rfl⟩
    · have h1 := Nat.mod_lt g (show 0 < l by omega)
      have gc1 : Nat.gcd g l = Nat.gcd l (g % l) := by rw [Nat.gcd_comm g l, Nat.gcd_rec, Nat.gcd_comm]
      by_cases e1 : g % l = 0
      · refine ⟨1, by omega, fun i hi => ?_, ?_⟩
        · have : i = 0 := by omega
          rw [this]; exact e
        · show (l, g % l) = _
          rw [gc1, e1, Nat.gcd_zero_right]
      · have h2 := Nat.mod_lt l (show 0 < g % l by omega)
        have hlt : l % (g % l) < 2 ^ k := by
          rw [Nat.pow_succ] at h
          by_cases z : 2 * (g % l) ≤ l
          · omega
          · have : l % (g % l) = l - g % l := by
              rw [Nat.mod_eq_sub_mod (by omega), Nat.mod_eq_of_lt (by omega)]
            omega
        obtain ⟨m, m1, m2, m3⟩ := eu_end k (g % l) (l % (g % l)) hlt
        refine ⟨m + 2, by omega, fun i hi => ?_, ?_⟩
        · match i with
          | 0 => exact e
          | 1 => exact e1
          | i + 2 => exact m2 i (by omega)
        · show eu m (g % l, l % (g % l)) = _
          rw [m3, gc1]
          have gc2 : Nat.gcd l (g % l) = Nat.gcd (g % l) (l % (g % l)) := by rw [Nat.gcd_comm l (g % l), Nat.gcd_rec, Nat.gcd_comm]
          rw [gc2]
theorem lg_0 {a : Nat} (ha : a < 2 ^ 63) : lg_cmp (lN a) (lN 0) = 0 ↔ a = 0 := by
  unfold lg_cmp
  by_cases e : a = 0
  · subst e
    rw [if_neg (by rw [gt_iff_lt, pk_lLT ha ha]; omega), if_pos rfl]
    exact ⟨fun _ => rfl, fun _ => rfl⟩
  · rw [if_pos (by rw [gt_iff_lt, pk_lLT (by omega) ha]; omega)]
    exact ⟨fun z => absurd z (by decide), fun z => absurd z e⟩
theorem eu_le {B : Nat} : ∀ i s, s.1 ≤ B → s.2 ≤ B → (eu i s).1 ≤ B ∧ (eu i s).2 ≤ B
  | 0, s, h1, h2 => ⟨h1, h2⟩
  | i + 1, s, h1, h2 => eu_le i (s.2, s.1 % s.2) h2 (Nat.le_trans (Nat.mod_le _ _) h1)
theorem c_common {hp : kw_H} {a b : Nat} (ha : a ≤ 100000000) (hb : b ≤ 100000000) : X11_commonPart_F hp (lN a) (lN b) = some (lN (Nat.gcd b a)) := by
  obtain ⟨m, m1, m2, m3⟩ := eu_end 27 b a (by omega)
  have hle := fun i => eu_le i (b, a) hb ha
  unfold X11_commonPart_F
  refine lp_for (fun i => (lN (eu i (b, a)).1, lN (eu i (b, a)).2, nI i)) m _ (fun i hi => ?_) ?_ 2000 (by omega)
  · have h0 := m2 i hi
    obtain ⟨l1, l2⟩ := hle i
    show X11_commonPart_b9 _ _ _ _ = some (Sum.inl (lN (eu (i + 1) (b, a)).1, lN (eu (i + 1) (b, a)).2, nI (i + 1)))
    unfold X11_commonPart_b9
    rw [if_neg (fun z => by have := (q_le (show 100 < 2147483648 by decide) (show i < 2147483648 by omega)).mp z; omega), if_neg (fun z => h0 ((lg_0 (by omega)).mp z)), q_remL (by omega) (by omega) (by omega), Option.bind_some, nI_add, eu_s]
  · show X11_commonPart_b9 _ _ _ _ = _
    unfold X11_commonPart_b9
    rw [if_neg (fun z => by have := (q_le (show 100 < 2147483648 by decide) (show m < 2147483648 by omega)).mp z; omega), m3, if_pos ((lg_0 (by omega)).mpr rfl)]
    rfl
theorem m_common {hp : kw_H} {R : Int64 × kw_H} {a b : Nat} {x5 : Int32} (ha : a ≤ 100000000) (hb : b ≤ 100000000) (hR : X12_forgets_J243 hp x5 (lN a) (lN b) (lN (Nat.gcd a b)) = some R) : X12_forgets_J210 hp x5 (lN a) (lN b) = some R := by
  obtain ⟨m, m1, m2, m3⟩ := eu_end 27 a b (by omega)
  have hle := fun i => eu_le i (a, b) ha hb
  unfold X12_forgets_J210
  refine lp_for (fun i => (lN (eu i (a, b)).1, lN (eu i (a, b)).2)) m _ (fun i hi => ?_) ?_ 2000 (by omega)
  · have h0 := m2 i hi
    obtain ⟨l1, l2⟩ := hle i
    show X12_forgets_b218 _ _ _ _ _ _ = some (Sum.inl (lN (eu (i + 1) (a, b)).1, lN (eu (i + 1) (a, b)).2))
    unfold X12_forgets_b218
    rw [if_neg (fun z => h0 ((lg_0 (by omega)).mp z)), q_remL (by omega) (by omega) (by omega), Option.bind_some, eu_s]
  · show X12_forgets_b218 _ _ _ _ _ _ = _
    unfold X12_forgets_b218
    rw [m3, if_pos ((lg_0 (by omega)).mpr rfl), hR]
    rfl
