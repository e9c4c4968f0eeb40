/-! ===== numbers, loops, searches: what the functions of the system come to ===== -/
section KqNum
variable {a b : Nat}
theorem q_lt (ha : a < 2147483648) (hb : b < 2147483648) : (nI a < nI b) ↔ a < b := nI_ltI ha hb
theorem q_le (ha : a < 2147483648) (hb : b < 2147483648) : (nI a ≤ nI b) ↔ a ≤ b := nI_leI ha hb
theorem q_eq (ha : a < 2147483648) (hb : b < 2147483648) : (nI a = nI b) ↔ a = b := nI_eq ha hb
theorem q_lt0 (ha : a < 2147483648) : (nI a < 0) ↔ False := ⟨fun h => nI_pos ha h, False.elim⟩
theorem q_0lt (ha : a < 2147483648) : (0 < nI a) ↔ 0 < a := by
  rw [show (0 : Int32) = nI 0 from nI_0.symm]; exact nI_ltI (by decide) ha
theorem q_0le (ha : a < 2147483648) : (0 ≤ nI a) ↔ True := ⟨fun _ => trivial, fun _ => nI_pos' ha⟩
theorem q_eq0 (ha : a < 2147483648) : (nI a = 0) ↔ a = 0 := by
  rw [show (0 : Int32) = nI 0 from nI_0.symm]; exact nI_eq ha (by decide)
theorem q_le0 (ha : a < 2147483648) : (nI a ≤ 0) ↔ a = 0 := by
  rw [show (0 : Int32) = nI 0 from nI_0.symm, nI_leI ha (by decide)]; omega
theorem q_neg {x : Int32} (hx : x.toInt < 0) (ha : a < 2147483648) : (nI a = x) ↔ False := ⟨fun h => by
  have := nI_toInt (n := a) ha
  rw [h] at this
  omega, False.elim⟩
theorem q_none (ha : a < 2147483648) : (nI a = (-1000000)) ↔ False := q_neg (by decide) ha
theorem q_rem (ha : a < 2147483648) (h0 : 0 < b) (hb : b < 2147483648) : kp_rem (nI a) (nI b) = some (nI (a % b)) := by
  unfold kp_rem
  rw [if_neg (fun h => by rw [q_eq0 hb] at h; omega), pk_rem ha h0 hb]
theorem q_div (ha : a < 2147483648) (h0 : 0 < b) (hb : b < 2147483648) : kp_div (nI a) (nI b) = some (nI (a / b)) := by
  unfold kp_div
  rw [if_neg (fun h => by rw [q_eq0 hb] at h; omega), pk_div ha h0 hb]
theorem q_cl (ha : a < 2147483648) : (nI a).toNatClampNeg = a := nI_clamp ha
end KqNum
section KqLp
variable {σ ρ : Type} {b : σ → Option (σ ⊕ ρ)}
theorem lp_for (st : Nat → σ) (m : Nat) (r : ρ) (hstep : ∀ i, i < m → b (st i) = some (.inl (st (i + 1)))) (hend : b (st m) = some (.inr r)) (n : Nat) (hn : m < n) : kp_lp b n (st 0) = some r := by
  have key : ∀ k, k ≤ m → kp_lp b (n - (m - k)) (st (m - k)) = some r := by
    intro k
    induction k with
    | zero =>
      intro _
      obtain ⟨q, hq⟩ : ∃ q, n - (m - 0) = q + 1 := ⟨n - m - 1, by omega⟩
      rw [hq]
      simp only [kp_lp, Nat.sub_zero, hend]
    | succ k ih =>
      intro hk
      obtain ⟨q, hq⟩ : ∃ q, n - (m - (k + 1)) = q + 1 := ⟨n - (m - (k + 1)) - 1, by omega⟩
      have h1 := ih (by omega)
      have e1 : n - (m - k) = q := by omega
      have e2 : m - (k + 1) + 1 = m - k := by omega
      rw [e1] at h1
      rw [hq]
      simp only [kp_lp, hstep (m - (k + 1)) (by omega), e2]
      exact h1
  have h := key m (Nat.le_refl _)
  simp only [Nat.sub_self, Nat.sub_zero] at h
  exact h
/-- a search: the body ends at the first place where f says something, else at m with d -/
theorem lp_find (st : Nat → σ) (m : Nat) (f : Nat → Option ρ) (d : ρ) (hstep : ∀ i, i < m → b (st i) = some (match f i with
  | some r => .inr r
  | none => .inl (st (i + 1)))) (hend : b (st m) = some (.inr d)) (n : Nat) (hn : m < n) : kp_lp b n (st 0) = some (((List.range m).findSome? f).getD d) := by
  have key : ∀ k, k ≤ m → kp_lp b (n - (m - k)) (st (m - k)) = some (((List.range' (m - k) k).findSome? f).getD d) := by
    intro k
    induction k with
    | zero =>
      intro _
      obtain ⟨q, hq⟩ : ∃ q, n - (m - 0) = q + 1 := ⟨n - m - 1, by omega⟩
      rw [hq]
      simp only [kp_lp, Nat.sub_zero, hend]
      simp
    | succ k ih =>
      intro hk
      obtain ⟨q, hq⟩ : ∃ q, n - (m - (k + 1)) = q + 1 := ⟨n - (m - (k + 1)) - 1, by omega⟩
      have h1 := ih (by omega)
      have e1 : n - (m - k) = q := by omega
      have e2 : m - (k + 1) + 1 = m - k := by omega
      rw [e1] at h1
      rw [hq]
      have e3 : List.range' (m - (k + 1)) (k + 1) = (m - (k + 1)) :: List.range' (m - k) k := by
        rw [List.range'_succ, e2]
      rw [e3, List.findSome?_cons]
      simp only [kp_lp, hstep (m - (k + 1)) (by omega), e2]
      cases hf : f (m - (k + 1)) with
      | some r => simp
      | none => simpa using h1
  have h := key m (Nat.le_refl _)
  simp only [Nat.sub_self, Nat.sub_zero] at h
  rw [List.range_eq_range']
  exact h
/-- f applied n times, with the number of the turn -/
def q_it {α : Type} (f : Nat → α → α) (x : α) : Nat → α
  | 0 => x
  | n + 1 => f n (q_it f x n)
theorem q_it_inv {α : Type} {f : Nat → α → α} {x : α} (I : Nat → α → Prop) (h0 : I 0 x) (m : Nat) (hs : ∀ i y, i < m → I i y → I (i + 1) (f i y)) : I m (q_it f x m) := by
  have : ∀ k, k ≤ m → I k (q_it f x k) := by
    intro k
    induction k with
    | zero => intro _; exact h0
    | succ k ih => intro hk; exact hs k _ (by omega) (ih (by omega))
  exact this m (Nat.le_refl _)
theorem q_it_eq {α β : Type} {f : Nat → α → α} {g : Nat → β → β} {x : α} {y : β} (φ : α → β) (h0 : φ x = y) (m : Nat) (hs : ∀ i z, i < m → φ (f i z) = g i (φ z)) : φ (q_it f x m) = q_it g y m :=
  q_it_inv (f := f) (x := x) (fun i z => φ z = q_it g y i) h0 m (fun i z hi hz => by rw [hs i z hi, hz]; rfl)
theorem q_it_congr {α : Type} {f g : Nat → α → α} {x : α} (m : Nat) (hs : ∀ i z, i < m → f i z = g i z) : q_it f x m = q_it g x m :=
  q_it_eq id rfl m hs
end KqLp
section KqInt
/-- an int of an integer -/
def eI (z : Int) : Int32 := Int32.ofInt z
theorem eI_n (n : Nat) : nI n = eI n := by
  show Int32.ofNat n = Int32.ofInt n
  exact (Int32.ofInt_eq_ofNat (n := n)).symm
theorem eI_add (x y : Int) : eI x + eI y = eI (x + y) := (Int32.ofInt_add x y).symm
theorem eI_neg (x : Int) : -eI x = eI (-x) := (Int32.ofInt_neg x).symm
theorem eI_sub (x y : Int) : eI x - eI y = eI (x - y) := (Int32.ofInt_sub x y).symm
theorem eI_mul (x y : Int) : eI x * eI y = eI (x * y) := (Int32.ofInt_mul x y).symm
theorem eI_toInt {z : Int} (h : -2147483648 ≤ z) (h2 : z < 2147483648) : (eI z).toInt = z := Int32.toInt_ofInt_of_le (by simpa using h) (by simpa using h2)
theorem eI_of (x : Int32) : x = eI x.toInt := (Int32.ofInt_toInt x).symm
theorem eI_lt {x y : Int} (h1 : -2147483648 ≤ x) (h2 : x < 2147483648) (h3 : -2147483648 ≤ y) (h4 : y < 2147483648) : eI x < eI y ↔ x < y := by
  rw [Int32.lt_iff_toInt_lt, eI_toInt h1 h2, eI_toInt h3 h4]
theorem eI_le {x y : Int} (h1 : -2147483648 ≤ x) (h2 : x < 2147483648) (h3 : -2147483648 ≤ y) (h4 : y < 2147483648) : eI x ≤ eI y ↔ x ≤ y := by
  rw [Int32.le_iff_toInt_le, eI_toInt h1 h2, eI_toInt h3 h4]
theorem eI_eq {x y : Int} (h1 : -2147483648 ≤ x) (h2 : x < 2147483648) (h3 : -2147483648 ≤ y) (h4 : y < 2147483648) : eI x = eI y ↔ x = y := by
  rw [← Int32.toInt_inj, eI_toInt h1 h2, eI_toInt h3 h4]
theorem eI_rem {z : Int} {n : Nat} (h1 : -1073741824 ≤ z) (h2 : z < 1073741824) (h0 : 0 < n) (hn : n < 1073741824) : kp_rem (eI z) (nI n) = some (eI (z.tmod n)) := by
  unfold kp_rem
  rw [if_neg (fun h => by rw [q_eq0 (by omega)] at h; omega)]
  congr 1
  rw [eI_n]
  have hd : eI z / eI n = eI (z.tdiv n) := by
    rw [← Int32.toInt_inj, Int32.toInt_div_of_ne_right _ _ (by
      intro h
      have := congrArg Int32.toInt h
      rw [eI_toInt (by omega) (by omega)] at this
      have e : Int32.toInt (-1) = -1 := by decide
      omega), eI_toInt (by omega) (by omega), eI_toInt (by omega) (by omega), eI_toInt]
    · have := Int.natAbs_tdiv z n
      have h5 : (z.tdiv n).natAbs ≤ z.natAbs := by rw [this]; exact Nat.div_le_self _ _
      omega
    · have := Int.natAbs_tdiv z n
      have h5 : (z.tdiv n).natAbs ≤ z.natAbs := by rw [this]; exact Nat.div_le_self _ _
      omega
  rw [hd, eI_mul, eI_sub]
  congr 1
  have := Int.tmod_def z n
  rw [this, Int.mul_comm]
/-- the rest of an integer, 0 or more -/
theorem eI_rest {z : Int} {n : Nat} (h0 : 0 < n) : (if z.tmod n < 0 then z.tmod n + n else z.tmod n) = z % n := by
  have h1 := Int.tmod_eq_emod (a := z) (b := n)
  have h2 := Int.emod_nonneg z (b := n) (by omega)
  have h3 := Int.emod_lt_of_pos z (b := n) (by omega)
  split at h1 <;> split <;> omega
end KqInt
