/-! ===== the invariant of the two, behind j calls ===== -/
/-- the references that an array of turners holds are turners -/
def TV (hp : kw_H) (tu : Nat → Option Nat) : Prop := ∀ k a, k < 4 → tu k = some a → ∃ ci fs, hp[a]? = some (.inr (ci, fs)) ∧ ci ∈ [0, 3, 4, 5, 7]
def KB (hp : kw_H) (i : Nat) (T : Tw) : Prop := ∃ v nm jb tu tm, KC hp i v nm jb tu tm ∧ KV v nm jb tm T ∧ TU hp tu T ∧ TV hp tu
def tReal (T : Tw) : Prop := tOk T ∧ T 3 ≤ 999
def OWN (kr : Nat → Nat → Option Nat) (i : Nat) : Option Nat := if i < 24 then kr 36 i else kr 37 (i - 24)
def I_rows (ka ar : Nat → Nat → Int32) : Prop := ∀ r, r < 8 → ar 3 r = ka 12 r ∧ ar 2 r = ka 11 r ∧ (ka 12 r = (-1) ∨ ∃ n, n ≤ 40 ∧ ka 12 r = nI n) ∧ (∃ l, l ≤ 2 ∧ ka 11 r = nI l) ∧ ∀ i, i < 40 → ar 4 (40 * r + i) = ka (3 + r) i
def I_tape (ks ka : Nat → Nat → Int32) (sc : Nat → Int32) (ar : Nat → Nat → Int32) : Prop := ∃ n, n ≤ 80 ∧ ks 13 1 = nI n ∧ sc 8 = nI n ∧ ∀ k, k < n → ar 5 k = ka 14 k ∧ ∃ c, c < 256 ∧ ka 14 k = nI c
def I_misc (ks : Nat → Nat → Int32) (sc : Nat → Int32) : Prop := sc 9 = ks 0 9 ∧ sc 10 = ks 0 10
/-- the draft's week, turned, away and counts stay 0 -/
def I_dr (ks ka : Nat → Nat → Int32) : Prop := ks 15 7 = nI 0 ∧ ks 15 8 = nI 0 ∧ ks 15 9 = nI 0 ∧ ∀ k, k < 36 → ka 19 k = nI 0
def I_trace (ks ka : Nat → Nat → Int32) (sc : Nat → Int32) (ar : Nat → Nat → Int32) : Prop := (∃ n, n ≤ 16 ∧ ks 34 1 = nI n ∧ sc 12 = nI n ∧ ∀ k, k < n → ar 6 k = ka 35 k) ∧ I_dr ks ka
def I_town (hp : kw_H) (sc : Nat → Int32) (ar : Nat → Nat → Int32) (T : Tw) : Prop := KB hp 20 T ∧ tA (ar 0) 0 T ∧ ((tReal T ∧ sc 1 = nI 1) ∨ (T = (fun _ => 0) ∧ sc 1 = nI 0))
def I_acts (hp : kw_H) (ks : Nat → Nat → Int32) (kr : Nat → Nat → Option Nat) (sc : Nat → Int32) (ar : Nat → Nat → Int32) (n o : Nat) (A : Nat → Tw) : Prop := n ≤ 24 ∧ o < 24 ∧ ks 0 8 = nI n ∧ ks 0 7 = nI o ∧ sc 2 = nI n ∧ ((0 < n ∨ ∃ k a, k < 2 ∧ kr 37 k = some a) → sc 1 = nI 1) ∧ ∀ k, k < n → ∃ a, kr 36 ((o + k) % 24) = some a ∧ KB hp a (A k) ∧ tReal (A k) ∧ tA (ar 0) (66 + 66 * k) (A k)
def I_img (hp : kw_H) (kr : Nat → Nat → Option Nat) (ar : Nat → Nat → Int32) : Prop := ∀ k, k < 2 → (kr 37 k = none ∧ ar 1 k = nI 0) ∨ ∃ a T, kr 37 k = some a ∧ KB hp a T ∧ tReal T ∧ tA (ar 0) (1650 + 66 * k) T ∧ ar 1 k = nI 1
def I_own (hp : kw_H) (kr : Nat → Nat → Option Nat) : Prop := (∀ i a, i < 26 → OWN kr i = some a → 47 ≤ a ∧ ∃ v nm jb tu tm, KC hp a v nm jb tu tm) ∧ ∀ i j a b, i < 26 → j < 26 → i ≠ j → OWN kr i = some a → OWN kr j = some b → a + 5 ≤ b ∨ b + 5 ≤ a
def I_len (hp : kw_H) (kr : Nat → Nat → Option Nat) (j : Nat) : Prop := hp.length ≤ 47 + 5 * q_ct (fun i => (OWN kr i).isSome) 26 + 5 * j
def IV (j : Nat) (hp : kw_H) (ks ka : Nat → Nat → Int32) (kl : Nat → Nat → Int64) (kr : Nat → Nat → Option Nat) (sc : Nat → Int32) (ar : Nat → Nat → Int32) (T : Tw) (n o : Nat) (A : Nat → Tw) : Prop :=
  CV hp ks ka kl kr ∧ MV hp sc ar ∧ I_len hp kr j ∧ I_rows ka ar ∧ I_tape ks ka sc ar ∧ I_misc ks sc ∧ I_trace ks ka sc ar ∧ I_town hp sc ar T ∧ I_acts hp ks kr sc ar n o A ∧ I_img hp kr ar ∧ I_own hp kr ∧ TV hp (kr 18)
def Inv (j : Nat) (hp : kw_H) : Prop := ∃ ks ka kl kr sc ar T n o A, IV j hp ks ka kl kr sc ar T n o A
theorem Inv_O : ∀ j hp, Inv j hp → ∃ fs, hp[0]? = some (.inr (10, fs)) := by
  rintro j hp ⟨ks, ka, kl, kr, sc, ar, T, n, o, A, h, -⟩
  exact ⟨_, cv0 h⟩
theorem Inv_S : ∀ j hp, Inv j hp → Inv (j + 1) hp := by
  rintro j hp ⟨ks, ka, kl, kr, sc, ar, T, n, o, A, h1, h2, h3, h4⟩
  exact ⟨ks, ka, kl, kr, sc, ar, T, n, o, A, h1, h2, by unfold I_len at *; omega, h4⟩
theorem Inv_M {j : Nat} {hp : kw_H} (h : Inv j hp) : ∃ fs, hp[38]? = some (.inr (11, fs)) := by
  obtain ⟨ks, ka, kl, kr, sc, ar, T, n, o, A, h1, h2, -⟩ := h
  exact ⟨_, h2 0 (by decide)⟩
theorem IV_len {j : Nat} {hp : kw_H} {kr : Nat → Nat → Option Nat} (h : I_len hp kr j) (hj : j ≤ 64) : hp.length ≤ 497 := by
  unfold I_len at h
  have := q_ct_le (fun i => (OWN kr i).isSome) 26
  omega
/-- the kitchen's fixed cells as a cluster -/
theorem CV_KC {hp : kw_H} {ks ka : Nat → Nat → Int32} {kl : Nat → Nat → Int64} {kr : Nat → Nat → Option Nat} (h : CV hp ks ka kl kr) : KC hp 20 (fun k => ks 20 (4 + k)) (ka 21) (ka 22) (kr 23) (ka 24) := ⟨cv20 h, cv21 h, cv22 h, cv23 h, cv24 h⟩
theorem CV_KC26 {hp : kw_H} {ks ka : Nat → Nat → Int32} {kl : Nat → Nat → Int64} {kr : Nat → Nat → Option Nat} (h : CV hp ks ka kl kr) : KC hp 26 (fun k => ks 26 (4 + k)) (ka 27) (ka 28) (kr 29) (ka 30) := ⟨cv26 h, cv27 h, cv28 h, cv29 h, cv30 h⟩
theorem CV_KC15 {hp : kw_H} {ks ka : Nat → Nat → Int32} {kl : Nat → Nat → Int64} {kr : Nat → Nat → Option Nat} (h : CV hp ks ka kl kr) : KC hp 15 (fun k => ks 15 (4 + k)) (ka 16) (ka 17) (kr 18) (ka 19) := ⟨cv15 h, cv16 h, cv17 h, cv18 h, cv19 h⟩
set_option maxRecDepth 100000 in
set_option maxHeartbeats 4000000 in
theorem init1 : ∃ hp1, X11_init_F [.inr (10, [.null, .null, .null, .null, .null, .null, .null, .int 0, .int 0, .int 0, .int 0])] 0 = some hp1 ∧ ∃ f, hp1 = ccells (fun _ _ => 0) (fun q => if q = 12 then f else fun _ => 0) (fun _ _ => 0) (fun _ _ => none) ∧ ∀ k, k < 8 → f k = (-1) := by
  refine ⟨_, rfl, _, rfl, ?_⟩
  intro k hk
  rcases (show k = 0 ∨ k = 1 ∨ k = 2 ∨ k = 3 ∨ k = 4 ∨ k = 5 ∨ k = 6 ∨ k = 7 by omega) with rfl | rfl | rfl | rfl | rfl | rfl | rfl | rfl <;> rfl
