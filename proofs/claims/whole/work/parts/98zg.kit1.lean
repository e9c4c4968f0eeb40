/-! ===== kitchen: what a text is; the reference reads it ===== -/
def kIs (b : Nat → Nat) (L k c : Nat) : Prop := k < L ∧ b k = c
def nmO (b : Nat → Nat) (L k : Nat) : Bool := decide (k < L ∧ (b k = 122 ∨ (97 ≤ b k ∧ b k ≤ 102)))
def nmV (c : Nat) : Nat := if c = 122 then 6 else c - 97
def kNs (b : Nat → Nat) (L k n : Nat) : Prop := n ≤ 8 ∧ (∀ i, i < n → nmO b L (k + i) = true) ∧ (n = 8 ∨ nmO b L (k + n) = false)
def WF (b : Nat → Nat) (L p c x : Nat) : Prop := (x = p ∧ ¬ kIs b L p c) ∨ (kIs b L p c ∧ ∃ n, kNs b L (p + 1) n ∧ ((n = 0 ∧ x = p + 1) ∨ (0 < n ∧ ¬ kIs b L (p + 1 + n) 59 ∧ x = p + 1 + n)))
def WO (b : Nat → Nat) (L p c n : Nat) : Prop := kIs b L p c ∧ kNs b L (p + 1) n ∧ 0 < n ∧ kIs b L (p + 1 + n) 59
def kdO (c : Nat) : Nat := if c = 111 then 1 else if c = 115 then 2 else if c = 98 then 3 else if c = 108 then 4 else if c = 114 then 5 else 0
def kdA (b : Nat → Nat) (L k : Nat) : Nat := if k < L then kdO (b k) else 0
def fig (b : Nat → Nat) (L k : Nat) : Bool := decide (k < L ∧ 48 ≤ b k ∧ b k ≤ 57)
def NO (b : Nat → Nat) (L k v s : Nat) : Prop := (s = 1 ∧ fig b L k = true ∧ fig b L (k + 1) = false ∧ v = b k - 48) ∨ (s = 2 ∧ fig b L k = true ∧ fig b L (k + 1) = true ∧ fig b L (k + 2) = false ∧ v = 10 * (b k - 48) + (b (k + 1) - 48))
def NF (b : Nat → Nat) (L k w : Nat) : Prop := (w = 1 ∧ (fig b L k = false ∨ (fig b L k = true ∧ fig b L (k + 1) = true ∧ fig b L (k + 2) = true))) ∨ (w = 2 ∧ ∃ v s, NO b L k v s ∧ 9 < v)
def TF (b : Nat → Nat) (L i p x w : Nat) : Prop := (kdA b L p = 0 ∧ x = p ∧ w = 1) ∨ (kdA b L p ≠ 0 ∧ i = 4 ∧ x = p ∧ w = 3) ∨ (kdA b L p ≠ 0 ∧ i < 4 ∧ NF b L (p + 1) w ∧ x = p + 1) ∨ (kdA b L p ≠ 0 ∧ i < 4 ∧ ∃ v s, NO b L (p + 1) v s ∧ v ≤ 9 ∧ ¬ kIs b L (p + 1 + s) 59 ∧ x = p + 1 + s ∧ w = 1)
def TOk (b : Nat → Nat) (L i p kd v p' : Nat) : Prop := kd = kdA b L p ∧ kd ≠ 0 ∧ i < 4 ∧ ∃ s, NO b L (p + 1) v s ∧ v ≤ 9 ∧ kIs b L (p + 1 + s) 59 ∧ p' = p + 2 + s
section Pure
variable (b : Nat → Nat) (L : Nat)
theorem names_sp (k : Nat) : ∃ n, kNs b L k n := by
  obtain ⟨e, h1, h2, h3⟩ := first_e (fun i => !nmO b L (k + i)) 8
  refine ⟨e, h1, fun i hi => by have := h2 i hi; simpa using this, ?_⟩
  rcases h3 with h3 | ⟨-, h3⟩
  · exact Or.inl h3
  · exact Or.inr (by simpa using h3)
theorem wheel_sp (p c : Nat) : (∃ x, WF b L p c x) ∨ ∃ n, WO b L p c n := by
  by_cases h : kIs b L p c
  · obtain ⟨n, hn⟩ := names_sp b L (p + 1)
    by_cases h0 : n = 0
    · exact Or.inl ⟨p + 1, Or.inr ⟨h, n, hn, Or.inl ⟨h0, rfl⟩⟩⟩
    · by_cases h59 : kIs b L (p + 1 + n) 59
      · exact Or.inr ⟨n, h, hn, by omega, h59⟩
      · exact Or.inl ⟨p + 1 + n, Or.inr ⟨h, n, hn, Or.inr ⟨by omega, h59, rfl⟩⟩⟩
  · exact Or.inl ⟨p, Or.inl ⟨rfl, h⟩⟩
theorem number_sp (k : Nat) : (∃ w, NF b L k w) ∨ ∃ v s, NO b L k v s ∧ v ≤ 9 := by
  cases h1 : fig b L k with
  | false => exact Or.inl ⟨1, Or.inl ⟨rfl, Or.inl h1⟩⟩
  | true =>
    cases h2 : fig b L (k + 1) with
    | false =>
      by_cases h9 : b k - 48 ≤ 9
      · exact Or.inr ⟨_, 1, Or.inl ⟨rfl, h1, h2, rfl⟩, h9⟩
      · exact Or.inl ⟨2, Or.inr ⟨rfl, _, 1, Or.inl ⟨rfl, h1, h2, rfl⟩, by omega⟩⟩
    | true =>
      cases h3 : fig b L (k + 2) with
      | true => exact Or.inl ⟨1, Or.inl ⟨rfl, Or.inr ⟨h1, h2, h3⟩⟩⟩
      | false =>
        by_cases h9 : 10 * (b k - 48) + (b (k + 1) - 48) ≤ 9
        · exact Or.inr ⟨_, 2, Or.inr ⟨rfl, h1, h2, h3, rfl⟩, h9⟩
        · exact Or.inl ⟨2, Or.inr ⟨rfl, _, 2, Or.inr ⟨rfl, h1, h2, h3, rfl⟩, by omega⟩⟩
theorem turner_sp {i : Nat} (hi : i ≤ 4) (p : Nat) : (∃ x w, TF b L i p x w) ∨ ∃ kd v p', TOk b L i p kd v p' := by
  by_cases h0 : kdA b L p = 0
  · exact Or.inl ⟨p, 1, Or.inl ⟨h0, rfl, rfl⟩⟩
  · by_cases h4 : i = 4
    · exact Or.inl ⟨p, 3, Or.inr (Or.inl ⟨h0, h4, rfl, rfl⟩)⟩
    · rcases number_sp b L (p + 1) with ⟨w, hw⟩ | ⟨v, s, hv, h9⟩
      · exact Or.inl ⟨p + 1, w, Or.inr (Or.inr (Or.inl ⟨h0, by omega, hw, rfl⟩))⟩
      · by_cases h59 : kIs b L (p + 1 + s) 59
        · exact Or.inr ⟨_, v, _, rfl, h0, by omega, s, hv, h9, h59, rfl⟩
        · exact Or.inl ⟨_, 1, Or.inr (Or.inr (Or.inr ⟨h0, by omega, v, s, hv, h9, h59, rfl, rfl⟩))⟩
def TSq (p0 m : Nat) (ps kds bys : Nat → Nat) : Prop := ps 0 = p0 ∧ ∀ i, i < m → (i = 0 ∨ ps i < L) ∧ TOk b L i (ps i) (kds i) (bys i) (ps (i + 1))
def TEn (m : Nat) (ps : Nat → Nat) : Prop := (0 < m ∧ ps m = L) ∨ ∃ x w, (m = 0 ∨ ps m < L) ∧ TF b L m (ps m) x w
theorem turners_sp (p0 : Nat) : ∃ m, m ≤ 4 ∧ ∃ ps kds bys, TSq b L p0 m ps kds bys ∧ TEn b L m ps := by
  have key : ∀ n, n ≤ 4 → (∃ m, m ≤ 4 ∧ ∃ ps kds bys, TSq b L p0 m ps kds bys ∧ TEn b L m ps) ∨ ∃ ps kds bys, TSq b L p0 n ps kds bys := by
    intro n
    induction n with
    | zero => intro _; exact Or.inr ⟨fun _ => p0, fun _ => 0, fun _ => 0, rfl, fun i hi => by omega⟩
    | succ n ih =>
      intro hn
      rcases ih (by omega) with h | ⟨ps, kds, bys, h0, hs⟩
      · exact Or.inl h
      · by_cases hL : 0 < n ∧ ps n = L
        · exact Or.inl ⟨n, by omega, ps, kds, bys, ⟨h0, hs⟩, Or.inl hL⟩
        · have hlt : n = 0 ∨ ps n < L := by
            by_cases e : n = 0
            · exact Or.inl e
            · right
              obtain ⟨-, h1, h2, h3, s, h4, h5, h6, h7⟩ := hs (n - 1) (by omega)
              rw [show n - 1 + 1 = n by omega] at h7
              have := h6.1
              omega
          rcases turner_sp b L (show n ≤ 4 by omega) (ps n) with ⟨x, w, ht⟩ | ⟨kd, v, p', ht⟩
          · exact Or.inl ⟨n, by omega, ps, kds, bys, ⟨h0, hs⟩, Or.inr ⟨x, w, hlt, ht⟩⟩
          · refine Or.inr ⟨fun i => if i ≤ n then ps i else p', fun i => if i < n then kds i else kd, fun i => if i < n then bys i else v, by show (if 0 ≤ n then ps 0 else p') = p0; rw [if_pos (by omega)]; exact h0, fun i hi => ?_⟩
            by_cases e : i < n
            · simp only [show i ≤ n by omega, show i + 1 ≤ n by omega, e, if_true]
              exact hs i e
            · have : i = n := by omega
              subst this
              simp only [Nat.le_refl, show ¬ i + 1 ≤ i by omega, e, if_true, if_false]
              exact ⟨hlt, ht⟩
  rcases key 4 (by omega) with h | ⟨ps, kds, bys, h0, hs⟩
  · exact h
  · refine ⟨4, by omega, ps, kds, bys, ⟨h0, hs⟩, ?_⟩
    by_cases hL : ps 4 = L
    · exact Or.inl ⟨by omega, hL⟩
    · obtain ⟨-, h1, h2, h3, s, h4, h5, h6, h7⟩ := hs 3 (by omega)
      have := h6.1
      have h7 : ps 4 = ps 3 + 2 + s := h7
      rcases turner_sp b L (show 4 ≤ 4 by omega) (ps 4) with ⟨x, w, ht⟩ | ⟨kd, v, p', ht⟩
      · exact Or.inr ⟨x, w, Or.inr (by omega), ht⟩
      · exact absurd ht.2.2.1 (by omega)
end Pure
/-- the reference's numbers while it reads: at, wrong, number -/
def sP (sc : Nat → Int32) (a w n : Int32) : Nat → Int32 := fun i => if i = 13 then a else if i = 14 then w else if i = 15 then n else sc i
section MKit
variable {C P : kw_H} {sc : Nat → Int32} {ar : Nat → Nat → Int32} {f : Nat → Int32} {b : Nat → Nat} {L : Nat} {a w n : Int32}
theorem sP_13 (x : Int32) : upd (sP sc a w n) 13 x = sP sc x w n := by
  funext i
  unfold upd sP
  by_cases e : i = 13
  · rw [if_pos e, if_pos e]
  · rw [if_neg e, if_neg e, if_neg e]
theorem sP_14 (x : Int32) : upd (sP sc a w n) 14 x = sP sc a x n := by
  funext i
  unfold upd sP
  by_cases e : i = 14
  · rw [if_pos e, if_neg (by omega), if_pos e]
  · rw [if_neg e]
    by_cases e2 : i = 13
    · rw [if_pos e2, if_pos e2]
    · rw [if_neg e2, if_neg e2, if_neg e, if_neg e]
theorem sP_15 (x : Int32) : upd (sP sc a w n) 15 x = sP sc a w x := by
  funext i
  unfold upd sP
  by_cases e : i = 15
  · rw [if_pos e, if_neg (by omega), if_neg (by omega), if_pos e]
  · rw [if_neg e]
    by_cases e2 : i = 13
    · rw [if_pos e2, if_pos e2]
    · rw [if_neg e2, if_neg e2]
      by_cases e3 : i = 14
      · rw [if_pos e3, if_pos e3]
      · rw [if_neg e3, if_neg e3, if_neg e, if_neg e]
def RD (C : kw_H) (sc : Nat → Int32) (ar : Nat → Nat → Int32) (P : kw_H) (f : Nat → Int32) (a w n : Int32) : kw_H := hR C (sP sc a w n) ar P f
theorem d_13 (hC : C.length = 38) : kp_gI (RD C sc ar P f a w n) 38 [11] 13 = some a := m_g13 hC
theorem d_14 (hC : C.length = 38) : kp_gI (RD C sc ar P f a w n) 38 [11] 14 = some w := m_g14 hC
theorem d_15 (hC : C.length = 38) : kp_gI (RD C sc ar P f a w n) 38 [11] 15 = some n := m_g15 hC
theorem d_8 (hC : C.length = 38) : kp_gI (RD C sc ar P f a w n) 38 [11] 8 = some (sc 8) := m_g8 hC
theorem d_p13 (hC : C.length = 38) (x : Int32) : kp_put (RD C sc ar P f a w n) 38 [11] 13 (.int x) = some (RD C sc ar P f x w n) := by
  show kp_put (hM C (sP sc a w n) (va_up ar 0 f) P) 38 [11] 13 _ = _
  rw [m_p13 hC, sP_13]
  rfl
theorem d_p14 (hC : C.length = 38) (x : Int32) : kp_put (RD C sc ar P f a w n) 38 [11] 14 (.int x) = some (RD C sc ar P f a x n) := by
  show kp_put (hM C (sP sc a w n) (va_up ar 0 f) P) 38 [11] 14 _ = _
  rw [m_p14 hC, sP_14]
  rfl
theorem d_p15 (hC : C.length = 38) (x : Int32) : kp_put (RD C sc ar P f a w n) 38 [11] 15 (.int x) = some (RD C sc ar P f a w x) := by
  show kp_put (hM C (sP sc a w n) (va_up ar 0 f) P) 38 [11] 15 _ = _
  rw [m_p15 hC, sP_15]
  rfl
theorem d_ob (hC : C.length = 38) : kp_ob (RD C sc ar P f a w n) 38 11 = some () := r_ob hC
theorem d_r0 (hC : C.length = 38) : kp_gR (RD C sc ar P f a w n) 38 [11] 0 = some 39 := r_r0 hC
theorem d_r7 (hC : C.length = 38) : kp_gR (RD C sc ar P f a w n) 38 [11] 7 = some 44 := m_r7 hC
theorem d_ld (hC : C.length = 38) {j : Nat} (hj : j < 1848) : kp_ldI (RD C sc ar P f a w n) 39 (nI j) = some (f j) := r_ld hC hj
theorem d_st (hC : C.length = 38) {j : Nat} (hj : j < 1848) (x : Int32) : kp_stI (RD C sc ar P f a w n) 39 (nI j) x = some (RD C sc ar P (upd f j x) a w n) := r_st hC hj x
theorem d_by (hC : C.length = 38) {j : Nat} (hj : j < 80) : kp_ldI (RD C sc ar P f a w n) 44 (nI j) = some (ar 5 j) := m_ld5 hC hj
/-- the tape -/
def TP (sc : Nat → Int32) (ar : Nat → Nat → Int32) (b : Nat → Nat) (L : Nat) : Prop := L ≤ 80 ∧ sc 8 = nI L ∧ ∀ k, k < L → ar 5 k = nI (b k) ∧ b k < 256
theorem m_refuse (hC : C.length = 38) (x : Int32) : X12_refuse_F (RD C sc ar P f a w n) 38 x = some (nI 0, RD C sc ar P f a x n) := by
  unfold X12_refuse_F
  rw [d_p14 hC]
  rfl
theorem m_isLetter (hC : C.length = 38) (hT : TP sc ar b L) {p c : Nat} (hp : p ≤ 200) (hc : c < 256) : (kIs b L p c → X12_isLetter_F (RD C sc ar P f (nI p) w n) 38 (nI c) = some (nI 1)) ∧ (¬ kIs b L p c → X12_isLetter_F (RD C sc ar P f (nI p) w n) 38 (nI c) = some (nI 0)) := by
  obtain ⟨h1, h2, h3⟩ := hT
  unfold X12_isLetter_F kIs
  rw [d_13 hC, Option.bind_some, d_8 hC, Option.bind_some, h2]
  by_cases e : p < L
  · obtain ⟨g1, g2⟩ := h3 p e
    rw [if_neg (fun z => by have := (q_le (show L < 2147483648 by omega) (show p < 2147483648 by omega)).mp z; omega), d_r7 hC, Option.bind_some, Option.bind_some, d_by hC (by omega), Option.bind_some, g1]
    exact ⟨fun z => if_pos ((q_eq (by omega) (by omega)).mpr z.2), fun z => if_neg (fun y => z ⟨e, (q_eq (by omega) (by omega)).mp y⟩)⟩
  · rw [if_pos ((q_le (by omega) (by omega)).mpr (by omega))]
    exact ⟨fun z => absurd z.1 e, fun _ => rfl⟩
theorem m_sign (hC : C.length = 38) (hT : TP sc ar b L) {p c : Nat} (hp : p ≤ 200) (hc : c < 256) : (kIs b L p c → X12_sign_F (RD C sc ar P f (nI p) w n) 38 (nI c) = some (nI 1, RD C sc ar P f (nI (p + 1)) w n)) ∧ (¬ kIs b L p c → X12_sign_F (RD C sc ar P f (nI p) w n) 38 (nI c) = some (nI 0, RD C sc ar P f (nI p) (nI 1) n)) := by
  obtain ⟨l1, l2⟩ := m_isLetter (C := C) (P := P) (f := f) (w := w) (n := n) hC hT hp hc
  unfold X12_sign_F
  rw [d_ob hC, Option.bind_some]
  refine ⟨fun h => ?_, fun h => ?_⟩
  · rw [l1 h, Option.bind_some, if_neg e10, d_13 hC, Option.bind_some, nI_add, d_p13 hC]
    rfl
  · rw [l2 h, Option.bind_some, if_pos e00, Option.bind_some, m_refuse hC]
    rfl
theorem q_wi {hp : kw_H} {x lo hi : Nat} (hx : x < 256) (hl : lo < 256) (hh : hi < 256) : X11_within_F hp (nI x) (nI lo) (nI hi) = some (nI (b2 (decide (lo ≤ x ∧ x ≤ hi)))) := by
  rw [c_within]
  by_cases e : lo ≤ x ∧ x ≤ hi
  · rw [if_pos ⟨(q_le (by omega) (by omega)).mpr e.1, (q_le (by omega) (by omega)).mpr e.2⟩, decide_eq_true e]
    rfl
  · rw [if_neg (fun z => e ⟨(q_le (by omega) (by omega)).mp z.1, (q_le (by omega) (by omega)).mp z.2⟩), decide_eq_false e]
    rfl
theorem m_isFig (hC : C.length = 38) (hT : TP sc ar b L) {k : Nat} (hk : k ≤ 200) : X12_isFigure_F (RD C sc ar P f a w n) 38 (nI k) = some (nI (b2 (fig b L k))) := by
  obtain ⟨h1, h2, h3⟩ := hT
  unfold X12_isFigure_F fig
  rw [d_8 hC, Option.bind_some, h2]
  by_cases e : k < L
  · obtain ⟨g1, g2⟩ := h3 k e
    rw [if_neg (fun z => by have := (q_le (show L < 2147483648 by omega) (show k < 2147483648 by omega)).mp z; omega), d_r7 hC, Option.bind_some, d_by hC (by omega), Option.bind_some, g1, l_n 48 (by decide), l_n 57 (by decide), l_in, q_wi g2 (by omega) (by omega), Option.bind_some]
    by_cases e2 : 48 ≤ b k ∧ b k ≤ 57
    · rw [decide_eq_true e2, decide_eq_true (show k < L ∧ 48 ≤ b k ∧ b k ≤ 57 from ⟨e, e2⟩)]
      rfl
    · rw [decide_eq_false e2, decide_eq_false (show ¬ (k < L ∧ 48 ≤ b k ∧ b k ≤ 57) from fun z => e2 z.2)]
      rfl
  · rw [if_pos ((q_le (by omega) (by omega)).mpr (by omega)), decide_eq_false (show ¬ (k < L ∧ 48 ≤ b k ∧ b k ≤ 57) from fun z => e z.1)]
    rfl
theorem m_kol {hp : kw_H} {c : Nat} (hc : c < 256) : X12_kindOfLetter_F hp (nI c) = some (nI (kdO c)) := by
  unfold X12_kindOfLetter_F kdO
  simp (disch := omega) only [q_eq]
  repeat' split
  all_goals first | rfl | contradiction
theorem kdO_le (c : Nat) : kdO c ≤ 5 := by
  unfold kdO
  repeat' split
  all_goals omega
theorem kdA_le (b : Nat → Nat) (L k : Nat) : kdA b L k ≤ 5 := by
  unfold kdA
  split
  · exact kdO_le _
  · omega
theorem m_isSort (hC : C.length = 38) (hT : TP sc ar b L) {p : Nat} (hp : p ≤ 200) : X12_isSort_F (RD C sc ar P f (nI p) w n) 38 = some (nI (if kdA b L p = 0 then 0 else 1)) := by
  obtain ⟨h1, h2, h3⟩ := hT
  unfold X12_isSort_F kdA
  rw [d_13 hC, Option.bind_some, d_8 hC, Option.bind_some, h2]
  by_cases e : p < L
  · obtain ⟨g1, g2⟩ := h3 p e
    have := kdO_le (b p)
    rw [if_neg (fun z => by have := (q_le (show L < 2147483648 by omega) (show p < 2147483648 by omega)).mp z; omega), d_r7 hC, Option.bind_some, Option.bind_some, d_by hC (by omega), Option.bind_some, g1, m_kol g2, Option.bind_some, if_pos e]
    by_cases e2 : kdO (b p) = 0
    · rw [if_pos ((q_le0 (by omega)).mpr e2), if_pos e2]
    · rw [if_neg (fun z => e2 ((q_le0 (by omega)).mp z)), if_neg e2]
  · rw [if_pos ((q_le (by omega) (by omega)).mpr (by omega)), if_neg e, if_pos rfl]
theorem fig_b {b : Nat → Nat} {L k : Nat} (h : fig b L k = true) : k < L ∧ 48 ≤ b k ∧ b k ≤ 57 := of_decide_eq_true h
theorem m_numO (hC : C.length = 38) (hT : TP sc ar b L) {p v s : Nat} (hp : p ≤ 190) (h : NO b L p v s) : ∃ n', X12_readsNumber_F (RD C sc ar P f (nI p) w n) 38 (nI 0) (nI 9) = if v ≤ 9 then some (nI 1, RD C sc ar P f (nI (p + s)) w (nI v)) else some (nI 0, RD C sc ar P f (nI p) (nI 2) n') := by
  have hT' := hT
  obtain ⟨h1, h2, h3⟩ := hT
  refine ⟨nI v, ?_⟩
  have j113 : ∀ (m : Int32) (s' : Nat), X12_readsNumber_J113 (RD C sc ar P f (nI p) w m) 38 (nI 0) (nI 9) (nI s') (nI v) 38 = (if v ≤ 9 then some (nI 1, RD C sc ar P f (nI (p + s')) w (nI v)) else some (nI 0, RD C sc ar P f (nI p) (nI 2) (nI v))) ∨ 256 ≤ v := fun m s' => by
    by_cases hv : v < 256
    · left
      unfold X12_readsNumber_J113
      rw [d_p15 hC, Option.bind_some, d_15 hC, Option.bind_some, l_in, q_wi hv (by omega) (by omega), Option.bind_some]
      by_cases e : v ≤ 9
      · rw [if_pos e, decide_eq_true (show 0 ≤ v ∧ v ≤ 9 from ⟨by omega, e⟩), if_neg (show ¬ nI (b2 true) = 0 from e10), d_13 hC, Option.bind_some, nI_add, d_p13 hC]
        rfl
      · rw [if_neg e, decide_eq_false (show ¬ (0 ≤ v ∧ v ≤ 9) from fun z => e z.2), if_pos (show nI (b2 false) = 0 from e00), d_ob hC, Option.bind_some, m_refuse hC]
        rfl
    · exact Or.inr (by omega)
  have sub48 : ∀ x, 48 ≤ x → nI x - nI 48 = nI (x - 48) := fun x hx => by
    have := q_sub 48 (x - 48)
    rw [show 48 + (x - 48) = x by omega] at this
    exact this
  unfold X12_readsNumber_F
  rw [d_13 hC, Option.bind_some, d_ob hC, Option.bind_some, m_isFig hC hT' (by omega), Option.bind_some]
  rcases h with ⟨rfl, f1, f2, rfl⟩ | ⟨rfl, f1, f2, f3, rfl⟩
  · obtain ⟨g1, g2, g3⟩ := fig_b f1
    rw [f1, if_neg (show ¬ nI (b2 true) = 0 from e10), Option.bind_some, Option.bind_some, nI_add, m_isFig hC hT' (by omega), Option.bind_some, f2, if_pos (show nI (b2 false) = 0 from e00)]
    unfold X12_readsNumber_J43
    rw [d_r7 hC, Option.bind_some, d_13 hC, Option.bind_some, d_by hC (by omega), Option.bind_some, (h3 p g1).1, sub48 _ g2, d_p15 hC, Option.bind_some, d_13 hC, Option.bind_some, d_ob hC, Option.bind_some, nI_add, m_isFig hC hT' (by omega), Option.bind_some, f2, if_pos (show nI (b2 false) = 0 from e00)]
    unfold X12_readsNumber_J77
    rw [if_neg (by decide), d_15 hC, Option.bind_some]
    exact (j113 _ 1).resolve_right (by omega)
  · obtain ⟨g1, g2, g3⟩ := fig_b f1
    obtain ⟨g4, g5, g6⟩ := fig_b f2
    have ev : nI 10 * nI (b p - 48) + nI (b (p + 1)) - nI 48 = nI (10 * (b p - 48) + (b (p + 1) - 48)) := by
      rw [q_mul, nI_add, sub48 _ (by omega)]
      congr 1
      omega
    rw [f1, if_neg (show ¬ nI (b2 true) = 0 from e10), Option.bind_some, Option.bind_some, nI_add, m_isFig hC hT' (by omega), Option.bind_some, f2, if_neg (show ¬ nI (b2 true) = 0 from e10), Option.bind_some, Option.bind_some, nI_add, m_isFig hC hT' (by omega), Option.bind_some, f3, if_pos (show nI (b2 false) = 0 from e00)]
    unfold X12_readsNumber_J43
    rw [d_r7 hC, Option.bind_some, d_13 hC, Option.bind_some, d_by hC (by omega), Option.bind_some, (h3 p g1).1, sub48 _ g2, d_p15 hC, Option.bind_some, d_13 hC, Option.bind_some, d_ob hC, Option.bind_some, nI_add, m_isFig hC hT' (by omega), Option.bind_some, f2, if_neg (show ¬ nI (b2 true) = 0 from e10)]
    unfold X12_readsNumber_J77
    rw [if_pos rfl, d_15 hC, Option.bind_some, d_r7 hC, Option.bind_some, d_13 hC, Option.bind_some, nI_add, d_by hC (by omega), Option.bind_some, (h3 _ g4).1, ev]
    exact (j113 _ 2).resolve_right (by omega)
theorem m_numF (hC : C.length = 38) (hT : TP sc ar b L) {p w' : Nat} (hp : p ≤ 190) (h : NF b L p w') : ∃ n', X12_readsNumber_F (RD C sc ar P f (nI p) w n) 38 (nI 0) (nI 9) = some (nI 0, RD C sc ar P f (nI p) (nI w') n') := by
  rcases h with ⟨rfl, h⟩ | ⟨rfl, v, s, h, h9⟩
  · refine ⟨n, ?_⟩
    have j37 : X12_readsNumber_J37 (RD C sc ar P f (nI p) w n) 38 = some (nI 0, RD C sc ar P f (nI p) (nI 1) n) := by
      unfold X12_readsNumber_J37
      rw [d_ob hC, Option.bind_some, m_refuse hC]
      rfl
    unfold X12_readsNumber_F
    rw [d_13 hC, Option.bind_some, d_ob hC, Option.bind_some, m_isFig hC hT (by omega), Option.bind_some]
    rcases h with h | ⟨f1, f2, f3⟩
    · rw [h, if_pos (show nI (b2 false) = 0 from e00), j37]
    · rw [f1, if_neg (show ¬ nI (b2 true) = 0 from e10), Option.bind_some, Option.bind_some, nI_add, m_isFig hC hT (by omega), Option.bind_some, f2, if_neg (show ¬ nI (b2 true) = 0 from e10), Option.bind_some, Option.bind_some, nI_add, m_isFig hC hT (by omega), Option.bind_some, f3, if_neg (show ¬ nI (b2 true) = 0 from e10), j37]
  · obtain ⟨n', hn⟩ := m_numO (C := C) (P := P) (f := f) (w := w) (n := n) hC hT hp h
    rw [if_neg (by omega)] at hn
    exact ⟨n', hn⟩
/-- the row with n names of a wheel from the byte k on -/
def wR (f : Nat → Int32) (b : Nat → Nat) (base k n : Nat) : Nat → Int32 := fun q => if base ≤ q ∧ q < base + n then nI (nmV (b (k + (q - base)))) else f q
theorem nmO_b {b : Nat → Nat} {L k : Nat} (h : nmO b L k = true) : k < L ∧ (b k = 122 ∨ (97 ≤ b k ∧ b k ≤ 102)) := of_decide_eq_true h
theorem wR_s (f : Nat → Int32) (b : Nat → Nat) (base k n : Nat) : upd (wR f b base k n) (base + n) (nI (nmV (b (k + n)))) = wR f b base k (n + 1) := by
  funext q
  unfold upd wR
  by_cases e : q = base + n
  · rw [if_pos e, if_pos (by omega), e, show base + n - base = n by omega]
  · rw [if_neg e]
    by_cases e2 : base ≤ q ∧ q < base + n
    · rw [if_pos e2, if_pos (by omega)]
    · rw [if_neg e2, if_neg (by omega)]
theorem m_wheelLoop (hC : C.length = 38) (hT : TP sc ar b L) {base k m : Nat} (hk : k ≤ 150) (hbase : base + 8 ≤ 1848) (hn : kNs b L k m) {R : Int32 × kw_H} (hR : X12_readsWheel_J121 (RD C sc ar P (wR f b base k m) (nI (k + m)) w n) 38 (nI m) = some R) : kp_lp (X12_readsWheel_B13 38 (nI base)) 2000 (nI 0, RD C sc ar P f (nI k) w n) = some R := by
  obtain ⟨n1, n2, n3⟩ := hn
  have hT' := hT
  obtain ⟨h1, h2, h3⟩ := hT
  have e0 : wR f b base k 0 = f := by
    funext q
    unfold wR
    rw [if_neg (by omega)]
  rw [show (nI 0, RD C sc ar P f (nI k) w n) = (fun i => (nI i, RD C sc ar P (wR f b base k i) (nI (k + i)) w n)) 0 by show _ = (nI 0, RD C sc ar P (wR f b base k 0) (nI (k + 0)) w n); rw [e0]; rfl]
  refine lp_for (fun i => (nI i, RD C sc ar P (wR f b base k i) (nI (k + i)) w n)) m _ (fun i hi => ?_) ?_ 2000 (by omega)
  · obtain ⟨g1, g2⟩ := nmO_b (n2 i hi)
    obtain ⟨g3, g4⟩ := h3 _ g1
    show X12_readsWheel_b13 _ _ _ _ = some (Sum.inl (nI (i + 1), RD C sc ar P (wR f b base k (i + 1)) (nI (k + i + 1)) w n))
    have j104 : X12_readsWheel_J104 (RD C sc ar P (wR f b base k i) (nI (k + i)) w n) 38 (nI base) (nI i) (nI (nmV (b (k + i)))) (nI base + nI i) 39 = some (Sum.inl (nI (i + 1), RD C sc ar P (wR f b base k (i + 1)) (nI (k + i + 1)) w n)) := by
      unfold X12_readsWheel_J104
      rw [nI_add, d_st hC (by omega), Option.bind_some, wR_s, d_13 hC, Option.bind_some, nI_add, d_p13 hC, Option.bind_some, nI_add]
    have j66 : X12_readsWheel_J66 (RD C sc ar P (wR f b base k i) (nI (k + i)) w n) 38 (nI base) (nI i) = some (Sum.inl (nI (i + 1), RD C sc ar P (wR f b base k (i + 1)) (nI (k + i + 1)) w n)) := by
      unfold X12_readsWheel_J66
      rw [d_r0 hC, Option.bind_some, d_r7 hC, Option.bind_some, d_13 hC, Option.bind_some, d_by hC (by omega), Option.bind_some, g3]
      by_cases e : b (k + i) = 122
      · have : nmV (b (k + i)) = 6 := by unfold nmV; rw [if_pos e]
        rw [this] at j104
        rw [if_pos ((q_eq (by omega) (by omega)).mpr e), j104]
      · have : nI (b (k + i)) - nI 97 = nI (nmV (b (k + i))) := by
          unfold nmV
          rw [if_neg e]
          have := q_sub 97 (b (k + i) - 97)
          rw [show 97 + (b (k + i) - 97) = b (k + i) by omega] at this
          exact this
        rw [if_neg (fun z => e ((q_eq (by omega) (by omega)).mp z)), Option.bind_some, Option.bind_some, d_by hC (by omega), Option.bind_some, g3, this, j104]
    unfold X12_readsWheel_b13
    rw [d_13 hC, Option.bind_some, d_8 hC, Option.bind_some, h2, if_neg (fun z => by have := (q_le (show L < 2147483648 by omega) (show k + i < 2147483648 by omega)).mp z; omega), if_neg (fun z => by have := (q_le (show 8 < 2147483648 by decide) (show i < 2147483648 by omega)).mp z; omega), d_r7 hC, Option.bind_some, Option.bind_some, d_by hC (by omega), Option.bind_some, g3, l_n 97 (by decide), l_n 102 (by decide), l_in, q_wi g4 (by omega) (by omega), Option.bind_some]
    by_cases e : 97 ≤ b (k + i) ∧ b (k + i) ≤ 102
    · rw [decide_eq_true e, if_neg (show ¬ nI (b2 true) = 0 from e10), j66]
    · rw [decide_eq_false e, if_pos (show nI (b2 false) = 0 from e00), Option.bind_some, Option.bind_some, d_by hC (by omega), Option.bind_some, g3, if_pos ((q_eq (by omega) (by omega)).mpr (g2.resolve_right e)), j66]
  · show X12_readsWheel_b13 _ _ _ _ = _
    unfold X12_readsWheel_b13
    have fin : (X12_readsWheel_J121 (RD C sc ar P (wR f b base k m) (nI (k + m)) w n) 38 (nI m)).map (fun r => (Sum.inr r : (Int32 × kw_H) ⊕ (Int32 × kw_H))) = some (Sum.inr R) := by rw [hR]; rfl
    rw [d_13 hC, Option.bind_some, d_8 hC, Option.bind_some, h2]
    by_cases eL : L ≤ k + m
    · rw [if_pos ((q_le (by omega) (by omega)).mpr eL)]
      exact fin
    · rw [if_neg (fun z => eL ((q_le (by omega) (by omega)).mp z))]
      by_cases e8 : m = 8
      · rw [if_pos ((q_le (by omega) (by omega)).mpr (by omega))]
        exact fin
      · obtain ⟨g3, g4⟩ := h3 (k + m) (by omega)
        have hno := n3.resolve_left e8
        have hno : ¬ (k + m < L ∧ (b (k + m) = 122 ∨ (97 ≤ b (k + m) ∧ b (k + m) ≤ 102))) := of_decide_eq_false hno
        rw [if_neg (fun z => by have := (q_le (show 8 < 2147483648 by decide) (show m < 2147483648 by omega)).mp z; omega), d_r7 hC, Option.bind_some, Option.bind_some, d_by hC (by omega), Option.bind_some, g3, l_n 97 (by decide), l_n 102 (by decide), l_in, q_wi g4 (by omega) (by omega), Option.bind_some, decide_eq_false (show ¬ (97 ≤ b (k + m) ∧ b (k + m) ≤ 102) from fun z => hno ⟨by omega, Or.inr z⟩), if_pos (show nI (b2 false) = 0 from e00), Option.bind_some, Option.bind_some, d_by hC (by omega), Option.bind_some, g3, if_neg (fun z => hno ⟨by omega, Or.inl ((q_eq (by omega) (by omega)).mp z)⟩)]
        exact fin
theorem m_wheelO (hC : C.length = 38) (hT : TP sc ar b L) {base p c m : Nat} (hp : p ≤ 100) (hc : c < 256) (hbase : base + 8 ≤ 1848) (h : WO b L p c m) : X12_readsWheel_F (RD C sc ar P f (nI p) w n) 38 (nI c) (nI base) = some (nI m, RD C sc ar P (wR f b base (p + 1) m) (nI (p + 2 + m)) w n) := by
  obtain ⟨h1, h2, h3, h4⟩ := h
  unfold X12_readsWheel_F
  rw [d_ob hC, Option.bind_some, (m_sign hC hT (by omega) hc).1 h1, Option.bind_some]
  rw [show (if (nI 1, RD C sc ar P f (nI (p + 1)) w n).1 = 0 then some ((-1000000), (nI 1, RD C sc ar P f (nI (p + 1)) w n).2) else kp_lp (X12_readsWheel_B13 38 (nI base)) 2000 (nI 0, (nI 1, RD C sc ar P f (nI (p + 1)) w n).2)) = kp_lp (X12_readsWheel_B13 38 (nI base)) 2000 (nI 0, RD C sc ar P f (nI (p + 1)) w n) from if_neg e10]
  refine m_wheelLoop hC hT (by omega) hbase h2 ?_
  have hm := h2.1
  unfold X12_readsWheel_J121
  rw [if_neg (fun z => by have := (q_eq0 (show m < 2147483648 by omega)).mp z; omega), d_ob hC, Option.bind_some, (m_sign hC hT (by omega) (by omega)).1 h4, Option.bind_some]
  rw [show p + 1 + m + 1 = p + 2 + m by omega]
  exact if_neg e10
theorem m_wheelF (hC : C.length = 38) (hT : TP sc ar b L) {base p c x : Nat} (hp : p ≤ 100) (hc : c < 256) (hbase : base + 8 ≤ 1848) (h : WF b L p c x) : ∃ f', (∀ q, q < base ∨ base + 8 ≤ q → f' q = f q) ∧ X12_readsWheel_F (RD C sc ar P f (nI p) w n) 38 (nI c) (nI base) = some ((-1000000), RD C sc ar P f' (nI x) (nI 1) n) := by
  unfold X12_readsWheel_F
  rcases h with ⟨rfl, h⟩ | ⟨h1, m, h2, h3⟩
  · refine ⟨f, fun _ _ => rfl, ?_⟩
    rw [d_ob hC, Option.bind_some, (m_sign hC hT (by omega) hc).2 h, Option.bind_some]
    exact if_pos e00
  · have hm := h2.1
    refine ⟨wR f b base (p + 1) m, fun q hq => by unfold wR; rw [if_neg (by omega)], ?_⟩
    rw [d_ob hC, Option.bind_some, (m_sign hC hT (by omega) hc).1 h1, Option.bind_some]
    rw [show (if (nI 1, RD C sc ar P f (nI (p + 1)) w n).1 = 0 then some ((-1000000), (nI 1, RD C sc ar P f (nI (p + 1)) w n).2) else kp_lp (X12_readsWheel_B13 38 (nI base)) 2000 (nI 0, (nI 1, RD C sc ar P f (nI (p + 1)) w n).2)) = kp_lp (X12_readsWheel_B13 38 (nI base)) 2000 (nI 0, RD C sc ar P f (nI (p + 1)) w n) from if_neg e10]
    refine m_wheelLoop hC hT (by omega) hbase h2 ?_
    unfold X12_readsWheel_J121
    rcases h3 with ⟨rfl, rfl⟩ | ⟨h3, h4, rfl⟩
    · rw [if_pos e00, d_p14 hC]
      rfl
    · rw [if_neg (fun z => by have := (q_eq0 (show m < 2147483648 by omega)).mp z; omega), d_ob hC, Option.bind_some, (m_sign hC hT (by omega) (by omega)).2 h4, Option.bind_some]
      exact if_pos e00
theorem m_turnO (hC : C.length = 38) (hT : TP sc ar b L) {i p kd v p' : Nat} (hp : p ≤ 100) (hf : f 1784 = nI i) (h : TOk b L i p kd v p') : X12_readsTurner_F (RD C sc ar P f (nI p) w n) 38 = some (nI 1, RD C sc ar P (upd (upd (upd f (1804 + i) (nI kd)) (1808 + i) (nI v)) 1784 (nI (i + 1))) (nI p') w (nI v)) := by
  obtain ⟨rfl, h0, hi, s, h2, h9, h4, rfl⟩ := h
  have hpL : p < L := by
    apply Classical.byContradiction
    intro z
    exact h0 (by unfold kdA; rw [if_neg z])
  have hk : kdA b L p = kdO (b p) := by unfold kdA; rw [if_pos hpL]
  have hT' := hT
  obtain ⟨h1, -, h3⟩ := hT
  obtain ⟨g1, g2⟩ := h3 p hpL
  have hs : s ≤ 2 := by rcases h2 with h | h <;> omega
  obtain ⟨n', hn⟩ := m_numO (C := C) (P := P) (sc := sc) (ar := ar) (f := upd f (1804 + i) (nI (kdA b L p))) (w := w) (n := n) hC hT' (show p + 1 ≤ 190 by omega) h2
  rw [if_pos h9] at hn
  unfold X12_readsTurner_F
  rw [d_r0 hC, Option.bind_some, d_ld hC (by omega), Option.bind_some, hf, if_neg (fun z => by have := (q_eq (show i < 2147483648 by omega) (show 4 < 2147483648 by omega)).mp z; omega), Option.bind_some, d_r7 hC, Option.bind_some, d_13 hC, Option.bind_some, d_by hC (by omega), Option.bind_some, g1, m_kol g2, Option.bind_some, ← hk, nI_add, d_st hC (by omega), Option.bind_some, d_13 hC, Option.bind_some, nI_add, d_p13 hC, Option.bind_some, d_ob hC, Option.bind_some, hn, Option.bind_some]
  have e1 : upd (upd f (1804 + i) (nI (kdA b L p))) (1808 + i) (nI v) 1784 = nI i := by rw [pk_un (by omega), pk_un (by omega), hf]
  show (if nI 1 = 0 then some (nI 0, RD C sc ar P (upd f (1804 + i) (nI (kdA b L p))) (nI (p + 1 + s)) w (nI v)) else (kp_gR (RD C sc ar P (upd f (1804 + i) (nI (kdA b L p))) (nI (p + 1 + s)) w (nI v)) 38 [11] 0).bind fun v12 => (kp_gI (RD C sc ar P (upd f (1804 + i) (nI (kdA b L p))) (nI (p + 1 + s)) w (nI v)) 38 [11] 15).bind fun v13 => (kp_stI (RD C sc ar P (upd f (1804 + i) (nI (kdA b L p))) (nI (p + 1 + s)) w (nI v)) v12 (nI 1808 + nI i) v13).bind fun hp14 => (kp_gR hp14 38 [11] 0).bind fun v15 => (kp_ldI hp14 v15 (nI 1784)).bind fun v16 => (kp_stI hp14 v15 (nI 1784) (v16 + nI 1)).bind fun hp17 => ((kp_ob hp17 38 11).bind fun _ => X12_sign_F hp17 38 (nI 59)).bind fun r18 => (kp_bool r18.1).bind fun v19 => some (v19, r18.2)) = _
  rw [if_neg e10, d_r0 hC, Option.bind_some, d_15 hC, Option.bind_some, nI_add, d_st hC (by omega), Option.bind_some, d_r0 hC, Option.bind_some, d_ld hC (by omega), Option.bind_some, e1, nI_add, d_st hC (by omega), Option.bind_some, d_ob hC, Option.bind_some, (m_sign hC hT' (show p + 1 + s ≤ 200 by omega) (by omega)).1 h4, Option.bind_some, show p + 1 + s + 1 = p + 2 + s by omega]
  rfl
theorem m_turnF (hC : C.length = 38) (hT : TP sc ar b L) {i p x w' : Nat} (hp : p ≤ 100) (hf : f 1784 = nI i) (hi : i ≤ 4) (hs : kdA b L p ≠ 0) (h : TF b L i p x w') : ∃ n' f', (∀ q, q < 1782 → f' q = f q) ∧ X12_readsTurner_F (RD C sc ar P f (nI p) w n) 38 = some (nI 0, RD C sc ar P f' (nI x) (nI w') n') := by
  have hpL : p < L := by
    apply Classical.byContradiction
    intro z
    exact hs (by unfold kdA; rw [if_neg z])
  have hk : kdA b L p = kdO (b p) := by unfold kdA; rw [if_pos hpL]
  have hT' := hT
  obtain ⟨h1, -, h3⟩ := hT
  obtain ⟨g1, g2⟩ := h3 p hpL
  have beg : i < 4 → ∀ (R : Option (Int32 × kw_H)), (X12_readsNumber_F (RD C sc ar P (upd f (1804 + i) (nI (kdA b L p))) (nI (p + 1)) w n) 38 (nI 0) (nI 9)).bind (fun r11 => if r11.1 = 0 then some (nI 0, r11.2) else (kp_gR r11.2 38 [11] 0).bind fun v12 => (kp_gI r11.2 38 [11] 15).bind fun v13 => (kp_stI r11.2 v12 (nI 1808 + nI i) v13).bind fun hp14 => (kp_gR hp14 38 [11] 0).bind fun v15 => (kp_ldI hp14 v15 (nI 1784)).bind fun v16 => (kp_stI hp14 v15 (nI 1784) (v16 + nI 1)).bind fun hp17 => ((kp_ob hp17 38 11).bind fun _ => X12_sign_F hp17 38 (nI 59)).bind fun r18 => (kp_bool r18.1).bind fun v19 => some (v19, r18.2)) = R → X12_readsTurner_F (RD C sc ar P f (nI p) w n) 38 = R := fun hi4 R hR => by
    unfold X12_readsTurner_F
    rw [d_r0 hC, Option.bind_some, d_ld hC (by omega), Option.bind_some, hf, if_neg (fun z => by have := (q_eq (show i < 2147483648 by omega) (show 4 < 2147483648 by omega)).mp z; omega), Option.bind_some, d_r7 hC, Option.bind_some, d_13 hC, Option.bind_some, d_by hC (by omega), Option.bind_some, g1, m_kol g2, Option.bind_some, ← hk, nI_add, d_st hC (by omega), Option.bind_some, d_13 hC, Option.bind_some, nI_add, d_p13 hC, Option.bind_some, d_ob hC, Option.bind_some]
    exact hR
  rcases h with ⟨h0, -⟩ | ⟨-, rfl, rfl, rfl⟩ | ⟨-, hi4, hN, rfl⟩ | ⟨-, hi4, v, s, h2, h9, h4, rfl, rfl⟩
  · exact absurd h0 hs
  · refine ⟨n, f, fun _ _ => rfl, ?_⟩
    unfold X12_readsTurner_F
    rw [d_r0 hC, Option.bind_some, d_ld hC (by omega), Option.bind_some, hf, if_pos rfl, d_ob hC, Option.bind_some, m_refuse hC]
    rfl
  · obtain ⟨n', hn⟩ := m_numF (C := C) (P := P) (sc := sc) (ar := ar) (f := upd f (1804 + i) (nI (kdA b L p))) (w := w) (n := n) hC hT' (show p + 1 ≤ 190 by omega) hN
    refine ⟨n', upd f (1804 + i) (nI (kdA b L p)), fun q hq => pk_un (by omega), beg hi4 _ ?_⟩
    rw [hn, Option.bind_some]
    exact if_pos e00
  · have hs2 : s ≤ 2 := by rcases h2 with h | h <;> omega
    obtain ⟨n', hn⟩ := m_numO (C := C) (P := P) (sc := sc) (ar := ar) (f := upd f (1804 + i) (nI (kdA b L p))) (w := w) (n := n) hC hT' (show p + 1 ≤ 190 by omega) h2
    rw [if_pos h9] at hn
    refine ⟨nI v, upd (upd (upd f (1804 + i) (nI (kdA b L p))) (1808 + i) (nI v)) 1784 (nI (i + 1)), fun q hq => by rw [pk_un (by omega), pk_un (by omega), pk_un (by omega)], beg hi4 _ ?_⟩
    have e1 : upd (upd f (1804 + i) (nI (kdA b L p))) (1808 + i) (nI v) 1784 = nI i := by rw [pk_un (by omega), pk_un (by omega), hf]
    rw [hn, Option.bind_some]
    show (if nI 1 = 0 then some (nI 0, RD C sc ar P (upd f (1804 + i) (nI (kdA b L p))) (nI (p + 1 + s)) w (nI v)) else (kp_gR (RD C sc ar P (upd f (1804 + i) (nI (kdA b L p))) (nI (p + 1 + s)) w (nI v)) 38 [11] 0).bind fun v12 => (kp_gI (RD C sc ar P (upd f (1804 + i) (nI (kdA b L p))) (nI (p + 1 + s)) w (nI v)) 38 [11] 15).bind fun v13 => (kp_stI (RD C sc ar P (upd f (1804 + i) (nI (kdA b L p))) (nI (p + 1 + s)) w (nI v)) v12 (nI 1808 + nI i) v13).bind fun hp14 => (kp_gR hp14 38 [11] 0).bind fun v15 => (kp_ldI hp14 v15 (nI 1784)).bind fun v16 => (kp_stI hp14 v15 (nI 1784) (v16 + nI 1)).bind fun hp17 => ((kp_ob hp17 38 11).bind fun _ => X12_sign_F hp17 38 (nI 59)).bind fun r18 => (kp_bool r18.1).bind fun v19 => some (v19, r18.2)) = _
    rw [if_neg e10, d_r0 hC, Option.bind_some, d_15 hC, Option.bind_some, nI_add, d_st hC (by omega), Option.bind_some, d_r0 hC, Option.bind_some, d_ld hC (by omega), Option.bind_some, e1, nI_add, d_st hC (by omega), Option.bind_some, d_ob hC, Option.bind_some, (m_sign hC hT' (show p + 1 + s ≤ 200 by omega) (by omega)).2 h4, Option.bind_some]
    rfl
end MKit
