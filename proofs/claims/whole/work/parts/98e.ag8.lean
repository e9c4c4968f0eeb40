/-! ===== meets ===== -/
theorem fs_pair {α β : Type} {c : Nat → Bool} {a : Nat → α} {B : Nat → β} {d : α} {m : Nat} : ∀ l : List Nat, ∃ i, (i ∈ l ∨ i = m) ∧ (l.findSome? (fun i => if c i = true then some (a i, B i) else none)).getD (d, B m) = ((l.findSome? (fun i => if c i = true then some (a i) else none)).getD d, B i)
  | [] => ⟨m, Or.inr rfl, rfl⟩
  | x :: l => by
    rw [List.findSome?_cons, List.findSome?_cons]
    by_cases h : c x = true
    · rw [if_pos h, if_pos h]
      exact ⟨x, Or.inl (List.mem_cons_self ..), rfl⟩
    · rw [if_neg h, if_neg h]
      obtain ⟨i, h1, h2⟩ := fs_pair (c := c) (a := a) (B := B) (d := d) (m := m) l
      exact ⟨i, h1.imp (List.mem_cons_of_mem _) id, h2⟩
theorem tDs_any {T : Tw} (hT : tOk T) {p q t g : Nat} (hp6 : p < 6) (hq6 : q < 6) : (tDs T q t g).testBit p = q_any (tQ T t g p q) (T 0) := by
  rw [← tDs_alt hT hq6, Bool.eq_iff_iff, q_os_bit]
  constructor
  · rintro ⟨s, h1, h2, rfl⟩
    exact h2
  · intro h
    exact ⟨p, hp6, h, rfl⟩
theorem ag_meets : lx_ag_meets Inv := by
  intro j hp h hj a1 a2
  have hM0 := Inv_M h
  have hS := Inv_S _ _ h
  obtain ⟨ks, ka, kl, kr, sc, ar, T, n, o, A, h⟩ := h
  obtain ⟨C, P, hC, rfl⟩ := MV_ex h.2.1
  have hth := IV_there h
  obtain ⟨⟨v, nm, jb, tu, tm, k1, k2, k3, k4⟩, hA, -⟩ := h.2.2.2.2.2.2.2.1
  unfold X11_meets_F X12_meets_F
  simp only [c0_r2 h.1, c0_r3 h.1, c25_ob h.1, Option.bind_some, kc_ob k1, m_g1 hC]
  rcases hth with ⟨hT, s1, e1⟩ | ⟨-, s1, e1⟩
  case inr => exact ⟨-1000002, _, by rw [e1, Option.bind_some, if_pos e00], hM0, by rw [s1, if_pos e00], hS⟩
  simp only [e1, s1, Option.bind_some, if_neg e10]
  rcases six_sp a1 with ⟨p, hp1, rfl, b1, -, b3⟩ | ⟨b1, -, b3⟩
  case inr => exact ⟨-1000001, _, by rw [b1, Option.bind_some, if_pos e00], hM0, by rw [b3, Option.bind_some, if_pos e00], hS⟩
  simp only [b1, b3, Option.bind_some, if_neg e10]
  rcases six_sp a2 with ⟨q, hq1, rfl, -, b1, b3⟩ | ⟨-, b1, b3⟩
  case inr => exact ⟨-1000001, _, by rw [b1, Option.bind_some, if_pos e00], hM0, by rw [b3, Option.bind_some, if_pos e00], hS⟩
  simp only [b1, b3, Option.bind_some, if_neg e10]
  have h999 := hT.2
  have h5 := hT.1.2.2.2.2.2.1
  have h18 := hT.1.2.1
  obtain ⟨f0, c1, c2, c3⟩ := m_layTried (C := C) (P := P) (sc := sc) (ar := ar) hC hA hT.1 (n := 0) (by omega) (by omega)
  rw [← hR_self] at c1
  obtain ⟨F, q0, q1, q2⟩ := m_weeks (C := C) (P := P) (sc := sc) (ar := ar) hC (b := 1782) (by omega) c2 hT.1 61 (show tWn T 0 3 + 61 ≤ 2000 by show T 3 + 61 ≤ 2000; omega)
  have e0 : tWn T 0 = T := rfl
  rw [e0] at q1
  let c : Nat → Bool := fun i => (tDs T q (tBn T i) (if i = 0 then T 5 else 0)).testBit p
  have hc : ∀ i, i ≤ 61 → X12_doesTried_F (hR C sc ar P (F i)) 38 (nI p) (nI q) = some (nI (b2 (c i))) := fun i hi => by
    have ho := tWn_ok hT.1 i (by omega)
    rw [m_doesTried hC (q1 i hi).1 ho hp1 hq1, ← tDs_any ho hp1 hq1, tWn_4 hT.1, tWn_5, tDs_cg hT.1 (fun k a b c d => tWn_c a b c d i)]
  obtain ⟨i, hi, hpair⟩ := fs_pair (c := c) (a := fun i => nI i) (B := fun i => hR C sc ar P (F i)) (d := (-1000000 : Int32)) (m := 61) (List.range 61)
  have hi61 : i ≤ 61 := by
    rcases hi with hi | hi
    · have := List.mem_range.mp hi; omega
    · omega
  refine ⟨((List.range 61).findSome? (fun i => if c i = true then some (nI i) else none)).getD (-1000000), hR C sc ar P (F i), ?_, hM0, ?_, IV_tried hC h (fun k hk => ((q1 i hi61).2 k (by omega)).trans (c3 k hk))⟩
  · unfold X1_firstMeeting_F
    rw [kc_g8 k1, Option.bind_some, k2.1 4 (by omega)]
    have key := lp_find (b := X1_firstMeeting_B9 (hM C sc ar P) 20 (nI p) (nI q)) (fun i => (nI (tBn T i), nI i)) 61 (fun i => if c i = true then some (nI i) else none) (-1000000) (fun i hi => by
      have hbn := tBn_lt hT.1 i
      have haw : (if i = 0 then T 5 else 0) < 64 := by split <;> omega
      show X1_firstMeeting_b9 _ _ _ _ _ _ = _
      unfold X1_firstMeeting_b9
      simp (disch := omega) only [q_lt, kc_ob k1, Option.bind_some, c_awayBehind k1 k2, c_doersOf k1 k2 hT.1 hq1 (show tBn T i ≤ 1000 by omega) haw, c_holds (tDs_lt hT.1) (show p < 8 by omega), kc_g7 k1, k2.1 3 (show 3 < 6 by omega), nI_add, c_turnedNext k1 k2 hT.1 k3 (show tBn T i ≤ 1000 by omega) (show T 3 + i ≤ 2000 by omega)]
      rw [if_neg (show ¬ 60 < i by omega)]
      cases hci : c i with
      | true =>
        have : (tDs T q (tBn T i) (if i = 0 then T 5 else 0)).testBit p = true := hci
        rw [if_pos this, if_neg e10]
        rfl
      | false =>
        have : ¬ (tDs T q (tBn T i) (if i = 0 then T 5 else 0)).testBit p = true := by
          intro z
          have z2 : c i = true := z
          rw [hci] at z2
          cases z2
        rw [if_neg this, if_pos e00]
        rfl) (by
      show X1_firstMeeting_b9 _ _ _ _ _ _ = _
      unfold X1_firstMeeting_b9
      rw [if_pos ((q_lt (by omega) (by omega)).mpr (by omega))]
      rfl) 2000 (by omega)
    rw [show tBn T 0 = T 4 from rfl] at key
    simp only [key, Option.bind_some]
  · rw [m_ob hC, Option.bind_some, c1, Option.bind_some, ← q0]
    rw [← hpair]
    refine lp_find (b := X12_meets_B34 38 (nI p) (nI q)) (fun i => (nI i, hR C sc ar P (F i))) 61 (fun i => if c i = true then some (nI i, hR C sc ar P (F i)) else none) (-1000000, hR C sc ar P (F 61)) (fun i hi => ?_) ?_ 2000 (by omega)
    · show X12_meets_b34 _ _ _ _ _ = _
      unfold X12_meets_b34
      simp (disch := omega) only [q_le, r_ob hC, Option.bind_some, hc i (by omega), q2 i hi, nI_add]
      rw [if_neg (show ¬ 61 ≤ i by omega)]
      cases hci : c i with
      | true =>
        rw [if_neg (by decide)]
        rfl
      | false =>
        rw [if_pos (by decide)]
        rfl
    · show X12_meets_b34 _ _ _ _ _ = _
      unfold X12_meets_b34
      rw [if_pos ((q_le (by omega) (by omega)).mpr (Nat.le_refl _))]
      rfl
