/-! ===== allMet ===== -/
theorem q_oor0 : ∀ a, a < 64 → ∀ b, b < 64 → (nI a ||| nI b) = nI (a ||| b) := by decide +kernel
theorem q_oor {a b : Nat} (ha : a < 64) (hb : b < 64) : (nI a ||| nI b) = nI (a ||| b) := q_oor0 a ha b hb
theorem q_al_iff (c : Nat → Bool) : ∀ n, q_al c n = true ↔ ∀ k, k < n → c k = true
  | 0 => ⟨fun _ k hk => by omega, fun _ => rfl⟩
  | n + 1 => by
    unfold q_al
    rw [Bool.and_eq_true, q_al_iff c n]
    constructor
    · rintro ⟨h1, h2⟩ k hk
      by_cases e : k = n
      · subst e; exact h2
      · exact h1 k (by omega)
    · intro h
      exact ⟨fun k hk => h k (by omega), h n (by omega)⟩
/-- all have met all behind i + 1 weeks, as the class asks it -/
def tMq (T : Tw) (i p : Nat) : Bool := !((tOn T 6 (T 0)).testBit p) || decide (tOr T p (i + 1) = tOn T 14 (T 1))
def tMt (T : Tw) (i : Nat) : Bool := q_al (tMq T i) 6
theorem tOr_sub {T : Tw} (hT : tOk T) {p q : Nat} (hp6 : p < 6) : ∀ n, (tOr T p n).testBit q = true → (tOn T 14 (T 1)).testBit q = true
  | 0 => by intro h; simp [tOr] at h
  | n + 1 => by
    intro h
    have h : (tOr T p n ||| tJs T p (tBn T n) (tAw T n)).testBit q = true := h
    rw [Nat.testBit_or, Bool.or_eq_true] at h
    rcases h with h | h
    · exact tOr_sub hT hp6 n h
    · unfold tJs at h
      obtain ⟨s, h1, h2, h3⟩ := (q_os_bit _ _ _ _).mp h
      have h2 : tD T s (tBn T n) (tAw T n) = p := of_decide_eq_true h2
      have j6 := tD_job (T := T) (s := s) (t := tBn T n) (g := tAw T n) (by omega)
      have hm := Nat.mod_lt (s + tBn T n) (show 0 < T 1 by have := hT.2.1; omega)
      unfold tOn
      refine (q_os_bit _ _ _ _).mpr ⟨(s + tBn T n) % T 1, hm, ?_, ?_⟩
      · unfold tJ at j6 h3
        split at h3
        · rename_i e; rw [if_pos e] at j6; exact absurd rfl j6
        · rename_i e; rw [if_neg e] at j6; exact decide_eq_true j6
      · unfold tJ at j6 h3
        split at h3
        · rename_i e; rw [if_pos e] at j6; exact absurd rfl j6
        · exact h3
theorem tMt_eq {T : Tw} (hT : tOk T) (i : Nat) : q_al (tAM T (tWn T (i + 1))) 36 = tMt T i := by
  have hlt : ∀ p q, p < 6 → q < 6 → (T (30 + (6 * p + q)) < tWn T (i + 1) (30 + (6 * p + q)) ↔ (tOr T p (i + 1)).testBit q = true) := fun p q hp hq => by
    rw [tOr_bit hT hp hq, tWn_30 hT hp hq]
    omega
  unfold tMt
  rw [Bool.eq_iff_iff, q_al_iff, q_al_iff]
  constructor
  · intro h p hp
    unfold tMq
    cases hb : (tOn T 6 (T 0)).testBit p with
    | false => rfl
    | true =>
      rw [Bool.not_true, Bool.false_or]
      apply decide_eq_true
      apply Nat.eq_of_testBit_eq
      intro q
      rw [Bool.eq_iff_iff]
      constructor
      · exact tOr_sub hT hp (i + 1)
      · intro hq
        have hq6 : q < 6 := by
          apply Classical.byContradiction
          intro hn
          have := Nat.testBit_lt_two_pow (x := tOn T 14 (T 1)) (i := q) (Nat.lt_of_lt_of_le (tOn_lt hT.2.2.2.2.2.2.2.1) (Nat.pow_le_pow_right (n := 2) (by omega) (show 6 ≤ q by omega)))
          rw [this] at hq
          cases hq
        have h1 := h (6 * p + q) (by omega)
        unfold tAM at h1
        rw [show (6 * p + q) / 6 = p by omega, show (6 * p + q) % 6 = q by omega, hb, hq] at h1
        have h1 : decide (T (30 + (6 * p + q)) < tWn T (i + 1) (30 + (6 * p + q))) = true := h1
        exact (hlt p q hp hq6).mp (of_decide_eq_true h1)
  · intro h q hq
    have h1 := h (q / 6) (by omega)
    have m6 := Nat.mod_lt q (show 0 < 6 by omega)
    unfold tAM
    unfold tMq at h1
    cases hb : (tOn T 6 (T 0)).testBit (q / 6) with
    | false => rfl
    | true =>
      cases hj : (tOn T 14 (T 1)).testBit (q % 6) with
      | false => rfl
      | true =>
        rw [hb, Bool.not_true, Bool.false_or] at h1
        have h1 := of_decide_eq_true h1
        have h2 := (hlt (q / 6) (q % 6) (by omega) m6).mpr (by rw [h1]; exact hj)
        rw [show 6 * (q / 6) + q % 6 = q by omega] at h2
        rw [decide_eq_true h2]
        rfl
section CMet
variable {hp : kw_H} {ks ka : Nat → Nat → Int32} {kl : Nat → Nat → Int64} {kr : Nat → Nat → Option Nat} {v nm jb tm : Nat → Int32} {tu : Nat → Option Nat} {T : Tw}
theorem tAw_lt {T : Tw} (hT : tOk T) (i : Nat) : tAw T i < 64 := by
  have := hT.2.2.2.2.2.1
  unfold tAw
  split <;> omega
theorem c_allMet (h : CV hp ks ka kl kr) (k1 : KC hp 20 v nm jb tu tm) (hV : KV v nm jb tm T) (k3 : TU hp tu T) (hT : tReal T) (hP : tOn T 6 (T 0) ≠ 0) (hJ : tOn T 14 (T 1) ≠ 0) : ∃ f, X1_weeksUntilAllMet_F hp 25 20 = some (((List.range 60).findSome? (fun i => if tMt T i = true then some (nI (i + 1)) else none)).getD (-1000000), S31 hp f) := by
  have h999 := hT.2
  have h18 := hT.1.2.1
  have g1 := tOn_lt (T := T) (b := 6) (n := T 0) hT.1.2.2.2.2.2.2.1
  have g2 := tOn_lt (T := T) (b := 14) (n := T 1) hT.1.2.2.2.2.2.2.2.1
  obtain ⟨i, hi, hpair⟩ := fs_pair (c := tMt T) (a := fun i => nI (i + 1)) (B := fun i => S31 hp (zf (ka 31) (fun p => tOr T p (i + 1)))) (d := (-1000000 : Int32)) (m := 59) (List.range 60)
  refine ⟨zf (ka 31) (fun p => tOr T p (i + 1)), ?_⟩
  unfold X1_weeksUntilAllMet_F
  simp only [kc_ob k1, Option.bind_some, c_peopleOnIt k1 hV hT.1, c_jobsOnIt k1 hV hT.1]
  rw [if_neg (fun z => hP ((q_eq0 (by omega)).mp z)), if_neg (fun z => hJ ((q_eq0 (by omega)).mp z)), c25_r1 h, Option.bind_some, S31_fill h, Option.bind_some, kc_g8 (S31_KC k1 (by omega) _), Option.bind_some, hV.1 4 (by omega), ← hpair]
  refine lp_find (b := X1_weeksUntilAllMet_B38 25 20 (nI (tOn T 6 (T 0))) (nI (tOn T 14 (T 1)))) (fun i => (nI (tBn T i), nI i, S31 hp (zf (ka 31) (fun p => tOr T p i)))) 60 (fun i => if tMt T i = true then some (nI (i + 1), S31 hp (zf (ka 31) (fun p => tOr T p (i + 1)))) else none) (-1000000, S31 hp (zf (ka 31) (fun p => tOr T p (59 + 1)))) (fun i hi => ?_) ?_ 2000 (by omega)
  · have hbn := tBn_lt hT.1 i
    have haw := tAw_lt hT.1 i
    show X1_weeksUntilAllMet_b38 _ _ _ _ _ _ _ = _
    unfold X1_weeksUntilAllMet_b38
    rw [if_neg (fun z => by have := (q_le (show 60 < 2147483648 by decide) (show i < 2147483648 by omega)).mp z; omega)]
    have ez : zf (ka 31) (fun p => tOr T p i) = zf (ka 31) (fun p => if p < 0 then tOr T p (i + 1) else tOr T p i) := zf_cg (fun p hp => by rw [if_neg (by omega)])
    have e6 : zf (ka 31) (fun p => if p < 6 then tOr T p (i + 1) else tOr T p i) = zf (ka 31) (fun p => tOr T p (i + 1)) := zf_cg (fun p hp => by rw [if_pos hp])
    show kp_lp (X1_weeksUntilAllMet_B51 25 20 (nI (tOn T 6 (T 0))) (nI (tOn T 14 (T 1))) (nI (tBn T i)) (nI i)) 2000 (nI 1, nI 0, S31 hp (zf (ka 31) (fun p => tOr T p i))) = _
    rw [ez]
    refine lp_for (fun k => (nI (b2 (q_al (tMq T i) k)), nI k, S31 hp (zf (ka 31) (fun p => if p < k then tOr T p (i + 1) else tOr T p i)))) 6 _ (fun k hk => ?_) ?_ 2000 (by omega)
    · have kS := S31_KC k1 (by omega) (zf (ka 31) (fun p => if p < k then tOr T p (i + 1) else tOr T p i))
      have cS := S31_CV h (zf (ka 31) (fun p => if p < k then tOr T p (i + 1) else tOr T p i))
      have cS2 := S31_CV h (zf (ka 31) (fun p => if p < k + 1 then tOr T p (i + 1) else tOr T p i))
      have ea : X2_awayBehind_F (S31 hp (zf (ka 31) (fun p => if p < k then tOr T p (i + 1) else tOr T p i))) 20 (nI i) = some (nI (tAw T i)) := c_awayBehind kS hV (by omega)
      have el : zf (ka 31) (fun p => if p < k then tOr T p (i + 1) else tOr T p i) k = nI (tOr T k i) := by rw [zf_at hk, if_neg (by omega)]
      have el2 : zf (ka 31) (fun p => if p < k + 1 then tOr T p (i + 1) else tOr T p i) k = nI (tOr T k (i + 1)) := by rw [zf_at hk, if_pos (by omega)]
      have eu : upd (zf (ka 31) (fun p => if p < k then tOr T p (i + 1) else tOr T p i)) k (nI (tOr T k (i + 1))) = zf (ka 31) (fun p => if p < k + 1 then tOr T p (i + 1) else tOr T p i) := by
        rw [zf_up _ _ hk]
        refine zf_cg (fun p hp => ?_)
        unfold va_up
        by_cases e : p = k
        · rw [if_pos e, if_pos (by omega), e]
        · rw [if_neg e]
          dsimp only
          by_cases e2 : p < k
          · rw [if_pos e2, if_pos (by omega)]
          · rw [if_neg e2, if_neg (by omega)]
      have eo : nI (tOr T k i) ||| nI (tJs T k (tBn T i) (tAw T i)) = nI (tOr T k (i + 1)) := q_oor (tOr_lt hT.1 hk i) (tJs_lt hT.1 hk)
      have ol := tOr_lt hT.1 hk (i + 1)
      show X1_weeksUntilAllMet_b51 _ _ _ _ _ _ _ _ _ = some (Sum.inl (nI (b2 (q_al (tMq T i) k && tMq T i k)), nI (k + 1), S31 hp (zf (ka 31) (fun p => if p < k + 1 then tOr T p (i + 1) else tOr T p i))))
      unfold X1_weeksUntilAllMet_b51 X1_weeksUntilAllMet_J111 X1_weeksUntilAllMet_J107 X1_weeksUntilAllMet_J112
      rw [if_neg (fun z => by have := (q_le (show 6 < 2147483648 by decide) (show k < 2147483648 by omega)).mp z; omega)]
      simp only [c25_r1 cS, Option.bind_some, S31_ld h hk, el, kc_ob kS, ea, c_jobsOf kS hV hT.1 hk (show tBn T i ≤ 1000 by omega) haw, eo, S31_st h hk, eu, c_holds g1 (show k < 8 by omega), c25_r1 cS2, el2, nI_add, q_eq (show tOr T k (i + 1) < 2147483648 by omega) (show tOn T 14 (T 1) < 2147483648 by omega)]
      cases hb : q_al (tMq T i) k with
      | false =>
        rw [if_pos (show nI (b2 false) = 0 from e00)]
        rfl
      | true =>
        rw [if_neg (show ¬ nI (b2 true) = 0 from e10)]
        unfold tMq
        cases hp : (tOn T 6 (T 0)).testBit k with
        | false =>
          rw [if_pos (show nI (if false = true then 1 else 0) = 0 from e00)]
          rfl
        | true =>
          rw [if_pos rfl, if_neg e10]
          by_cases e : tOr T k (i + 1) = tOn T 14 (T 1)
          · rw [if_pos e, decide_eq_true e]
            rfl
          · rw [if_neg e, decide_eq_false e]
            rfl
    · have kS := S31_KC k1 (by omega) (zf (ka 31) (fun p => tOr T p (i + 1)))
      have tS' := S31_TU h k3 (zf (ka 31) (fun p => tOr T p (i + 1)))
      show X1_weeksUntilAllMet_b51 _ _ _ _ _ _ _ _ _ = _
      unfold X1_weeksUntilAllMet_b51
      rw [if_pos ((q_le (by omega) (by omega)).mpr (Nat.le_refl _))]
      show (X1_weeksUntilAllMet_J120 (S31 hp (zf (ka 31) (fun p => if p < 6 then tOr T p (i + 1) else tOr T p i))) 25 20 (nI (tOn T 6 (T 0))) (nI (tOn T 14 (T 1))) (nI (tBn T i)) (nI i) (nI (b2 (tMt T i)))).map _ = _
      rw [e6]
      unfold X1_weeksUntilAllMet_J120
      cases hm : tMt T i with
      | false =>
        rw [if_pos (show nI (b2 false) = 0 from e00), kc_g7 kS, Option.bind_some, kc_ob kS, Option.bind_some, hV.1 3 (by omega), nI_add, nI_add, c_turnedNext kS hV hT.1 tS' (by omega) (by omega)]
        rfl
      | true =>
        rw [if_neg (show ¬ nI (b2 true) = 0 from e10)]
        unfold X1_weeksUntilAllMet_J125
        rw [nI_add]
        rfl
  · show X1_weeksUntilAllMet_b38 _ _ _ _ _ _ _ = _
    unfold X1_weeksUntilAllMet_b38
    rw [if_pos ((q_le (by omega) (by omega)).mpr (Nat.le_refl _))]
    rfl
end CMet
theorem m_allMet {C P : kw_H} {sc : Nat → Int32} {ar : Nat → Nat → Int32} {T : Tw} (hC : C.length = 38) (hA : tA (ar 0) 0 T) (hT : tReal T) (s1 : sc 1 = nI 1) : ∃ f', X12_allMet_F (hM C sc ar P) 38 = some (((List.range 60).findSome? (fun i => if ((decide (tOn T 6 (T 0) ≠ 0) && decide (tOn T 14 (T 1) ≠ 0)) && tMt T i) = true then some (nI (i + 1)) else none)).getD (-1000000), hR C sc ar P f') ∧ ∀ k, k < 1782 → f' k = ar 0 k := by
  have h999 := hT.2
  obtain ⟨f0, c1, c2, c3⟩ := m_layTried (C := C) (P := P) (sc := sc) (ar := ar) hC hA hT.1 (n := 0) (by omega) (by omega)
  rw [← hR_self] at c1
  obtain ⟨F, q0, q1, q2⟩ := m_weeks (C := C) (P := P) (sc := sc) (ar := ar) hC (b := 1782) (by omega) c2 hT.1 60 (show tWn T 0 3 + 60 ≤ 2000 by show T 3 + 60 ≤ 2000; omega)
  have e0 : tWn T 0 = T := rfl
  rw [e0] at q1
  have hk : ∀ i, i ≤ 60 → ∀ k, k < 1782 → F i k = ar 0 k := fun i hi k hk => ((q1 i hi).2 k (by omega)).trans (c3 k hk)
  obtain ⟨i, hi, hpair⟩ := fs_pair (c := fun i => ((decide (tOn T 6 (T 0) ≠ 0) && decide (tOn T 14 (T 1) ≠ 0)) && tMt T i)) (a := fun i => nI (i + 1)) (B := fun i => hR C sc ar P (F (i + 1))) (d := (-1000000 : Int32)) (m := 59) (List.range 60)
  have hi60 : i + 1 ≤ 60 := by
    rcases hi with hi | hi
    · have := List.mem_range.mp hi; omega
    · omega
  refine ⟨F (i + 1), ?_, hk _ hi60⟩
  unfold X12_allMet_F
  rw [m_g1 hC, Option.bind_some, s1, if_neg e10, m_ob hC, Option.bind_some, c1, Option.bind_some, ← q0, ← hpair]
  refine lp_find (b := X12_allMet_B17 38) (fun i => (nI (i + 1), hR C sc ar P (F i))) 60 (fun i => if ((decide (tOn T 6 (T 0) ≠ 0) && decide (tOn T 14 (T 1) ≠ 0)) && tMt T i) = true then some (nI (i + 1), hR C sc ar P (F (i + 1))) else none) (-1000000, hR C sc ar P (F (59 + 1))) (fun i hi => ?_) ?_ 2000 (by omega)
  · have hA2 : tA (F (i + 1)) 0 T := fun k hk2 => by rw [hk (i + 1) (by omega) _ (by omega)]; exact hA k hk2
    have em := m_haveAllMet (C := C) (P := P) (sc := sc) (ar := ar) hC hA2 (q1 (i + 1) (by omega)).1 hT.1 (tWn_ok hT.1 (i + 1) (by omega))
    rw [tMt_eq hT.1] at em
    show X12_allMet_b17 _ _ _ = _
    unfold X12_allMet_b17
    rw [if_neg (fun z => by have := (q_le (show 61 < 2147483648 by decide) (show i + 1 < 2147483648 by omega)).mp z; omega), r_ob hC, Option.bind_some, q2 i hi, Option.bind_some, r_ob hC, Option.bind_some, em, Option.bind_some]
    cases ((decide (tOn T 6 (T 0) ≠ 0) && decide (tOn T 14 (T 1) ≠ 0)) && tMt T i) with
    | false =>
      rw [if_pos (show nI (b2 false) = 0 from e00), nI_add]
      rfl
    | true =>
      rw [if_neg (show ¬ nI (b2 true) = 0 from e10)]
      rfl
  · show X12_allMet_b17 _ _ _ = _
    unfold X12_allMet_b17
    rw [if_pos ((q_le (by omega) (by omega)).mpr (by omega))]
    rfl
theorem ag_allMet : lx_ag_allMet Inv := by
  rintro j hp h hj -
  have hM0 := Inv_M h
  have hS := Inv_S _ _ h
  obtain ⟨ks, ka, kl, kr, sc, ar, T, n, o, A, h⟩ := h
  obtain ⟨C, P, hC, rfl⟩ := MV_ex h.2.1
  have hth := IV_there h
  obtain ⟨⟨v, nm, jb, tu, tm, k1, k2, k3, k4⟩, hA, -⟩ := id h.2.2.2.2.2.2.2.1
  rcases hth with ⟨hT, s1, e1⟩ | ⟨-, s1, e1⟩
  case inr =>
    refine ⟨-1000002, _, _, ?_, hM0, ?_, hS⟩
    · unfold X11_allMet_F
      simp only [c0_r2 h.1, kc_ob k1, Option.bind_some, e1, if_pos e00]
    · unfold X12_allMet_F
      simp only [m_g1 hC, Option.bind_some, s1, if_pos e00]
  have g1 := tOn_lt (T := T) (b := 6) (n := T 0) hT.1.2.2.2.2.2.2.1
  have g2 := tOn_lt (T := T) (b := 14) (n := T 1) hT.1.2.2.2.2.2.2.2.1
  by_cases hz : tOn T 6 (T 0) ≠ 0 ∧ tOn T 14 (T 1) ≠ 0
  · obtain ⟨f, ef⟩ := c_allMet h.1 k1 k2 k3 hT hz.1 hz.2
    obtain ⟨C2, P2, hC2, eS⟩ := MV_ex (MV_f (hp' := S31 (hM C sc ar P) f) h.2.1 (fun q hq => S31_o f (by omega)))
    obtain ⟨f', m1, m2⟩ := m_allMet (P := P2) hC2 hA hT s1
    have cv2 := S31_CV h.1 f
    rw [decide_eq_true hz.1, decide_eq_true hz.2] at m1
    simp only [Bool.and_self, Bool.true_and] at m1
    rw [eS] at ef cv2
    refine ⟨_, hM C2 sc ar P2, hR C2 sc ar P2 f', ?_, hM_38 hC2, m1, IV_scr h hC2 cv2 (by rw [← eS]; exact S31_len f) (fun q hq => by rw [← eS]; exact S31_o f (by omega)) (fun k hk => m2 k hk) (fun i h1 h2 => up_ne _ _ (by omega))⟩
    unfold X11_allMet_F
    simp only [c0_r2 h.1, c0_r3 h.1, kc_ob k1, c25_ob h.1, Option.bind_some, e1, if_neg e10, ef]
  · obtain ⟨f', m1, m2⟩ := m_allMet (P := P) hC hA hT s1
    have hd : (decide (tOn T 6 (T 0) ≠ 0) && decide (tOn T 14 (T 1) ≠ 0)) = false := by
      by_cases y : tOn T 6 (T 0) ≠ 0
      · rw [decide_eq_false (p := tOn T 14 (T 1) ≠ 0) (fun z => hz ⟨y, z⟩), Bool.and_false]
      · rw [decide_eq_false y, Bool.false_and]
    have hn : ∀ l : List Nat, (l.findSome? (fun i => if ((decide (tOn T 6 (T 0) ≠ 0) && decide (tOn T 14 (T 1) ≠ 0)) && tMt T i) = true then some (nI (i + 1)) else none)) = none := fun l => by
      rw [hd]
      induction l with
      | nil => rfl
      | cons x l ih => rw [List.findSome?_cons, Bool.false_and, if_neg (by decide)]; exact ih
    rw [hn] at m1
    refine ⟨-1000000, hM C sc ar P, hR C sc ar P f', ?_, hM_38 hC, m1, IV_tried hC h m2⟩
    unfold X11_allMet_F X1_weeksUntilAllMet_F
    simp only [c0_r2 h.1, c0_r3 h.1, kc_ob k1, c25_ob h.1, Option.bind_some, e1, if_neg e10, c_peopleOnIt k1 k2 hT.1, c_jobsOnIt k1 k2 hT.1, q_eq0 (show tOn T 6 (T 0) < 2147483648 by omega), q_eq0 (show tOn T 14 (T 1) < 2147483648 by omega)]
    by_cases y : tOn T 6 (T 0) = 0
    · rw [if_pos y]
      rfl
    · rw [if_neg y, if_pos (Classical.not_not.mp (fun z => hz ⟨y, z⟩))]
      rfl
