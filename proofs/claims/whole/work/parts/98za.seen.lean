/-! ===== seen ===== -/
theorem lp_ex {σ ρ : Type} {b : σ → Option (σ ⊕ ρ)} (I : Nat → σ → Prop) (Q : ρ → Prop) (m : Nat) (hstep : ∀ i s, i < m → I i s → (∃ s', b s = some (.inl s') ∧ I (i + 1) s') ∨ (∃ r, b s = some (.inr r) ∧ Q r)) (hend : ∀ s, I m s → ∃ r, b s = some (.inr r) ∧ Q r) (n : Nat) (hn : m < n) (s : σ) (h0 : I 0 s) : ∃ r, kp_lp b n s = some r ∧ Q r := by
  have key : ∀ k, k ≤ m → ∀ s, I (m - k) s → ∃ r, kp_lp b (n - (m - k)) s = some r ∧ Q r := by
    intro k
    induction k with
    | zero =>
      intro _ s hs
      obtain ⟨q, hq⟩ : ∃ q, n - (m - 0) = q + 1 := ⟨n - m - 1, by omega⟩
      obtain ⟨r, h1, h2⟩ := hend s hs
      exact ⟨r, by rw [hq]; simp only [kp_lp, h1], h2⟩
    | succ k ih =>
      intro hk s hs
      obtain ⟨q, hq⟩ : ∃ q, n - (m - (k + 1)) = q + 1 := ⟨n - (m - (k + 1)) - 1, by omega⟩
      have e1 : n - (m - k) = q := by omega
      have e2 : m - (k + 1) + 1 = m - k := by omega
      rcases hstep (m - (k + 1)) s (by omega) hs with ⟨s', h1, h2⟩ | ⟨r, h1, h2⟩
      · rw [e2] at h2
        obtain ⟨r, h3, h4⟩ := ih (by omega) s' h2
        rw [e1] at h3
        exact ⟨r, by rw [hq]; simp only [kp_lp, h1]; exact h3, h4⟩
      · exact ⟨r, by rw [hq]; simp only [kp_lp, h1], h2⟩
  have h := key m (Nat.le_refl _) s (by rw [Nat.sub_self]; exact h0)
  rw [Nat.sub_self, Nat.sub_zero] at h
  exact h
theorem al_stop (c : Nat → Bool) : ∀ n, ∃ m, m ≤ n ∧ (∀ i, i < m → q_al c i = true) ∧ (m = n ∨ q_al c m = false) ∧ q_al c m = q_al c n
  | 0 => ⟨0, Nat.le_refl _, fun i hi => by omega, Or.inl rfl, rfl⟩
  | n + 1 => by
    obtain ⟨m, h1, h2, h3, h4⟩ := al_stop c n
    cases hn : q_al c n with
    | true =>
      have hm : m = n := h3.resolve_right (fun z => by rw [h4, hn] at z; cases z)
      subst hm
      exact ⟨m + 1, Nat.le_refl _, fun i hi => by
        by_cases e : i = m
        · subst e; exact hn
        · exact h2 i (by omega), Or.inl rfl, rfl⟩
    | false =>
      have e : q_al c (n + 1) = false := by
        show (q_al c n && c n) = false
        rw [hn, Bool.false_and]
      rw [hn] at h4
      exact ⟨m, by omega, h2, Or.inr h4, by rw [h4, e]⟩
theorem fs_al (c : Nat → Bool) : ∀ l : List Nat, (l.findSome? (fun k => if (!c k) = true then some (nI 0) else none)).getD (nI 1) = nI (b2 (l.all c))
  | [] => rfl
  | x :: l => by
    rw [List.findSome?_cons, List.all_cons]
    cases hx : c x with
    | false => rfl
    | true =>
      rw [Bool.true_and]
      exact fs_al c l
theorem all_al (c : Nat → Bool) (n : Nat) : (List.range n).all c = q_al c n := by
  rw [Bool.eq_iff_iff, List.all_eq_true, q_al_iff]
  exact ⟨fun h k hk => h k (List.mem_range.mpr hk), fun h k hk => h k (List.mem_range.mp hk)⟩
theorem q_or80 : ∀ a, a < 256 → ∀ j, j < 8 → (nI a ||| nI 0) = nI a ∧ (nI a ||| (nI 1 <<< (nI j &&& 31))) = nI (a ||| 2 ^ j) := by decide +kernel
theorem q_os_lt8 {c : Nat → Bool} : ∀ n, n ≤ 8 → q_os c (fun s => s) n < 256
  | 0, _ => by show 0 < 256; omega
  | n + 1, h => by
    have ih := q_os_lt8 (c := c) n (by omega)
    unfold q_os
    split
    · exact Nat.or_lt_two_pow (n := 8) ih (Nat.pow_lt_pow_right (by omega) (by omega))
    · exact ih
/-- the least of some people; -1: nobody -/
def tLo (w : Nat) : Int32 := ((List.range 6).findSome? (fun p => if w.testBit p = true then some (nI p) else none)).getD (-1)
theorem c_leastOf {hp : kw_H} {w : Nat} (hw : w < 64) : X1_leastOf_F hp (nI w) = some (tLo w) := by
  unfold X1_leastOf_F tLo
  refine lp_find (b := X1_leastOf_B2 hp (nI w)) (fun k => nI k) 6 (fun p => if w.testBit p = true then some (nI p) else none) (-1) (fun k hk => ?_) ?_ 2000 (by omega)
  · show X1_leastOf_b2 _ _ _ = _
    unfold X1_leastOf_b2
    rw [if_neg (fun z => by have := (q_le (show 6 < 2147483648 by decide) (show k < 2147483648 by omega)).mp z; omega), c_holds hw (by omega), Option.bind_some]
    by_cases e : w.testBit k = true
    · rw [if_pos e, if_pos e, if_neg e10]
      rfl
    · rw [if_neg e, if_neg e, if_pos e00, nI_add]
  · show X1_leastOf_b2 _ _ _ = _
    unfold X1_leastOf_b2
    rw [if_pos ((q_le (by omega) (by omega)).mpr (Nat.le_refl _))]
    rfl
theorem m_firstDoer {C P : kw_H} {sc : Nat → Int32} {ar : Nat → Nat → Int32} {f : Nat → Int32} {T : Tw} (hC : C.length = 38) (hA : tA f 1782 T) (hT : tOk T) {q : Nat} (hq6 : q < 6) : X12_firstDoer_F (hR C sc ar P f) 38 (nI q) = some (tLo (tDs T q (T 4) (T 5))) := by
  have hw : tDs T q (T 4) (T 5) < 64 := tDs_lt hT
  unfold X12_firstDoer_F
  rw [r_ob hC, Option.bind_some, m_doersTried hC hA hT hq6, Option.bind_some]
  generalize tDs T q (T 4) (T 5) = w at hw
  unfold tLo
  refine lp_find (b := X12_firstDoer_B8 (hR C sc ar P f) (nI w)) (fun k => nI k) 6 (fun p => if w.testBit p = true then some (nI p) else none) (-1) (fun k hk => ?_) ?_ 2000 (by omega)
  · show X12_firstDoer_b8 _ _ _ = _
    unfold X12_firstDoer_b8
    rw [if_neg (fun z => by have := (q_le (show 6 < 2147483648 by decide) (show k < 2147483648 by omega)).mp z; omega), m_has hw (by omega), Option.bind_some]
    by_cases e : w.testBit k = true
    · rw [if_pos e, if_pos e, if_neg e10]
      rfl
    · rw [if_neg e, if_neg e, if_pos e00, nI_add]
  · show X12_firstDoer_b8 _ _ _ = _
    unfold X12_firstDoer_b8
    rw [if_pos ((q_le (by omega) (by omega)).mpr (Nat.le_refl _))]
    rfl
theorem c_itemAt {hp : kw_H} {ks ka : Nat → Nat → Int32} {kl : Nat → Nat → Int64} {kr : Nat → Nat → Option Nat} (h : CV hp ks ka kl kr) {k m x : Nat} (hk : k < 8) (hm : m ≤ 40) (hs : ka 12 k = nI m) (hx : x < m) : X6_itemAt_F hp 1 (nI k) (nI x) = some (ka (3 + k) x) := by
  have e1 : (nI x).toInt = (x : Int) := by rw [eI_n, eI_toInt (by omega) (by omega)]
  have e2 : (nI 1).toInt = 1 := by decide
  unfold X6_itemAt_F
  rw [c1_ob h, Option.bind_some, c_fat h hk hm hs, e1, e2, if_pos (by omega), Option.bind_some, if_pos e00, c1_r0 h, Option.bind_some, c_ldR h hk, Option.bind_some]
  simp only [kp_nu]
  rw [ld_at (cv_row h hk) (by decide) (by omega)]
  rfl
/-- a span of a row's items that lies, or what is found -/
theorem span_sp {j : Nat} {hp : kw_H} {ks ka : Nat → Nat → Int32} {kl : Nat → Nat → Int64} {kr : Nat → Nat → Option Nat} {sc : Nat → Int32} {ar : Nat → Nat → Int32} {T : Tw} {n o : Nat} {A : Nat → Tw} (h : IV j hp ks ka kl kr sc ar T n o A) {k w : Nat} (hk : k < 8) (hw : 1 ≤ w ∧ w ≤ 12) (x : Int32) :
    (∃ c, (c = 1 ∨ c = 2) ∧ X6_findingAt_F hp 1 (nI k) x (nI w) = some (nI c) ∧ ∀ C P : kw_H, C.length = 38 → X12_noItems_F (hM C sc ar P) 38 (nI k) x (nI w) = some ((-1000010) - nI c, hM C (upd sc 10 (nI c)) ar P)) ∨ (∃ fr m, x = nI fr ∧ fr + w ≤ m ∧ m ≤ 40 ∧ ka 12 k = nI m ∧ X6_findingAt_F hp 1 (nI k) x (nI w) = some (nI 0) ∧ ∀ C P : kw_H, C.length = 38 → X12_noItems_F (hM C sc ar P) 38 (nI k) x (nI w) = some (nI 0, hM C sc ar P)) := by
  obtain ⟨q1, q2, q3, q4, q5⟩ := h.2.2.2.1 k hk
  have ew : (nI w).toInt = (w : Int) := by rw [eI_n, eI_toInt (by omega) (by omega)]
  rcases q3 with hm | ⟨m, hm, hs⟩
  · refine Or.inl ⟨1, Or.inl rfl, ?_, fun C P hC => ?_⟩
    · unfold X6_findingAt_F
      rw [c1_ob h.1, Option.bind_some, c_miss h.1 hk, if_pos hm, Option.bind_some, if_neg e10]
    · unfold X12_noItems_F
      rw [m_r5 hC, Option.bind_some, m_ld3 hC hk, Option.bind_some, q1, hm, if_neg (by decide), m_ob hC, Option.bind_some, m_find hC]
      rfl
  · by_cases g : 0 ≤ x.toInt ∧ 0 ≤ (nI w).toInt ∧ x.toInt ≤ m ∧ (nI w).toInt ≤ m - x.toInt
    · right
      have g' := g
      rw [ew] at g'
      refine ⟨x.toInt.toNat, m, by rw [eI_n, Int.toNat_of_nonneg g.1]; exact eI_of x, by omega, hm, hs, by rw [c_fat h.1 hk hm hs, if_pos g], fun C P hC => ?_⟩
      unfold X12_noItems_F
      rw [m_r5 hC, Option.bind_some, m_ld3 hC hk, Option.bind_some, q1, hs, if_pos (nI_pos' (by omega)), m_ob hC, Option.bind_some, m_isSpan hC hk hm (q1.trans hs), if_pos g, Option.bind_some, if_neg e10]
    · refine Or.inl ⟨2, Or.inr rfl, by rw [c_fat h.1 hk hm hs, if_neg g], fun C P hC => ?_⟩
      unfold X12_noItems_F
      rw [m_r5 hC, Option.bind_some, m_ld3 hC hk, Option.bind_some, q1, hs, if_pos (nI_pos' (by omega)), m_ob hC, Option.bind_some, m_isSpan hC hk hm (q1.trans hs), if_neg g, Option.bind_some, if_pos e00, Option.bind_some, m_find hC]
      rfl
theorem fd_ne0 {c : Nat} (hc : c = 1 ∨ c = 2) : ¬ nI c = 0 := by
  rcases hc with rfl | rfl
  · exact e10
  · exact fun z => by have := (q_eq0 (show 2 < 2147483648 by omega)).mp z; omega
theorem fd_ne1 {c : Nat} (hc : c = 1 ∨ c = 2) : ¬ (-1000010) - nI c = 0 := by
  intro z
  have e : ((-1000010 : Int32)) = eI (-1000010) := rfl
  rw [e, eI_n, eI_sub, show (0 : Int32) = eI 0 from rfl, eI_eq (by omega) (by omega) (by omega) (by omega)] at z
  omega
theorem IV_find2 {j : Nat} {hp C P : kw_H} {ks ka : Nat → Nat → Int32} {kl : Nat → Nat → Int64} {kr : Nat → Nat → Option Nat} {sc : Nat → Int32} {ar : Nat → Nat → Int32} {T : Tw} {n o : Nat} {A : Nat → Tw} {x : Int32} {f : Nat → Int32} (h : IV j hp ks ka kl kr sc ar T n o A) (hC : C.length = 38) (hCV : CV (hM C sc ar P) (up2 ks 0 10 x) ka kl kr) (hl : (hM C sc ar P).length = hp.length) (hf : ∀ q, q ≠ 0 → (hM C sc ar P)[q]? = hp[q]?) (hk : ∀ k, k < 1782 → f k = ar 0 k) : Inv (j + 1) (hR C (upd sc 10 x) ar P f) := by
  refine ⟨_, _, _, _, _, _, _, _, _, _, IV_X h hC hCV hl (fun q hq => hf q (by omega)) rfl rfl h.2.2.2.2.2.2.2.2.2.2.2 rfl rfl h.2.2.2.1 ?_ ?_ ?_ (fun k hk' => hk k hk') (fun _ _ => rfl) rfl rfl⟩
  · exact h.2.2.2.2.1
  · exact ⟨h.2.2.2.2.2.1.1, rfl⟩
  · exact h.2.2.2.2.2.2.1
theorem tN_up4 {T : Tw} (hT : tOk T) (x t w : Nat) : tN (va_up T 4 x) t w = tN T t w := by
  have h2 := hT.2.2.1
  unfold tN
  show ((t + tH (va_up T 4 x (22 + w % T 2)) (va_up T 4 x (26 + w % T 2)) w) % (T 1 : Nat)).toNat = _
  rw [up_ne _ _ (by omega), up_ne _ _ (by omega)]
theorem up4_ok {T : Tw} (hT : tOk T) {x : Nat} (hx : x < T 1) : tOk (va_up T 4 x) :=
  tOk_cg hT rfl rfl rfl rfl hx hT.2.2.2.2.2.1 (fun k hk => by rw [up_ne _ _ (by omega)]; exact hT.2.2.2.2.2.2.1 k hk) (fun k hk => by rw [up_ne _ _ (by omega)]; exact hT.2.2.2.2.2.2.2.1 k hk) (fun k hk => up_ne _ _ (by omega))
/-- the week i fits what was seen, turned so at the start -/
def sF (T : Tw) (q : Nat) (it : Nat → Int32) (t i : Nat) : Bool := decide (tLo (tDs T q (tBn (va_up T 4 t) i) (tAw T i)) = it i)
def sB (T : Tw) (q : Nat) (it : Nat → Int32) (w : Nat) : Nat := q_os (fun t => q_al (sF T q it t) w) (fun t => t) (T 1)
theorem c_seen {hp : kw_H} {ks ka : Nat → Nat → Int32} {kl : Nat → Nat → Int64} {kr : Nat → Nat → Option Nat} {v nm jb tm : Nat → Int32} {tu : Nat → Option Nat} {T : Tw} (h : CV hp ks ka kl kr) (k1 : KC hp 20 v nm jb tu tm) (hV : KV v nm jb tm T) (k3 : TU hp tu T) (hT : tReal T) {q k fr m w : Nat} (hq6 : q < 6) (hk : k < 8) (hm : m ≤ 40) (hs : ka 12 k = nI m) (hx : fr + w ≤ m) (hw : w ≤ 12) : X1_turnedSeen_F hp 25 20 (nI q) 1 (nI k) (nI fr) (nI w) = some (nI (sB T q (fun i => ka (3 + k) (fr + i)) w)) := by
  have h999 := hT.2
  have h18 := hT.1.2.1
  unfold X1_turnedSeen_F sB
  refine lp_for (fun t => (nI (q_os (fun t => q_al (sF T q (fun i => ka (3 + k) (fr + i)) t) w) (fun t => t) t), nI t)) (T 1) _ (fun t ht => ?_) ?_ 2000 (by omega)
  · have hok := up4_ok hT.1 ht
    obtain ⟨m', m1, m2, m3, m4⟩ := al_stop (sF T q (fun i => ka (3 + k) (fr + i)) t) w
    have ob := q_or80 _ (q_os_lt8 (c := fun t => q_al (sF T q (fun i => ka (3 + k) (fr + i)) t) w) t (by omega)) t (by omega)
    show X1_turnedSeen_b6 _ _ _ _ _ _ _ _ _ = some (Sum.inl (nI (if q_al (sF T q (fun i => ka (3 + k) (fr + i)) t) w = true then q_os (fun t => q_al (sF T q (fun i => ka (3 + k) (fr + i)) t) w) (fun t => t) t ||| 2 ^ t else q_os (fun t => q_al (sF T q (fun i => ka (3 + k) (fr + i)) t) w) (fun t => t) t), nI (t + 1)))
    generalize q_os (fun t => q_al (sF T q (fun i => ka (3 + k) (fr + i)) t) w) (fun t => t) t = bits at ob
    unfold X1_turnedSeen_b6
    rw [kc_g5 k1, Option.bind_some, hV.1 1 (by omega), if_neg (fun z => by have := (q_le (show T 1 < 2147483648 by omega) (show t < 2147483648 by omega)).mp z; omega)]
    refine lp_for (fun i => (nI (tBn (va_up T 4 t) i), nI (b2 (q_al (sF T q (fun i => ka (3 + k) (fr + i)) t) i)), nI i)) m' _ (fun i hi => ?_) ?_ 2000 (by omega)
    · have hbn : tBn (va_up T 4 t) i < T 1 := tBn_lt hok i
      have haw := tAw_lt hT.1 i
      have ea : X2_awayBehind_F hp 20 (nI i) = some (nI (tAw T i)) := c_awayBehind k1 hV (by omega)
      have en : tN T (tBn (va_up T 4 t) i) (T 3 + i) = tBn (va_up T 4 t) (i + 1) := by
        rw [← tN_up4 hT.1 t]
        rfl
      show X1_turnedSeen_b25 _ _ _ _ _ _ _ _ _ _ _ _ = some (Sum.inl (nI (tBn (va_up T 4 t) (i + 1)), nI (b2 (q_al (sF T q (fun i => ka (3 + k) (fr + i)) t) i && sF T q (fun i => ka (3 + k) (fr + i)) t i)), nI (i + 1)))
      unfold X1_turnedSeen_b25 X1_turnedSeen_J76
      rw [if_neg (fun z => by have := (q_le (show w < 2147483648 by omega) (show i < 2147483648 by omega)).mp z; omega), m2 i hi, if_neg (show ¬ nI (b2 true) = 0 from e10)]
      simp only [kc_ob k1, Option.bind_some, ea, c_doersOf k1 hV hT.1 hq6 (show tBn (va_up T 4 t) i ≤ 1000 by omega) haw, c_leastOf (tDs_lt hT.1), c1_ob h, nI_add, c_itemAt h hk hm hs (show fr + i < m by omega), kc_g7 k1, hV.1 3 (show 3 < 6 by omega), c_turnedNext k1 hV hT.1 k3 (show tBn (va_up T 4 t) i ≤ 1000 by omega) (show T 3 + i ≤ 2000 by omega), en]
      unfold sF
      by_cases e : tLo (tDs T q (tBn (va_up T 4 t) i) (tAw T i)) = ka (3 + k) (fr + i)
      · rw [if_pos e, decide_eq_true e]
        rfl
      · rw [if_neg e, decide_eq_false e]
        rfl
    · have fin : X1_turnedSeen_J99 hp 20 (nI q) 1 (nI k) (nI fr) (nI w) (nI bits) (nI t) (nI (b2 (q_al (sF T q (fun i => ka (3 + k) (fr + i)) t) m'))) = some (Sum.inl (nI (if q_al (sF T q (fun i => ka (3 + k) (fr + i)) t) w = true then bits ||| 2 ^ t else bits), nI (t + 1))) := by
        unfold X1_turnedSeen_J99 X1_turnedSeen_J113
        rw [m4, nI_add]
        cases q_al (sF T q (fun i => ka (3 + k) (fr + i)) t) w
        · rw [if_pos (show nI (b2 false) = 0 from e00)]
          rfl
        · rw [if_neg (show ¬ nI (b2 true) = 0 from e10), ob.2]
          rfl
      show X1_turnedSeen_b25 _ _ _ _ _ _ _ _ _ _ _ _ = _
      unfold X1_turnedSeen_b25
      rcases m3 with e | e
      · subst e
        rw [if_pos ((q_le (by omega) (by omega)).mpr (Nat.le_refl _)), fin]
        rfl
      · rw [if_pos (show nI (b2 (q_al (sF T q (fun i => ka (3 + k) (fr + i)) t) m')) = 0 by rw [e]; rfl), ite_self, fin]
        rfl
  · show X1_turnedSeen_b6 _ _ _ _ _ _ _ _ _ = _
    unfold X1_turnedSeen_b6
    rw [kc_g5 k1, Option.bind_some, hV.1 1 (by omega), if_pos ((q_le (by omega) (by omega)).mpr (Nat.le_refl _))]
    rfl
section MSeen
variable {C P : kw_H} {sc : Nat → Int32} {ar : Nat → Nat → Int32} {f : Nat → Int32} {T : Tw}
theorem r_r6 (hC : C.length = 38) : kp_gR (hR C sc ar P f) 38 [11] 6 = some 43 := m_r6 hC
theorem r_ld4 (hC : C.length = 38) {j : Nat} (hj : j < 320) : kp_ldI (hR C sc ar P f) 43 (nI j) = some (ar 4 j) := m_ld4 hC hj
theorem m_seenSo (hC : C.length = 38) (hA : tA f 0 T) (hT : tReal T) {q k fr w t : Nat} (hq6 : q < 6) (hk : k < 8) (hx : fr + w ≤ 40) (hw : w ≤ 12) (ht : t < T 1) {it : Nat → Int32} (hit : ∀ i, i < w → ar 4 (40 * k + fr + i) = it i) : ∃ f', X12_isSeenSo_F (hR C sc ar P f) 38 (nI q) (nI t) (nI k) (nI fr) (nI w) = some (nI (b2 (q_al (sF T q it t) w)), hR C sc ar P f') ∧ ∀ k, k < 1782 → f' k = f k := by
  have h999 := hT.2
  have hok := up4_ok hT.1 ht
  obtain ⟨f0, c1, c2, c3⟩ := m_layTried (C := C) (P := P) (sc := sc) (ar := ar) hC hA hT.1 (n := 0) (by omega) (by omega)
  have c2 : tA f0 1782 T := c2
  have a0 : tA (upd f0 1786 (nI t)) 1782 (va_up T 4 t) := fun k hk => by
    by_cases e : k = 4
    · subst e; rw [pk_us, up_at]
    · rw [pk_un (by omega), up_ne _ _ e]; exact c2 k hk
  obtain ⟨F, q0, q1, q2⟩ := m_weeks (C := C) (P := P) (sc := sc) (ar := ar) hC (b := 1782) (by omega) a0 hok w (show T 3 + w ≤ 2000 by omega)
  have hk2 : ∀ i, i ≤ w → ∀ k, k < 1782 → F i k = f k := fun i hi k hk => by rw [(q1 i hi).2 k (by omega), pk_un (by omega)]; exact c3 k hk
  obtain ⟨i, hi, hpair⟩ := fs_pair (c := fun i => !sF T q it t i) (a := fun _ => nI 0) (B := fun i => hR C sc ar P (F i)) (d := nI 1) (m := w) (List.range w)
  rw [fs_al, all_al] at hpair
  have hiw : i ≤ w := by
    rcases hi with hi | hi
    · have := List.mem_range.mp hi; omega
    · omega
  refine ⟨F i, ?_, hk2 i hiw⟩
  unfold X12_isSeenSo_F
  rw [r_ob hC, Option.bind_some, c1, Option.bind_some, r_r0 hC, Option.bind_some, r_st hC (by omega), Option.bind_some, ← q0, ← hpair]
  refine lp_find (b := X12_isSeenSo_B17 38 (nI q) (nI k) (nI fr) (nI w)) (fun i => (nI i, hR C sc ar P (F i))) w (fun i => if (!sF T q it t i) = true then some (nI 0, hR C sc ar P (F i)) else none) (nI 1, hR C sc ar P (F w)) (fun i hi => ?_) ?_ 2000 (by omega)
  · have ef := m_firstDoer (C := C) (P := P) (sc := sc) (ar := ar) hC (q1 i (by omega)).1 (tWn_ok hok i (show T 3 + i ≤ 2000 by omega)) hq6
    rw [tDs_cg hT.1 (fun k a b c d => (tWn_c a b c d i).trans (up_ne _ _ c)), tWn_4 hok, tWn_5] at ef
    have ef : X12_firstDoer_F (hR C sc ar P (F i)) 38 (nI q) = some (tLo (tDs T q (tBn (va_up T 4 t) i) (tAw T i))) := ef
    show X12_isSeenSo_b17 _ _ _ _ _ _ _ = _
    unfold X12_isSeenSo_b17
    rw [if_neg (fun z => by have := (q_le (show w < 2147483648 by omega) (show i < 2147483648 by omega)).mp z; omega), r_ob hC, Option.bind_some, ef, Option.bind_some, r_r6 hC, Option.bind_some, q_mul, nI_add, nI_add, r_ld4 hC (by omega), Option.bind_some, hit i hi, Option.bind_some, q2 i hi, Option.bind_some, nI_add]
    unfold sF
    by_cases e : tLo (tDs T q (tBn (va_up T 4 t) i) (tAw T i)) = it i
    · rw [if_pos e, decide_eq_true e]
      rfl
    · rw [if_neg e, decide_eq_false e]
      rfl
  · show X12_isSeenSo_b17 _ _ _ _ _ _ _ = _
    unfold X12_isSeenSo_b17
    rw [if_pos ((q_le (by omega) (by omega)).mpr (Nat.le_refl _))]
    rfl
theorem m_seen (hC : C.length = 38) (hA : tA (ar 0) 0 T) (hT : tReal T) {q k fr w : Nat} (hq6 : q < 6) (hk : k < 8) (hx : fr + w ≤ 40) (hw : w ≤ 12) {it : Nat → Int32} (hit : ∀ i, i < w → ar 4 (40 * k + fr + i) = it i) : ∃ f', kp_lp (X12_seen_B64 38 (nI q) (nI k) (nI fr) (nI w)) 2000 (nI 0, nI 0, hM C sc ar P) = some (nI (sB T q it w), hR C (upd sc 10 (nI 0)) ar P f') ∧ ∀ k, k < 1782 → f' k = ar 0 k := by
  have h18 := hT.1.2.1
  obtain ⟨F, F0, F1, F2⟩ := chain (α := Nat → Int32) (P := fun _ x => ∀ k, k < 1782 → x k = ar 0 k) (R := fun t x y => X12_isSeenSo_F (hR C sc ar P x) 38 (nI q) (nI t) (nI k) (nI fr) (nI w) = some (nI (b2 (q_al (sF T q it t) w)), hR C sc ar P y)) (x0 := ar 0) (fun _ _ => rfl) (T 1) (fun t x ht hx' => by
    obtain ⟨y, p1, p2⟩ := m_seenSo (C := C) (P := P) (sc := sc) (ar := ar) (f := x) hC (fun k hk => by rw [hx' _ (by omega)]; exact hA k hk) hT hq6 hk hx hw ht hit
    exact ⟨y, p1, fun k hk => (p2 k hk).trans (hx' k hk)⟩)
  refine ⟨F (T 1), ?_, F1 (T 1) (Nat.le_refl _)⟩
  have e1 : ∀ t, t ≤ T 1 → F t 1 = nI (T 1) := fun t ht => by rw [F1 t ht 1 (by omega)]; exact tA0 hA (by omega)
  rw [hR_self, ← F0]
  unfold sB
  refine lp_for (fun t => (nI (q_os (fun t => q_al (sF T q it t) w) (fun t => t) t), nI t, hR C sc ar P (F t))) (T 1) _ (fun t ht => ?_) ?_ 2000 (by omega)
  · have ob := q_or80 _ (q_os_lt8 (c := fun t => q_al (sF T q it t) w) t (by omega)) t (by omega)
    show X12_seen_b64 _ _ _ _ _ _ _ _ = some (Sum.inl (nI (if q_al (sF T q it t) w = true then q_os (fun t => q_al (sF T q it t) w) (fun t => t) t ||| 2 ^ t else q_os (fun t => q_al (sF T q it t) w) (fun t => t) t), nI (t + 1), hR C sc ar P (F (t + 1))))
    unfold X12_seen_b64 X12_seen_J99
    simp only [r_r0 hC, Option.bind_some, r_ld hC (show 1 < 1848 by omega), e1 t (by omega), q_le (show T 1 < 2147483648 by omega) (show t < 2147483648 by omega), if_neg (show ¬ T 1 ≤ t by omega), r_ob hC, F2 t ht, nI_add, ob.1, ob.2]
    cases q_al (sF T q it t) w
    · rw [if_pos (show nI (b2 false) = 0 from e00)]
      rfl
    · rw [if_neg (show ¬ nI (b2 true) = 0 from e10)]
      rfl
  · show X12_seen_b64 _ _ _ _ _ _ _ _ = _
    unfold X12_seen_b64 X12_seen_J108
    have ew : X12_well_F (hR C sc ar P (F (T 1))) 38 (nI (q_os (fun t => q_al (sF T q it t) w) (fun t => t) (T 1))) = some (nI (q_os (fun t => q_al (sF T q it t) w) (fun t => t) (T 1)), hR C (upd sc 10 (nI 0)) ar P (F (T 1))) := m_well hC _
    simp only [r_r0 hC, Option.bind_some, r_ld hC (show 1 < 1848 by omega), e1 (T 1) (Nat.le_refl _), q_le (show T 1 < 2147483648 by omega) (show T 1 < 2147483648 by omega), Nat.le_refl, if_true, r_ob hC, ew]
    rfl
end MSeen
theorem seen_me {C P : kw_H} {sc : Nat → Int32} {ar : Nat → Nat → Int32} (hC : C.length = 38) (s1 : sc 1 = nI 1) {q k w c : Nat} {a3 : Int32} (b3 : ∀ hp, X12_isSix_F hp (nI q) = some (nI 1)) (r2 : ∀ hp, X12_isRow_F hp (nI k) = some (nI 1)) (w1 : ∀ hp, X11_within_F hp (nI w) (nI 1) (nI 12) = some (nI 1)) (hc : ¬ (-1000010) - nI c = 0) (f2 : X12_noItems_F (hM C sc ar P) 38 (nI k) a3 (nI w) = some ((-1000010) - nI c, hM C (upd sc 10 (nI c)) ar P)) : X12_seen_F (hM C sc ar P) 38 (nI q) (nI k) a3 (nI w) = some ((-1000010) - nI c, hM C (upd sc 10 (nI c)) ar P) := by
  unfold X12_seen_F
  rw [m_g1 hC, Option.bind_some, s1, if_neg e10, b3, Option.bind_some, if_neg e10, r2, Option.bind_some, if_neg e10, l_n 1 (by decide), l_n 12 (by decide), l_in, w1, Option.bind_some, if_neg e10, m_ob hC, Option.bind_some, f2, Option.bind_some]
  exact if_neg hc
theorem seen_mo {C P : kw_H} {sc : Nat → Int32} {ar : Nat → Nat → Int32} {R : Int32 × kw_H} (hC : C.length = 38) (s1 : sc 1 = nI 1) {q k w : Nat} {a3 : Int32} (b3 : ∀ hp, X12_isSix_F hp (nI q) = some (nI 1)) (r2 : ∀ hp, X12_isRow_F hp (nI k) = some (nI 1)) (w1 : ∀ hp, X11_within_F hp (nI w) (nI 1) (nI 12) = some (nI 1)) (f2 : X12_noItems_F (hM C sc ar P) 38 (nI k) a3 (nI w) = some (nI 0, hM C sc ar P)) (m1 : kp_lp (X12_seen_B64 38 (nI q) (nI k) a3 (nI w)) 2000 (nI 0, nI 0, hM C sc ar P) = some R) : X12_seen_F (hM C sc ar P) 38 (nI q) (nI k) a3 (nI w) = some R := by
  unfold X12_seen_F
  rw [m_g1 hC, Option.bind_some, s1, if_neg e10, b3, Option.bind_some, if_neg e10, r2, Option.bind_some, if_neg e10, l_n 1 (by decide), l_n 12 (by decide), l_in, w1, Option.bind_some, if_neg e10, m_ob hC, Option.bind_some, f2, Option.bind_some]
  rw [show (if (nI 0, hM C sc ar P).1 = 0 then kp_lp (X12_seen_B64 38 (nI q) (nI k) a3 (nI w)) 2000 (nI 0, nI 0, (nI 0, hM C sc ar P).2) else some ((nI 0, hM C sc ar P).1, (nI 0, hM C sc ar P).2)) = kp_lp (X12_seen_B64 38 (nI q) (nI k) a3 (nI w)) 2000 (nI 0, nI 0, hM C sc ar P) from if_pos e00]
  exact m1
theorem ag_seen : lx_ag_seen Inv := by
  intro j hp h hj a1 a2 a3 a4
  have hM0 := Inv_M h
  have hS := Inv_S _ _ h
  obtain ⟨ks, ka, kl, kr, sc, ar, T, n, o, A, h⟩ := h
  obtain ⟨C, P, hC, rfl⟩ := MV_ex h.2.1
  have hth := IV_there h
  obtain ⟨⟨v, nm, jb, tu, tm, k1, k2, k3, k4⟩, hA, -⟩ := id h.2.2.2.2.2.2.2.1
  rcases hth with ⟨hT, s1, e1⟩ | ⟨-, s1, e1⟩
  case inr =>
    refine ⟨-1000002, _, _, ?_, hM0, ?_, hS⟩
    · unfold X11_seen_F
      simp only [c0_r2 h.1, kc_ob k1, Option.bind_some, e1, if_pos e00]
    · unfold X12_seen_F
      simp only [m_g1 hC, Option.bind_some, s1, if_pos e00]
  rcases six_sp a1 with ⟨q, hq6, rfl, -, b1, b3⟩ | ⟨-, b1, b3⟩
  case inr =>
    refine ⟨-1000001, _, _, ?_, hM0, ?_, hS⟩
    · unfold X11_seen_F
      simp only [c0_r2 h.1, kc_ob k1, Option.bind_some, e1, if_neg e10, b1, if_pos e00]
    · unfold X12_seen_F
      simp only [m_g1 hC, Option.bind_some, s1, if_neg e10, b3, if_pos e00]
  rcases row_sp a2 with ⟨k, hk, rfl, r1, r2⟩ | ⟨r1, r2⟩
  case inr =>
    refine ⟨-1000001, _, _, ?_, hM0, ?_, hS⟩
    · unfold X11_seen_F
      simp only [c0_r2 h.1, kc_ob k1, Option.bind_some, e1, if_neg e10, b1, r1, if_pos e00]
    · unfold X12_seen_F
      simp only [m_g1 hC, Option.bind_some, s1, if_neg e10, b3, r2, if_pos e00]
  rcases w_spN a4 (a := 1) (b := 12) (by decide) (by decide) with ⟨w, rfl, hw0, hw, w1⟩ | w1
  case inr =>
    refine ⟨-1000001, _, _, ?_, hM0, ?_, hS⟩
    · unfold X11_seen_F
      simp only [c0_r2 h.1, kc_ob k1, Option.bind_some, e1, if_neg e10, b1, r1, w1, if_pos e00]
    · unfold X12_seen_F
      simp only [m_g1 hC, Option.bind_some, s1, if_neg e10, b3, r2, l_n 1 (by decide), l_n 12 (by decide), l_in, w1, if_pos e00]
  rcases span_sp h hk ⟨hw0, hw⟩ a3 with ⟨c, hc, f1, f2⟩ | ⟨fr, m, rfl, hx, hm, hs, f1, f2⟩
  · obtain ⟨C2, P2, hC2, g1, g2⟩ := IV_fin h (nI c)
    have hc0 := fd_ne0 hc
    have hc1 := fd_ne1 hc
    refine ⟨(-1000010) - nI c, hM C2 sc ar P2, hM C2 (upd sc 10 (nI c)) ar P2, ?_, hM_38 hC2, ?_, g2⟩
    · unfold X11_seen_F
      simp only [c0_r2 h.1, kc_ob k1, Option.bind_some, e1, if_neg e10, b1, r1, w1, c0_r0 h.1, c1_ob h.1, f1, if_neg hc0, c0_ob h.1, g1]
    · exact seen_me hC2 s1 b3 r2 w1 hc1 (f2 C2 P2 hC2)
  · obtain ⟨hp1, g1, g2, g3, g4⟩ := k_unf h.1 (nI (sB T q (fun i => ka (3 + k) (fr + i)) w))
    obtain ⟨C2, P2, hC2, rfl⟩ := MV_ex (MV_f h.2.1 (fun q hq => g4 q (by omega)))
    obtain ⟨f', m1, m2⟩ := m_seen (C := C2) (P := P2) (sc := sc) (w := w) (fr := fr) hC2 hA hT hq6 hk (by omega) hw (it := fun i => ka (3 + k) (fr + i)) (fun i hi => by
      rw [Nat.add_assoc]
      exact (h.2.2.2.1 k hk).2.2.2.2 (fr + i) (by omega))
    refine ⟨nI (sB T q (fun i => ka (3 + k) (fr + i)) w), hM C2 sc ar P2, hR C2 (upd sc 10 (nI 0)) ar P2 f', ?_, hM_38 hC2, ?_, IV_find2 h hC2 g2 g3 g4 m2⟩
    · unfold X11_seen_F
      simp only [c0_r2 h.1, c0_r3 h.1, kc_ob k1, Option.bind_some, e1, if_neg e10, b1, r1, w1, c0_r0 h.1, c1_ob h.1, f1, if_pos e00, c25_ob h.1, c_seen h.1 k1 k2 k3 hT hq6 hk hm hs hx hw, c0_ob h.1, g1]
    · exact seen_mo hC2 s1 b3 r2 w1 (f2 C2 P2 hC2) m1
