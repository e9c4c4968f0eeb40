/-! ===== pairs ===== -/
theorem pairs_sum (t : Nat → Nat → Bool) (hs : ∀ p q, t p q = t q p) : q_sm (fun p => q_ct (fun q => decide (p < q) && t p q) 6) 6 = q_sm (fun p => q_ct (t p) p) 6 := by
  show 0 + (0 + b2 false + b2 (t 0 1) + b2 (t 0 2) + b2 (t 0 3) + b2 (t 0 4) + b2 (t 0 5)) + (0 + b2 false + b2 false + b2 (t 1 2) + b2 (t 1 3) + b2 (t 1 4) + b2 (t 1 5)) + (0 + b2 false + b2 false + b2 false + b2 (t 2 3) + b2 (t 2 4) + b2 (t 2 5)) + (0 + b2 false + b2 false + b2 false + b2 false + b2 (t 3 4) + b2 (t 3 5)) + (0 + b2 false + b2 false + b2 false + b2 false + b2 false + b2 (t 4 5)) + (0 + b2 false + b2 false + b2 false + b2 false + b2 false + b2 false) = 0 + 0 + (0 + b2 (t 1 0)) + (0 + b2 (t 2 0) + b2 (t 2 1)) + (0 + b2 (t 3 0) + b2 (t 3 1) + b2 (t 3 2)) + (0 + b2 (t 4 0) + b2 (t 4 1) + b2 (t 4 2) + b2 (t 4 3)) + (0 + b2 (t 5 0) + b2 (t 5 1) + b2 (t 5 2) + b2 (t 5 3) + b2 (t 5 4))
  rw [hs 1 0, hs 2 0, hs 2 1, hs 3 0, hs 3 1, hs 3 2, hs 4 0, hs 4 1, hs 4 2, hs 4 3, hs 5 0, hs 5 1, hs 5 2, hs 5 3, hs 5 4]
  have b0 : b2 false = 0 := rfl
  omega
theorem q_bc0 : ∀ w, w < 64 → ∀ k, k < 6 → J6_bitCount_0f7a4_F [] (nI w >>> ((nI k + nI 1) &&& 31)) = some (nI (q_ct (fun q => decide (k < q) && w.testBit q) 6)) := by decide +kernel
theorem q_bc (hp : kw_H) {w k : Nat} (hw : w < 64) (hk : k < 6) : J6_bitCount_0f7a4_F hp (nI w >>> ((nI k + nI 1) &&& 31)) = some (nI (q_ct (fun q => decide (k < q) && w.testBit q) 6)) := q_bc0 w hw k hk
def pJ (D base : Nat → Nat) : Nat → Nat → Nat
  | 0 => base
  | j + 1 => fun p => pJ D base j p ||| (if (D j).testBit p = true then D j else 0)
def pW (T : Tw) : Nat → Nat → Nat
  | 0 => fun _ => 0
  | i + 1 => pJ (fun j => tDs T j (tBn T i) (tAw T i)) (pW T i) 6
theorem pJ_lt {D base : Nat → Nat} (hD : ∀ j, D j < 64) (hb : ∀ p, base p < 64) : ∀ j p, pJ D base j p < 64
  | 0, p => hb p
  | j + 1, p => Nat.or_lt_two_pow (n := 6) (pJ_lt hD hb j p) (by split; exact hD j; omega)
theorem pW_lt {T : Tw} (hT : tOk T) : ∀ i p, pW T i p < 64
  | 0, p => by show 0 < 64; omega
  | i + 1, p => pJ_lt (fun j => tDs_lt hT) (pW_lt hT i) 6 p
theorem pJ_bit {D base : Nat → Nat} {p q : Nat} : ∀ j, (pJ D base j p).testBit q = true ↔ (base p).testBit q = true ∨ ∃ j', j' < j ∧ (D j').testBit p = true ∧ (D j').testBit q = true
  | 0 => ⟨Or.inl, fun h => h.elim id (fun ⟨j', h1, _⟩ => by omega)⟩
  | j + 1 => by
    show (pJ D base j p ||| (if (D j).testBit p = true then D j else 0)).testBit q = true ↔ _
    rw [Nat.testBit_or, Bool.or_eq_true, pJ_bit j]
    constructor
    · rintro ((h | ⟨j', h1, h2⟩) | h)
      · exact Or.inl h
      · exact Or.inr ⟨j', by omega, h2⟩
      · split at h
        · rename_i e; exact Or.inr ⟨j, by omega, e, h⟩
        · rw [Nat.zero_testBit] at h; cases h
    · rintro (h | ⟨j', h1, h2, h3⟩)
      · exact Or.inl (Or.inl h)
      · by_cases e : j' = j
        · subst e; right; rw [if_pos h2]; exact h3
        · exact Or.inl (Or.inr ⟨j', by omega, h2, h3⟩)
/-- who does what, by the number 6 * week + job -/
def pD (T : Tw) (k : Nat) : Nat := tDs T (k % 6) (tBn T (k / 6)) (tAw T (k / 6))
def pT (T : Tw) (n p q : Nat) : Bool := q_any (fun k => (pD T k).testBit p && (pD T k).testBit q) (6 * n)
theorem pW_bit {T : Tw} {p q : Nat} : ∀ n, (pW T n p).testBit q = pT T n p q
  | 0 => by
    show (0 : Nat).testBit q = _
    rw [Nat.zero_testBit]
    rfl
  | n + 1 => by
    rw [Bool.eq_iff_iff]
    show (pJ (fun j => tDs T j (tBn T n) (tAw T n)) (pW T n) 6 p).testBit q = true ↔ _
    rw [pJ_bit, pW_bit n]
    unfold pT
    rw [q_any_iff, q_any_iff]
    constructor
    · rintro (⟨k, h1, h2⟩ | ⟨j, h1, h2, h3⟩)
      · exact ⟨k, by omega, h2⟩
      · refine ⟨6 * n + j, by omega, ?_⟩
        unfold pD
        rw [show (6 * n + j) % 6 = j by omega, show (6 * n + j) / 6 = n by omega, h2, h3]
        rfl
    · rintro ⟨k, h1, h2⟩
      by_cases e : k < 6 * n
      · exact Or.inl ⟨k, e, h2⟩
      · refine Or.inr ⟨k % 6, Nat.mod_lt _ (by omega), ?_⟩
        unfold pD at h2
        rw [show k / 6 = n by omega, Bool.and_eq_true] at h2
        exact h2
theorem pT_sym (T : Tw) (n p q : Nat) : pT T n p q = pT T n q p := by
  unfold pT
  congr 1
  funext k
  exact Bool.and_comm _ _
/-- how many pairs -/
def pN (T : Tw) (n : Nat) : Nat := q_sm (fun p => q_ct (pT T n p) p) 6
theorem pN_eq (T : Tw) (n : Nat) : q_sm (fun p => q_ct (fun q => decide (p < q) && (pW T n p).testBit q) 6) 6 = pN T n := by
  unfold pN
  rw [← pairs_sum (pT T n) (pT_sym T n)]
  refine q_sm_cg 6 (fun p _ => q_ct_cg 6 (fun q _ => ?_))
  rw [pW_bit]
theorem c_pairs {hp : kw_H} {ks ka : Nat → Nat → Int32} {kl : Nat → Nat → Int64} {kr : Nat → Nat → Option Nat} {v nm jb tm : Nat → Int32} {tu : Nat → Option Nat} {T : Tw} (h : CV hp ks ka kl kr) (k1 : KC hp 20 v nm jb tu tm) (hV : KV v nm jb tm T) (k3 : TU hp tu T) (hT : tReal T) {n : Nat} (hn : n ≤ 60) : ∃ f, X1_pairsIn_F hp 25 20 (nI n) = some (nI (pN T n), S31 hp f) := by
  have h999 := hT.2
  have h18 := hT.1.2.1
  refine ⟨zf (ka 31) (pW T n), ?_⟩
  unfold X1_pairsIn_F
  rw [c25_r1 h, Option.bind_some, S31_fill h, Option.bind_some, kc_g8 (S31_KC k1 (by omega) _), Option.bind_some, hV.1 4 (by omega)]
  refine lp_for (fun i => (nI (tBn T i), nI i, S31 hp (zf (ka 31) (pW T i)))) n _ (fun i hi => ?_) ?_ 2000 (by omega)
  · have hbn := tBn_lt hT.1 i
    have haw := tAw_lt hT.1 i
    obtain ⟨D, hD⟩ : ∃ D : Nat → Nat, ∀ j, D j = tDs T j (tBn T i) (tAw T i) := ⟨_, fun _ => rfl⟩
    have hDlt : ∀ j, D j < 64 := fun j => by rw [hD]; exact tDs_lt hT.1
    have hpw : pW T (i + 1) = pJ D (pW T i) 6 := by
      show pJ (fun j => tDs T j (tBn T i) (tAw T i)) (pW T i) 6 = _
      rw [show (fun j => tDs T j (tBn T i) (tAw T i)) = D from funext fun j => (hD j).symm]
    show X1_pairsIn_b16 _ _ _ _ _ _ = some (Sum.inl (nI (tN T (tBn T i) (T 3 + i)), nI (i + 1), S31 hp (zf (ka 31) (pW T (i + 1)))))
    rw [hpw]
    unfold X1_pairsIn_b16
    rw [if_neg (fun z => by have := (q_le (show n < 2147483648 by omega) (show i < 2147483648 by omega)).mp z; omega)]
    refine lp_for (fun jj => (nI jj, S31 hp (zf (ka 31) (pJ D (pW T i) jj)))) 6 _ (fun jj hjj => ?_) ?_ 2000 (by omega)
    · have kS := S31_KC k1 (by omega) (zf (ka 31) (pJ D (pW T i) jj))
      have ea : X2_awayBehind_F (S31 hp (zf (ka 31) (pJ D (pW T i) jj))) 20 (nI i) = some (nI (tAw T i)) := c_awayBehind kS hV (by omega)
      have ed : X2_doersOf_F (S31 hp (zf (ka 31) (pJ D (pW T i) jj))) 20 (nI jj) (nI (tBn T i)) (nI (tAw T i)) = some (nI (D jj)) := by rw [hD]; exact c_doersOf kS hV hT.1 hjj (by omega) haw
      show X1_pairsIn_b25 _ _ _ _ _ _ _ = some (Sum.inl (nI (jj + 1), S31 hp (zf (ka 31) (pJ D (pW T i) (jj + 1)))))
      unfold X1_pairsIn_b25
      rw [if_neg (fun z => by have := (q_le (show 6 < 2147483648 by decide) (show jj < 2147483648 by omega)).mp z; omega), kc_ob kS, Option.bind_some, ea, Option.bind_some, Option.bind_some, ed, Option.bind_some]
      have ez : zf (ka 31) (pJ D (pW T i) jj) = zf (ka 31) (fun p => if p < 0 then pJ D (pW T i) (jj + 1) p else pJ D (pW T i) jj p) := zf_cg (fun p hp => by rw [if_neg (by omega)])
      have e6 : zf (ka 31) (fun p => if p < 6 then pJ D (pW T i) (jj + 1) p else pJ D (pW T i) jj p) = zf (ka 31) (pJ D (pW T i) (jj + 1)) := zf_cg (fun p hp => by rw [if_pos hp])
      show kp_lp (X1_pairsIn_B50 25 20 (nI n) (nI (tBn T i)) (nI i) (nI jj) (nI (D jj))) 2000 (nI 0, S31 hp (zf (ka 31) (pJ D (pW T i) jj))) = _
      rw [ez]
      refine lp_for (fun k => (nI k, S31 hp (zf (ka 31) (fun p => if p < k then pJ D (pW T i) (jj + 1) p else pJ D (pW T i) jj p)))) 6 _ (fun k hk => ?_) ?_ 2000 (by omega)
      · have cS := S31_CV h (zf (ka 31) (fun p => if p < k then pJ D (pW T i) (jj + 1) p else pJ D (pW T i) jj p))
        have el : zf (ka 31) (fun p => if p < k then pJ D (pW T i) (jj + 1) p else pJ D (pW T i) jj p) k = nI (pJ D (pW T i) jj k) := by rw [zf_at hk, if_neg (by omega)]
        have eu : upd (zf (ka 31) (fun p => if p < k then pJ D (pW T i) (jj + 1) p else pJ D (pW T i) jj p)) k (nI (pJ D (pW T i) (jj + 1) k)) = zf (ka 31) (fun p => if p < k + 1 then pJ D (pW T i) (jj + 1) p else pJ D (pW T i) jj p) := by
          rw [zf_up _ _ hk]
          refine zf_cg (fun p hp => ?_)
          unfold va_up
          by_cases e : p = k
          · rw [if_pos e, if_pos (by omega), e]
          · rw [if_neg e]
            dsimp only
            by_cases e2 : p < k
            · rw [if_pos e2, if_pos (by omega)]
            · rw [if_neg e2, if_neg (by omega)]
        have l1 := pJ_lt hDlt (pW_lt hT.1 i) jj k
        show X1_pairsIn_b50 _ _ _ _ _ _ _ _ _ = some (Sum.inl (nI (k + 1), S31 hp (zf (ka 31) (fun p => if p < k + 1 then pJ D (pW T i) (jj + 1) p else pJ D (pW T i) jj p))))
        unfold X1_pairsIn_b50 X1_pairsIn_J81
        rw [if_neg (fun z => by have := (q_le (show 6 < 2147483648 by decide) (show k < 2147483648 by omega)).mp z; omega)]
        simp only [c25_r1 cS, Option.bind_some, S31_ld h hk, el, c_holds (hDlt jj) (show k < 8 by omega), S31_st h hk, nI_add]
        by_cases e : (D jj).testBit k = true
        · have e2 : pJ D (pW T i) (jj + 1) k = pJ D (pW T i) jj k ||| D jj := by
            show pJ D (pW T i) jj k ||| (if (D jj).testBit k = true then D jj else 0) = _
            rw [if_pos e]
          rw [if_pos e, if_neg e10, q_oor l1 (hDlt jj), ← e2, eu]
        · have e2 : pJ D (pW T i) (jj + 1) k = pJ D (pW T i) jj k ||| 0 := by
            show pJ D (pW T i) jj k ||| (if (D jj).testBit k = true then D jj else 0) = _
            rw [if_neg e]
          rw [if_neg e, if_pos e00, q_oor l1 (by omega), ← e2, eu]
      · show X1_pairsIn_b50 _ _ _ _ _ _ _ _ _ = _
        unfold X1_pairsIn_b50
        rw [if_pos ((q_le (by omega) (by omega)).mpr (Nat.le_refl _))]
        unfold X1_pairsIn_J89
        show some (Sum.inr (Sum.inl (nI jj + nI 1, S31 hp (zf (ka 31) (fun p => if p < 6 then pJ D (pW T i) (jj + 1) p else pJ D (pW T i) jj p))))) = _
        rw [e6, nI_add]
    · have kS := S31_KC k1 (by omega) (zf (ka 31) (pJ D (pW T i) 6))
      have tS' := S31_TU h k3 (zf (ka 31) (pJ D (pW T i) 6))
      show X1_pairsIn_b25 _ _ _ _ _ _ _ = _
      unfold X1_pairsIn_b25
      rw [if_pos ((q_le (by omega) (by omega)).mpr (Nat.le_refl _))]
      unfold X1_pairsIn_J95
      show (((kp_gI (S31 hp (zf (ka 31) (pJ D (pW T i) 6))) 20 [2] 7).bind fun v10 => ((kp_ob (S31 hp (zf (ka 31) (pJ D (pW T i) 6))) 20 2).bind fun _ => X2_turnedNext_F (S31 hp (zf (ka 31) (pJ D (pW T i) 6))) 20 (nI (tBn T i)) (v10 + nI i)).bind fun r11 => some (Sum.inl (r11, nI i + nI 1, S31 hp (zf (ka 31) (pJ D (pW T i) 6))))) : Option ((Int32 × Int32 × kw_H) ⊕ (Int32 × kw_H))).map _ = _
      rw [kc_g7 kS, Option.bind_some, kc_ob kS, Option.bind_some, hV.1 3 (by omega), nI_add, nI_add, c_turnedNext kS hV hT.1 tS' (by omega) (by omega)]
      rfl
  · have cS := S31_CV h (zf (ka 31) (pW T n))
    show X1_pairsIn_b16 _ _ _ _ _ _ = _
    unfold X1_pairsIn_b16
    rw [if_pos ((q_le (by omega) (by omega)).mpr (Nat.le_refl _))]
    unfold X1_pairsIn_J114
    have key : kp_lp (X1_pairsIn_B120 (S31 hp (zf (ka 31) (pW T n))) 25) 2000 (nI 0, nI 0) = some (nI (pN T n), S31 hp (zf (ka 31) (pW T n))) := by
      rw [← pN_eq]
      refine lp_for (fun k => (nI (q_sm (fun p => q_ct (fun q => decide (p < q) && (pW T n p).testBit q) 6) k), nI k)) 6 _ (fun k hk => ?_) ?_ 2000 (by omega)
      · show X1_pairsIn_b120 _ _ _ _ = some (Sum.inl (nI (q_sm (fun p => q_ct (fun q => decide (p < q) && (pW T n p).testBit q) 6) k + q_ct (fun q => decide (k < q) && (pW T n k).testBit q) 6), nI (k + 1)))
        unfold X1_pairsIn_b120
        rw [if_neg (fun z => by have := (q_le (show 6 < 2147483648 by decide) (show k < 2147483648 by omega)).mp z; omega), c25_r1 cS, Option.bind_some, S31_ld h hk, Option.bind_some, zf_at hk, q_bc _ (pW_lt hT.1 n k) hk, Option.bind_some, nI_add, nI_add]
      · show X1_pairsIn_b120 _ _ _ _ = _
        unfold X1_pairsIn_b120
        rw [if_pos ((q_le (by omega) (by omega)).mpr (Nat.le_refl _))]
        rfl
    show (kp_lp (X1_pairsIn_B120 (S31 hp (zf (ka 31) (pW T n))) 25) 2000 (nI 0, nI 0)).map _ = _
    rw [key]
    rfl
section MPairs
variable {C P : kw_H} {sc : Nat → Int32} {ar : Nat → Nat → Int32} {T : Tw} {f d : Nat → Int32}
theorem r_r16 (hC : C.length = 38) : kp_gR (hR C sc ar P f) 38 [11] 16 = some 46 := m_r16 hC
theorem r_ld7 (hC : C.length = 38) {j : Nat} (hj : j < 360) : kp_ldI (hR C sc (va_up ar 7 d) P f) 46 (nI j) = some (d j) := m_ld7 hC hj
theorem r_st7 (hC : C.length = 38) {j : Nat} (hj : j < 360) (x : Int32) : kp_stI (hR C sc (va_up ar 7 d) P f) 46 (nI j) x = some (hR C sc (va_up ar 7 (upd d j x)) P f) := by
  have := m_st7 (P := P) (sc := sc) (ar := va_up (va_up ar 7 d) 0 f) hC hj x
  unfold hR
  rw [this]
  congr 2
  funext k
  unfold va_up
  by_cases e7 : k = 7
  · subst e7
    rw [if_pos rfl, if_neg (by omega), if_pos rfl, if_neg (by omega), if_pos rfl]
  · rw [if_neg e7]
    by_cases e0 : k = 0
    · rw [if_pos e0, if_pos e0]
    · rw [if_neg e0, if_neg e0, if_neg e7, if_neg e7]
theorem m_areTog (hC : C.length = 38) (hT : tOk T) {n p q : Nat} (hn : n ≤ 60) (hp6 : p < 6) (hq6 : q < 6) (hd : ∀ k, k < 6 * n → d k = nI (pD T k)) : X12_areTogether_F (hR C sc (va_up ar 7 d) P f) 38 (nI p) (nI q) (nI n) = some (nI (b2 (pT T n p q))) := by
  have hl : ∀ k, pD T k < 64 := fun k => tDs_lt hT
  unfold X12_areTogether_F
  refine lp_for (fun k => (nI (b2 (q_any (fun k => (pD T k).testBit p && (pD T k).testBit q) k)), nI k)) (6 * n) _ (fun k hk => ?_) ?_ 2000 (by omega)
  · show X12_areTogether_b6 _ _ _ _ _ _ _ = some (Sum.inl (nI (b2 (q_any (fun k => (pD T k).testBit p && (pD T k).testBit q) k || ((pD T k).testBit p && (pD T k).testBit q))), nI (k + 1)))
    unfold X12_areTogether_b6 X12_areTogether_J52 X12_areTogether_J48 X12_areTogether_J53
    rw [q_mul, if_neg (fun z => by have := (q_le (show 6 * n < 2147483648 by omega) (show k < 2147483648 by omega)).mp z; omega)]
    simp only [r_r16 hC, Option.bind_some, r_ld7 hC (show k < 360 by omega), hd k hk, m_has (hl k) (show p < 8 by omega), m_has (hl k) (show q < 8 by omega), nI_add]
    cases q_any (fun k => (pD T k).testBit p && (pD T k).testBit q) k
    · rw [if_pos (show nI (b2 false) = 0 from e00)]
      cases (pD T k).testBit p
      · rfl
      · cases (pD T k).testBit q <;> rfl
    · rw [if_neg (show ¬ nI (b2 true) = 0 from e10)]
      rfl
  · show X12_areTogether_b6 _ _ _ _ _ _ _ = _
    unfold X12_areTogether_b6
    rw [q_mul, if_pos ((q_le (by omega) (by omega)).mpr (Nat.le_refl _))]
    unfold X12_areTogether_J61
    show ((kp_bool (nI (b2 (pT T n p q)))).bind fun v1 => some v1).map _ = _
    cases pT T n p q <;> rfl
theorem m_pairs (hC : C.length = 38) (hA : tA (ar 0) 0 T) (hT : tReal T) {n : Nat} (hn : n ≤ 60) : ∃ f' d, (((kp_ob (hM C sc ar P) 38 11).bind fun _ => X12_layTried_F (hM C sc ar P) 38 (nI 0)).bind fun r3 => kp_lp (X12_pairs_B32 38 (nI n)) 2000 (nI 0, r3)) = some (nI (pN T n), hR C sc (va_up ar 7 d) P f') ∧ ∀ k, k < 1782 → f' k = ar 0 k := by
  have h999 := hT.2
  obtain ⟨f0, c1, c2, c3⟩ := m_layTried (C := C) (P := P) (sc := sc) (ar := ar) hC hA hT.1 (n := 0) (by omega) (by omega)
  rw [← hR_self] at c1
  have c2 : tA f0 1782 T := c2
  have e7 : va_up ar 7 (ar 7) = ar := by
    funext k
    unfold va_up
    split
    · rename_i e; rw [e]
    · rfl
  obtain ⟨F, F0, F1, F2⟩ := chain (α := (Nat → Int32) × (Nat → Int32)) (P := fun i x => tA x.1 1782 (tWn T i) ∧ (∀ k, k < 1782 → x.1 k = ar 0 k) ∧ ∀ k, k < 6 * i → x.2 k = nI (pD T k)) (R := fun i x y => X12_pairs_b32 38 (nI n) (nI i) (hR C sc (va_up ar 7 x.2) P x.1) = some (Sum.inl (nI (i + 1), hR C sc (va_up ar 7 y.2) P y.1))) (x0 := (f0, ar 7)) ⟨c2, c3, fun k hk => by omega⟩ n (fun i x hi hx => by
    obtain ⟨x1, x2, x3⟩ := hx
    have hok := tWn_ok hT.1 i (by omega)
    obtain ⟨y, p1, p2, p3⟩ := m_passAsTold (C := C) (P := P) (sc := sc) (ar := va_up ar 7 (fun q => if 6 * i ≤ q ∧ q < 6 * i + 6 then nI (pD T q) else x.2 q)) hC (b := 1782) (by omega) x1 hok
    refine ⟨(y, fun q => if 6 * i ≤ q ∧ q < 6 * i + 6 then nI (pD T q) else x.2 q), ?_, p2, fun k hk => (p3 k (by omega)).trans (x2 k hk), fun k hk => ?_⟩
    · unfold X12_pairs_b32
      rw [if_neg (fun z => by have := (q_le (show n < 2147483648 by omega) (show i < 2147483648 by omega)).mp z; omega)]
      have ex : x.2 = (fun q => if 6 * i ≤ q ∧ q < 6 * i + 0 then nI (pD T q) else x.2 q) := by
        funext q
        rw [if_neg (by omega)]
      show kp_lp (X12_pairs_B39 38 (nI n) (nI i)) 2000 (nI 0, hR C sc (va_up ar 7 x.2) P x.1) = _
      conv => lhs; rw [ex]
      refine lp_for (fun jj => (nI jj, hR C sc (va_up ar 7 (fun q => if 6 * i ≤ q ∧ q < 6 * i + jj then nI (pD T q) else x.2 q)) P x.1)) 6 _ (fun jj hjj => ?_) ?_ 2000 (by omega)
      · have ed := m_doersTried (C := C) (P := P) (sc := sc) (ar := va_up ar 7 (fun q => if 6 * i ≤ q ∧ q < 6 * i + jj then nI (pD T q) else x.2 q)) hC x1 hok hjj
        rw [tDs_cg hT.1 (fun k a b c d => tWn_c a b c d i), tWn_4 hT.1, tWn_5] at ed
        have ep : tDs T jj (tBn T i) (if i = 0 then T 5 else 0) = pD T (6 * i + jj) := by
          unfold pD
          rw [show (6 * i + jj) % 6 = jj by omega, show (6 * i + jj) / 6 = i by omega]
          rfl
        show X12_pairs_b39 _ _ _ _ _ = some (Sum.inl (nI (jj + 1), hR C sc (va_up ar 7 (fun q => if 6 * i ≤ q ∧ q < 6 * i + (jj + 1) then nI (pD T q) else x.2 q)) P x.1))
        unfold X12_pairs_b39
        rw [if_neg (fun z => by have := (q_le (show 6 < 2147483648 by decide) (show jj < 2147483648 by omega)).mp z; omega), r_r16 hC, Option.bind_some, r_ob hC, Option.bind_some, ed, Option.bind_some, q_mul, nI_add, r_st7 hC (by omega), Option.bind_some, nI_add, ep]
        have eu : upd (fun q => if 6 * i ≤ q ∧ q < 6 * i + jj then nI (pD T q) else x.2 q) (6 * i + jj) (nI (pD T (6 * i + jj))) = (fun q => if 6 * i ≤ q ∧ q < 6 * i + (jj + 1) then nI (pD T q) else x.2 q) := by
          funext q
          unfold upd
          by_cases e : q = 6 * i + jj
          · rw [if_pos e, if_pos (by omega), e]
          · rw [if_neg e]
            dsimp only
            by_cases e2 : 6 * i ≤ q ∧ q < 6 * i + jj
            · rw [if_pos e2, if_pos (by omega)]
            · rw [if_neg e2, if_neg (by omega)]
        rw [eu]
      · show X12_pairs_b39 _ _ _ _ _ = _
        unfold X12_pairs_b39
        rw [if_pos ((q_le (by omega) (by omega)).mpr (Nat.le_refl _))]
        unfold X12_pairs_J67
        show ((((kp_ob (hR C sc (va_up ar 7 (fun q => if 6 * i ≤ q ∧ q < 6 * i + 6 then nI (pD T q) else x.2 q)) P x.1) 38 11).bind fun _ => X12_passAsTold_F (hR C sc (va_up ar 7 (fun q => if 6 * i ≤ q ∧ q < 6 * i + 6 then nI (pD T q) else x.2 q)) P x.1) 38 (nI 1782)).bind fun r11 => some (Sum.inl (nI i + nI 1, r11))) : Option ((Int32 × kw_H) ⊕ (Int32 × kw_H))).map _ = _
        rw [r_ob hC, Option.bind_some, p1, nI_add]
        rfl
    · show (if 6 * i ≤ k ∧ k < 6 * i + 6 then nI (pD T k) else x.2 k) = _
      by_cases e : 6 * i ≤ k ∧ k < 6 * i + 6
      · rw [if_pos e]
      · rw [if_neg e]; exact x3 k (by omega))
  obtain ⟨g1, g2, g3⟩ := F1 n (Nat.le_refl _)
  refine ⟨(F n).1, (F n).2, ?_, g2⟩
  rw [m_ob hC, Option.bind_some, c1, Option.bind_some]
  rw [show hR C sc ar P f0 = hR C sc (va_up ar 7 (F 0).2) P (F 0).1 by rw [F0]; show _ = hR C sc (va_up ar 7 (ar 7)) P f0; rw [e7]]
  refine lp_for (fun i => (nI i, hR C sc (va_up ar 7 (F i).2) P (F i).1)) n _ (fun i hi => F2 i hi) ?_ 2000 (by omega)
  show X12_pairs_b32 _ _ _ _ = _
  unfold X12_pairs_b32
  rw [if_pos ((q_le (by omega) (by omega)).mpr (Nat.le_refl _))]
  unfold X12_pairs_J80
  have key : kp_lp (X12_pairs_B84 (hR C sc (va_up ar 7 (F n).2) P (F n).1) 38 (nI n)) 2000 (nI 0, nI 0) = some (nI (pN T n), hR C sc (va_up ar 7 (F n).2) P (F n).1) := by
    refine lp_for (fun p => (nI (q_sm (fun p => q_ct (pT T n p) p) p), nI p)) 6 _ (fun p hp6 => ?_) ?_ 2000 (by omega)
    · show X12_pairs_b84 _ _ _ _ _ = some (Sum.inl (nI (q_sm (fun p => q_ct (pT T n p) p) p + q_ct (pT T n p) p), nI (p + 1)))
      unfold X12_pairs_b84
      rw [if_neg (fun z => by have := (q_le (show 6 < 2147483648 by decide) (show p < 2147483648 by omega)).mp z; omega)]
      refine lp_for (fun q => (nI (q_sm (fun p => q_ct (pT T n p) p) p + q_ct (pT T n p) q), nI q)) p _ (fun q hq => ?_) ?_ 2000 (by omega)
      · show X12_pairs_b93 _ _ _ _ _ _ = some (Sum.inl (nI (q_sm (fun p => q_ct (pT T n p) p) p + (q_ct (pT T n p) q + b2 (pT T n p q))), nI (q + 1)))
        unfold X12_pairs_b93 X12_pairs_J116
        rw [if_neg (fun z => by have := (q_le (show p < 2147483648 by omega) (show q < 2147483648 by omega)).mp z; omega), r_ob hC, Option.bind_some, m_areTog hC hT.1 hn hp6 (by omega) g3, Option.bind_some, nI_add]
        cases pT T n p q
        · rw [if_pos (show nI (b2 false) = 0 from e00), nI_add]
          rfl
        · rw [if_neg (show ¬ nI (b2 true) = 0 from e10)]
          simp only [nI_add]
          rfl
      · show X12_pairs_b93 _ _ _ _ _ _ = _
        unfold X12_pairs_b93
        rw [if_pos ((q_le (by omega) (by omega)).mpr (Nat.le_refl _))]
        unfold X12_pairs_J124
        rw [nI_add]
        rfl
    · show X12_pairs_b84 _ _ _ _ _ = _
      unfold X12_pairs_b84
      rw [if_pos ((q_le (by omega) (by omega)).mpr (Nat.le_refl _))]
      rfl
  show (kp_lp (X12_pairs_B84 (hR C sc (va_up ar 7 (F n).2) P (F n).1) 38 (nI n)) 2000 (nI 0, nI 0)).map _ = _
  rw [key]
  rfl
end MPairs
theorem ag_pairs : lx_ag_pairs Inv := by
  intro j hp h hj a1
  have hM0 := Inv_M h
  have hS := Inv_S _ _ h
  obtain ⟨ks, ka, kl, kr, sc, ar, T, n, o, A, h⟩ := h
  obtain ⟨C, P, hC, rfl⟩ := MV_ex h.2.1
  have hth := IV_there h
  obtain ⟨⟨v, nm, jb, tu, tm, k1, k2, k3, k4⟩, hA, -⟩ := id h.2.2.2.2.2.2.2.1
  rcases hth with ⟨hT, s1, e1⟩ | ⟨-, s1, e1⟩
  case inr =>
    refine ⟨-1000002, _, _, ?_, hM0, ?_, hS⟩
    · unfold X11_pairs_F
      simp only [c0_r2 h.1, kc_ob k1, Option.bind_some, e1, if_pos e00]
    · unfold X12_pairs_F
      simp only [m_g1 hC, Option.bind_some, s1, if_pos e00]
  rcases w_spN a1 (a := 1) (b := 60) (by decide) (by decide) with ⟨m, rfl, hm0, hm, b1⟩ | b1
  case inr =>
    refine ⟨-1000001, _, _, ?_, hM0, ?_, hS⟩
    · unfold X11_pairs_F
      simp only [c0_r2 h.1, kc_ob k1, Option.bind_some, e1, if_neg e10, b1, if_pos e00]
    · unfold X12_pairs_F
      simp only [m_g1 hC, Option.bind_some, s1, if_neg e10, l_n 1 (by decide), l_n 60 (by decide), l_in, b1, if_pos e00]
  obtain ⟨f, ef0⟩ := c_pairs h.1 k1 k2 k3 hT hm
  have ef : X11_pairs_F (hM C sc ar P) 0 (nI m) = some (nI (pN T m), S31 (hM C sc ar P) f) := by
    unfold X11_pairs_F
    simp only [c0_r2 h.1, c0_r3 h.1, kc_ob k1, c25_ob h.1, Option.bind_some, e1, if_neg e10, b1, ef0]
  obtain ⟨C2, P2, hC2, eS⟩ := MV_ex (MV_f (hp' := S31 (hM C sc ar P) f) h.2.1 (fun q hq => S31_o f (by omega)))
  obtain ⟨f', d, m1, m2⟩ := m_pairs (C := C2) (P := P2) (sc := sc) hC2 hA hT hm
  have cv2 := S31_CV h.1 f
  rw [eS] at ef cv2
  refine ⟨_, hM C2 sc ar P2, hR C2 sc (va_up ar 7 d) P2 f', ef, hM_38 hC2, ?_, IV_scr h hC2 cv2 (by rw [← eS]; exact S31_len f) (fun q hq => by rw [← eS]; exact S31_o f (by omega)) (fun k hk => m2 k hk) (fun i h1 h2 => by rw [up_ne _ _ (by omega), up_ne _ _ (by omega)])⟩
  unfold X12_pairs_F
  simp only [m_g1 hC2, Option.bind_some, s1, if_neg e10, l_n 1 (by decide), l_n 60 (by decide), l_in, b1]
  simp only [m_ob hC2, Option.bind_some] at m1 ⊢
  exact m1
