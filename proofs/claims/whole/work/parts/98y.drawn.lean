/-! ===== drawn ===== -/
theorem q_remL {a b : Nat} (ha : a < 2 ^ 63) (h0 : 0 < b) (hb : b < 2 ^ 63) : kp_remL (lN a) (lN b) = some (lN (a % b)) := by
  unfold kp_remL
  rw [if_neg (fun z => by
    have z : lN b = lN 0 := z
    rw [pk_lEQ hb (by omega)] at z
    omega), pk_lRem ha h0 hb]
/-- the numbers drawn -/
def dN (seed : Nat) : Nat → Nat
  | 0 => seed
  | i + 1 => dN seed i * 16807 % 2147483647
theorem dN_lt {seed : Nat} (h : seed < 2147483647) : ∀ i, dN seed i < 2147483647
  | 0 => h
  | i + 1 => Nat.mod_lt _ (by omega)
theorem dN_rem {seed : Nat} (h : seed < 2147483647) (i : Nat) : kp_remL (lN (dN seed i) * lN 16807) (lN 2147483647) = some (lN (dN seed (i + 1))) := by
  have := dN_lt h i
  rw [lN_mul, q_remL (by omega) (by omega) (by omega)]
  rfl
theorem dN_rem6 {seed : Nat} (h : seed < 2147483647) (i : Nat) : kp_remL (lN (dN seed i)) (lN 6) = some (lN (dN seed i % 6)) := by
  have := dN_lt h i
  rw [q_remL (by omega) (by omega) (by omega)]
/-- who is away in the week i, one of them drawn -/
def dA (T : Tw) (seed i : Nat) : Nat := tAw T i ||| 2 ^ (dN seed (i + 1) % 6)
theorem dA_lt {T : Tw} (hT : tOk T) (seed i : Nat) : dA T seed i < 64 :=
  Nat.or_lt_two_pow (n := 6) (tAw_lt hT i) (Nat.pow_lt_pow_right (by omega) (Nat.mod_lt _ (by omega)))
def dC (T : Tw) (seed n p : Nat) : Nat := q_sm (fun i => tCt T (tBn T i) (dA T seed i) p) n
theorem c_drawn {hp : kw_H} {ks ka : Nat → Nat → Int32} {kl : Nat → Nat → Int64} {kr : Nat → Nat → Option Nat} {v nm jb tm : Nat → Int32} {tu : Nat → Option Nat} {T : Tw} (h : CV hp ks ka kl kr) (k1 : KC hp 20 v nm jb tu tm) (hV : KV v nm jb tm T) (k3 : TU hp tu T) (hT : tReal T) {n seed : Nat} (hn : n ≤ 60) (hs : seed ≤ 999999) : ∃ f, X1_doneByDraws_F hp 25 20 (nI n) (nI seed) = some (nI (q_sm (dC T seed n) 6), S31 hp f) := by
  have h999 := hT.2
  have h18 := hT.1.2.1
  refine ⟨zf (ka 31) (dC T seed n), ?_⟩
  unfold X1_doneByDraws_F
  rw [c25_r1 h, Option.bind_some, S31_fill h, Option.bind_some, kc_g8 (S31_KC k1 (by omega) _), Option.bind_some, hV.1 4 (by omega), nI_l (by omega)]
  refine lp_for (fun i => (lN (dN seed i), nI (tBn T i), nI i, S31 hp (zf (ka 31) (dC T seed i)))) n _ (fun i hi => ?_) ?_ 2000 (by omega)
  · have hbn := tBn_lt hT.1 i
    have kS := S31_KC k1 (by omega) (zf (ka 31) (dC T seed i))
    have cS := S31_CV h (zf (ka 31) (dC T seed i))
    have kS2 := S31_KC k1 (by omega) (zf (ka 31) (fun p => dC T seed i p + tCt T (tBn T i) (dA T seed i) p))
    have tS2 := S31_TU h k3 (zf (ka 31) (fun p => dC T seed i p + tCt T (tBn T i) (dA T seed i) p))
    have ea : X2_awayBehind_F (S31 hp (zf (ka 31) (dC T seed i))) 20 (nI i) = some (nI (tAw T i)) := c_awayBehind kS hV (by omega)
    have eo : nI (tAw T i) ||| (nI 1 <<< (Int64.toInt32 (lN (dN seed (i + 1) % 6)) &&& 31)) = nI (dA T seed i) := by
      rw [lN_i]
      exact q_or (tAw_lt hT.1 i) (Nat.mod_lt _ (by omega))
    show X1_doneByDraws_b21 _ _ _ _ _ _ _ = some (Sum.inl (lN (dN seed (i + 1)), nI (tN T (tBn T i) (T 3 + i)), nI (i + 1), S31 hp (zf (ka 31) (fun p => dC T seed i p + tCt T (tBn T i) (dA T seed i) p))))
    unfold X1_doneByDraws_b21
    rw [if_neg (fun z => by have := (q_le (show n < 2147483648 by omega) (show i < 2147483648 by omega)).mp z; omega)]
    simp only [dN_rem (show seed < 2147483647 by omega), dN_rem6 (show seed < 2147483647 by omega), Option.bind_some, kc_ob kS, ea, eo, c25_ob cS, c_countWeek h k1 (show 20 + 5 ≤ 31 ∨ 32 ≤ 20 by omega) hV hT.1 (show tBn T i ≤ 1000 by omega) (dA_lt hT.1 seed i), kc_g7 kS2, kc_ob kS2, hV.1 3 (show 3 < 6 by omega), nI_add, c_turnedNext kS2 hV hT.1 tS2 (show tBn T i ≤ 1000 by omega) (show T 3 + i ≤ 2000 by omega)]
  · have cS := S31_CV h (zf (ka 31) (dC T seed n))
    show X1_doneByDraws_b21 _ _ _ _ _ _ _ = _
    unfold X1_doneByDraws_b21
    rw [if_pos ((q_le (by omega) (by omega)).mpr (Nat.le_refl _))]
    unfold X1_doneByDraws_J83
    have key : kp_lp (X1_doneByDraws_B89 (S31 hp (zf (ka 31) (dC T seed n))) 25) 2000 (nI 0, nI 0) = some (nI (q_sm (dC T seed n) 6), S31 hp (zf (ka 31) (dC T seed n))) := by
      refine lp_for (fun k => (nI (q_sm (dC T seed n) k), nI k)) 6 _ (fun k hk => ?_) ?_ 2000 (by omega)
      · show X1_doneByDraws_b89 _ _ _ _ = some (Sum.inl (nI (q_sm (dC T seed n) k + dC T seed n k), nI (k + 1)))
        unfold X1_doneByDraws_b89
        rw [if_neg (fun z => by have := (q_le (show 6 < 2147483648 by decide) (show k < 2147483648 by omega)).mp z; omega), c25_r1 cS, Option.bind_some, S31_ld h hk, Option.bind_some, zf_at hk, nI_add, nI_add]
      · show X1_doneByDraws_b89 _ _ _ _ = _
        unfold X1_doneByDraws_b89
        rw [if_pos ((q_le (by omega) (by omega)).mpr (Nat.le_refl _))]
        rfl
    show (kp_lp (X1_doneByDraws_B89 (S31 hp (zf (ka 31) (dC T seed n))) 25) 2000 (nI 0, nI 0)).map _ = _
    rw [key]
    rfl
/-- the town behind n weeks with draws -/
def tDn (T : Tw) (seed : Nat) : Nat → Tw
  | 0 => T
  | i + 1 => tW (va_up (tDn T seed i) 5 (tDn T seed i 5 ||| 2 ^ (dN seed (i + 1) % 6)))
theorem tDn_c {T : Tw} {seed k : Nat} (h : k < 30) (h3 : k ≠ 3) (h4 : k ≠ 4) (h5 : k ≠ 5) : ∀ n, tDn T seed n k = T k
  | 0 => rfl
  | n + 1 => by
    have e : tW (va_up (tDn T seed n) 5 (tDn T seed n 5 ||| 2 ^ (dN seed (n + 1) % 6))) k = va_up (tDn T seed n) 5 (tDn T seed n 5 ||| 2 ^ (dN seed (n + 1) % 6)) k := tWn_c h h3 h4 h5 1
    exact e.trans ((up_ne _ _ h5).trans (tDn_c h h3 h4 h5 n))
theorem tDn_3 (T : Tw) (seed : Nat) : ∀ n, tDn T seed n 3 = T 3 + n
  | 0 => rfl
  | n + 1 => by
    show tDn T seed n 3 + 1 = _
    rw [tDn_3 T seed n]
    omega
theorem tDn_5 (T : Tw) (seed : Nat) : ∀ n, tDn T seed n 5 = tAw T n
  | 0 => rfl
  | _ + 1 => rfl
theorem tDn_4 {T : Tw} (hT : tOk T) (seed : Nat) : ∀ n, tDn T seed n 4 = tBn T n
  | 0 => rfl
  | n + 1 => by
    have hm := Nat.mod_lt (T 3 + n) (show 0 < T 2 by have := hT.2.2.1; omega)
    have h2 := hT.2.2.1
    show ((tDn T seed n 4 + tH (va_up (tDn T seed n) 5 _ (22 + tDn T seed n 3 % tDn T seed n 2)) (va_up (tDn T seed n) 5 _ (26 + tDn T seed n 3 % tDn T seed n 2)) (tDn T seed n 3)) % (tDn T seed n 1 : Nat)).toNat = ((tBn T n + tH (T (22 + (T 3 + n) % T 2)) (T (26 + (T 3 + n) % T 2)) (T 3 + n)) % (T 1 : Nat)).toNat
    rw [up_ne _ _ (by omega), up_ne _ _ (by omega), tDn_4 hT seed n, tDn_3, tDn_c (by omega) (by omega) (by omega) (by omega) n (k := 2), tDn_c (by omega) (by omega) (by omega) (by omega) n (k := 1), tDn_c (by omega) (by omega) (by omega) (by omega) n (k := 22 + (T 3 + n) % T 2), tDn_c (by omega) (by omega) (by omega) (by omega) n (k := 26 + (T 3 + n) % T 2)]
theorem up5_ok {T : Tw} (hT : tOk T) {x : Nat} (hx : x < 64) : tOk (va_up T 5 x) :=
  tOk_cg hT rfl rfl rfl rfl hT.2.2.2.2.1 hx (fun k hk => by rw [up_ne _ _ (by omega)]; exact hT.2.2.2.2.2.2.1 k hk) (fun k hk => by rw [up_ne _ _ (by omega)]; exact hT.2.2.2.2.2.2.2.1 k hk) (fun k hk => up_ne _ _ (by omega))
theorem tDn_ok {T : Tw} (hT : tOk T) (seed : Nat) : ∀ n, T 3 + n ≤ 2000 → tOk (tDn T seed n)
  | 0, _ => hT
  | n + 1, h => tP_ok (up5_ok (tDn_ok hT seed n (by omega)) (by rw [tDn_5]; exact dA_lt hT seed n)) (by
      show tDn T seed n 3 + 1 ≤ 2000
      rw [tDn_3]; omega)
theorem tDn_S {T : Tw} (hT : tOk T) (seed : Nat) {p : Nat} (hp6 : p < 6) : ∀ n, T 3 + n ≤ 2000 → tS (tDn T seed n) p = tS T p + dC T seed n p
  | 0, _ => rfl
  | n + 1, h => by
    have hok := tDn_ok hT seed n (by omega)
    show tS (tP (va_up (tDn T seed n) 5 (tDn T seed n 5 ||| 2 ^ (dN seed (n + 1) % 6))) _) p = tS T p + (dC T seed n p + tCt T (tBn T n) (dA T seed n) p)
    rw [tDn_5]
    have hok2 := up5_ok hok (dA_lt hT seed n)
    have e1 : tS (va_up (tDn T seed n) 5 (dA T seed n)) p = tS (tDn T seed n) p := by
      unfold tS
      exact q_sm_cg 6 (fun k hk => up_ne _ _ (by omega))
    have e2 : tCt (va_up (tDn T seed n) 5 (dA T seed n)) (tDn T seed n 4) (dA T seed n) p = tCt T (tBn T n) (dA T seed n) p := by
      rw [tCt_cg hT (fun k a b c d => (up_ne _ _ d).trans (tDn_c a b c d n)), tDn_4 hT]
    have := tS_pass hok2 (tFar (va_up (tDn T seed n) 5 (dA T seed n))) hp6
    have e3 : va_up (tDn T seed n) 5 (dA T seed n) 4 = tDn T seed n 4 := rfl
    have e4 : va_up (tDn T seed n) 5 (dA T seed n) 5 = dA T seed n := rfl
    rw [e1, e3, e4, e2, tDn_S hT seed hp6 n (by omega)] at this
    show tS (tP (va_up (tDn T seed n) 5 (dA T seed n)) (tFar (va_up (tDn T seed n) 5 (dA T seed n)))) p = _
    rw [this]
    omega
theorem m_drawn {C P : kw_H} {sc : Nat → Int32} {ar : Nat → Nat → Int32} {T : Tw} (hC : C.length = 38) (hA : tA (ar 0) 0 T) (hT : tReal T) {n seed w : Nat} (hn : n ≤ 60) (hs : seed ≤ 999999) (hw : w ≤ 1) : ∃ f', (((kp_ob (hM C sc ar P) 38 11).bind fun _ => X12_copyTown_F (hM C sc ar P) 38 (nI 0) (nI 1782)).bind fun r5 => kp_lp (X12_drawn_B62 38 (nI n) (nI w)) 2000 (Int32.toInt64 (nI seed), nI 0, r5)) = some (if w = 0 then nI (q_sm (dC T seed n) 6) else nI (tBn T n), hR C sc ar P f') ∧ ∀ k, k < 1782 → f' k = ar 0 k := by
  have h999 := hT.2
  obtain ⟨f0, c1, c2, c3⟩ := m_copyTown (C := C) (P := P) (sc := sc) (ar := ar) (f := ar 0) hC (a := 0) (b := 1782) (by omega) (by omega) (by omega)
  rw [← hR_self] at c1
  have a0 : tA f0 1782 T := fun k hk => by rw [c2 k hk]; exact hA k hk
  obtain ⟨F, F0, F1, F2⟩ := chain (α := Nat → Int32) (P := fun i x => tA x 1782 (tDn T seed i) ∧ ∀ k, k < 1782 → x k = ar 0 k) (R := fun i x y => X12_passAsTold_F (hR C sc ar P (upd x 1787 (nI (dA T seed i)))) 38 (nI 1782) = some (hR C sc ar P y)) (x0 := f0) ⟨a0, fun k hk => c3 k (by omega)⟩ n (fun i x hi hx => by
    have hok := tDn_ok hT.1 seed i (by omega)
    have ax : tA (upd x 1787 (nI (dA T seed i))) 1782 (va_up (tDn T seed i) 5 (dA T seed i)) := fun k hk => by
      by_cases e : k = 5
      · subst e; rw [pk_us, up_at]
      · rw [pk_un (by omega), up_ne _ _ e]; exact hx.1 k hk
    obtain ⟨y, p1, p2, p3⟩ := m_passAsTold (C := C) (P := P) (sc := sc) (ar := ar) hC (b := 1782) (by omega) ax (up5_ok hok (dA_lt hT.1 seed i))
    refine ⟨y, p1, ?_, fun k hk => by rw [p3 k (by omega), pk_un (by omega)]; exact hx.2 k hk⟩
    show tA y 1782 (tW (va_up (tDn T seed i) 5 (tDn T seed i 5 ||| 2 ^ (dN seed (i + 1) % 6))))
    rw [tDn_5]
    exact p2)
  obtain ⟨g1, g2⟩ := F1 n (Nat.le_refl _)
  refine ⟨F n, ?_, g2⟩
  rw [m_ob hC, Option.bind_some, c1, Option.bind_some, nI_l (by omega), ← F0]
  refine lp_for (fun i => (lN (dN seed i), nI i, hR C sc ar P (F i))) n _ (fun i hi => ?_) ?_ 2000 (by omega)
  · have e5 : F i 1787 = nI (tAw T i) := by
      rw [← tDn_5 T seed i]
      exact (F1 i (by omega)).1 5 (by omega)
    have eo : nI (tAw T i) ||| (nI 1 <<< (Int64.toInt32 (lN (dN seed (i + 1) % 6)) &&& 31)) = nI (dA T seed i) := by
      rw [lN_i]
      exact q_or (tAw_lt hT.1 i) (Nat.mod_lt _ (by omega))
    show X12_drawn_b62 _ _ _ _ _ _ = some (Sum.inl (lN (dN seed (i + 1)), nI (i + 1), hR C sc ar P (F (i + 1))))
    unfold X12_drawn_b62
    rw [if_neg (fun z => by have := (q_le (show n < 2147483648 by omega) (show i < 2147483648 by omega)).mp z; omega)]
    simp only [dN_rem (show seed < 2147483647 by omega), dN_rem6 (show seed < 2147483647 by omega), Option.bind_some, r_r0 hC, r_ld hC (show 1787 < 1848 by omega), e5, eo, r_st hC (show 1787 < 1848 by omega), r_ob hC, F2 i hi, nI_add]
  · show X12_drawn_b62 _ _ _ _ _ _ = _
    unfold X12_drawn_b62
    rw [if_pos ((q_le (by omega) (by omega)).mpr (Nat.le_refl _))]
    unfold X12_drawn_J113
    have hA0 : tA (F n) 0 T := fun k hk => by rw [g2 _ (by omega)]; exact hA k hk
    rcases (show w = 0 ∨ w = 1 by omega) with rfl | rfl
    · have eS : tSA (tDn T seed n) = tSA T + q_sm (dC T seed n) 6 := by
        unfold tSA
        rw [← q_sm_add]
        exact q_sm_cg 6 (fun p hp6 => tDn_S hT.1 seed hp6 n (by omega))
      rw [if_pos e00, r_ob hC, Option.bind_some, m_doneInAll hC (by omega) g1, Option.bind_some, Option.bind_some, m_doneInAll hC (by omega) hA0, Option.bind_some, eS, q_sub]
      rfl
    · have e4 : F n 1786 = nI (tBn T n) := by
        rw [← tDn_4 hT.1 seed n]
        exact g1 4 (by omega)
      rw [if_neg e10, r_r0 hC, Option.bind_some, r_ld hC (by omega), Option.bind_some, e4]
      rfl
theorem ag_drawn : lx_ag_drawn Inv := by
  intro j hp h hj a1 a2 a3
  have hM0 := Inv_M h
  have hS := Inv_S _ _ h
  obtain ⟨ks, ka, kl, kr, sc, ar, T, n, o, A, h⟩ := h
  obtain ⟨C, P, hC, rfl⟩ := MV_ex h.2.1
  have hth := IV_there h
  obtain ⟨⟨v, nm, jb, tu, tm, k1, k2, k3, k4⟩, hA, -⟩ := id h.2.2.2.2.2.2.2.1
  rcases hth with ⟨hT, s1, e1⟩ | ⟨-, s1, e1⟩
  case inr =>
    refine ⟨-1000002, _, _, ?_, hM0, ?_, hS⟩
    · unfold X11_drawn_F
      simp only [c0_r2 h.1, kc_ob k1, Option.bind_some, e1, if_pos e00]
    · unfold X12_drawn_F
      simp only [m_g1 hC, Option.bind_some, s1, if_pos e00]
  rcases w_spN a1 (a := 0) (b := 60) (by decide) (by decide) with ⟨m, rfl, hm0, hm, b1⟩ | b1
  case inr =>
    refine ⟨-1000001, _, _, ?_, hM0, ?_, hS⟩
    · unfold X11_drawn_F
      simp only [c0_r2 h.1, kc_ob k1, Option.bind_some, e1, if_neg e10, b1, if_pos e00]
    · unfold X12_drawn_F
      simp only [m_g1 hC, Option.bind_some, s1, if_neg e10, l_n 0 (by decide), l_n 60 (by decide), l_in, b1, if_pos e00]
  rcases w_spN a2 (a := 1) (b := 999999) (by decide) (by decide) with ⟨sd, rfl, hs0, hs, b2'⟩ | b2'
  case inr =>
    refine ⟨-1000001, _, _, ?_, hM0, ?_, hS⟩
    · unfold X11_drawn_F
      simp only [c0_r2 h.1, kc_ob k1, Option.bind_some, e1, if_neg e10, b1, b2', if_pos e00]
    · unfold X12_drawn_F
      simp only [m_g1 hC, Option.bind_some, s1, if_neg e10, l_n 0 (by decide), l_n 60 (by decide), l_n 1 (by decide), l_n 999999 (by decide), l_in, b1, b2', if_pos e00]
  rcases w_spN a3 (a := 0) (b := 1) (by decide) (by decide) with ⟨w, rfl, -, hw, b3⟩ | b3
  case inr =>
    refine ⟨-1000001, _, _, ?_, hM0, ?_, hS⟩
    · unfold X11_drawn_F
      simp only [c0_r2 h.1, kc_ob k1, Option.bind_some, e1, if_neg e10, b1, b2', b3, if_pos e00]
    · unfold X12_drawn_F
      simp only [m_g1 hC, Option.bind_some, s1, if_neg e10, l_n 0 (by decide), l_n 60 (by decide), l_n 1 (by decide), l_n 999999 (by decide), l_in, b1, b2', b3, if_pos e00]
  have h999 := hT.2
  have key : ∃ f, X11_drawn_F (hM C sc ar P) 0 (nI m) (nI sd) (nI w) = some (if w = 0 then nI (q_sm (dC T sd m) 6) else nI (tBn T m), S31 (hM C sc ar P) f) := by
    rcases (show w = 0 ∨ w = 1 by omega) with rfl | rfl
    · obtain ⟨f, ef⟩ := c_drawn h.1 k1 k2 k3 hT hm hs
      refine ⟨f, ?_⟩
      unfold X11_drawn_F
      simp only [c0_r2 h.1, c0_r3 h.1, kc_ob k1, c25_ob h.1, Option.bind_some, e1, if_neg e10, b1, b2', b3, if_pos e00, ef]
      rfl
    · refine ⟨ka 31, ?_⟩
      have es : S31 (hM C sc ar P) (ka 31) = hM C sc ar P := set_same (cv31 h.1)
      rw [es]
      unfold X11_drawn_F
      simp only [c0_r2 h.1, kc_ob k1, Option.bind_some, e1, if_neg e10, b1, b2', b3, c_turnedBehind k1 k2 hT.1 k3 (show T 3 + m ≤ 2000 by omega) (show m < 2000 by omega)]
      rfl
  obtain ⟨f, ef⟩ := key
  obtain ⟨C2, P2, hC2, eS⟩ := MV_ex (MV_f (hp' := S31 (hM C sc ar P) f) h.2.1 (fun q hq => S31_o f (by omega)))
  obtain ⟨f', m1, m2⟩ := m_drawn (C := C2) (P := P2) (sc := sc) hC2 hA hT hm hs hw
  have cv2 := S31_CV h.1 f
  rw [eS] at ef cv2
  refine ⟨_, hM C2 sc ar P2, hR C2 sc ar P2 f', ef, hM_38 hC2, ?_, IV_scr h hC2 cv2 (by rw [← eS]; exact S31_len f) (fun q hq => by rw [← eS]; exact S31_o f (by omega)) (fun k hk => m2 k hk) (fun i h1 h2 => up_ne _ _ (by omega))⟩
  unfold X12_drawn_F
  simp only [m_g1 hC2, Option.bind_some, s1, if_neg e10, l_n 0 (by decide), l_n 60 (by decide), l_n 1 (by decide), l_n 999999 (by decide), l_in, b1, b2', b3]
  simp only [m_ob hC2, Option.bind_some] at m1 ⊢
  exact m1
