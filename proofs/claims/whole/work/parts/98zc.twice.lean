/-! ===== twice ===== -/
def sC (T : Tw) (n p : Nat) : Nat := q_sm (fun i => tCt T (tBn T i) (tAw T i) p) n
theorem sC_le {T : Tw} (hT : tOk T) (n p : Nat) : sC T n p ≤ n * 8 := q_sm_le n (fun k _ => tCt_le hT _ _ _)
def sS (T : Tw) (n : Nat) : Nat := tSp (sC T n) (tOn T 6 (T 0))
theorem sS_le {T : Tw} (hT : tOk T) {n : Nat} (hn : n ≤ 60) : sS T n ≤ 480 := by
  unfold sS
  exact tSp_le (by omega) (fun p _ => by have := sC_le hT n p; omega)
theorem tWn_S {T : Tw} (hT : tOk T) {p : Nat} (hp6 : p < 6) : ∀ n, T 3 + n ≤ 2000 → tS (tWn T n) p = tS T p + sC T n p
  | 0, _ => rfl
  | n + 1, h => by
    show tS (tP (tWn T n) _) p = tS T p + (sC T n p + tCt T (tBn T n) (tAw T n) p)
    rw [tS_pass (tWn_ok hT n (by omega)) _ hp6, tWn_S hT hp6 n (by omega), tWn_4 hT, tWn_5, tCt_cg hT (fun k a b c d => tWn_c a b c d n)]
    show _ + tCt T (tBn T n) (tAw T n) p = _
    omega
theorem first_e (c : Nat → Bool) : ∀ n, ∃ e, e ≤ n ∧ (∀ i, i < e → c i = false) ∧ (e = n ∨ (e < n ∧ c e = true))
  | 0 => ⟨0, Nat.le_refl _, fun i hi => by omega, Or.inl rfl⟩
  | n + 1 => by
    obtain ⟨e, h1, h2, h3⟩ := first_e c n
    rcases h3 with rfl | h3
    · cases hc : c e with
      | true => exact ⟨e, by omega, h2, Or.inr ⟨by omega, hc⟩⟩
      | false =>
        refine ⟨e + 1, Nat.le_refl _, fun i hi => ?_, Or.inl rfl⟩
        by_cases z : i = e
        · rw [z]; exact hc
        · exact h2 i (by omega)
    · exact ⟨e, by omega, h2, Or.inr ⟨by omega, h3.2⟩⟩
theorem c_spreadAs {hp : kw_H} {ks ka : Nat → Nat → Int32} {kl : Nat → Nat → Int64} {kr : Nat → Nat → Option Nat} {T : Tw} (h : CV hp ks ka kl kr) (hK : KB hp 26 T) (hT : tReal T) {n : Nat} (hn : n ≤ 60) : ∃ f, X1_spreadAsTurned_F hp 25 26 (nI n) = some (nI (sS T n), S31 hp f) := by
  obtain ⟨v, nm, jb, tu, tm, k1, hV, k3, -⟩ := hK
  have h999 := hT.2
  have h18 := hT.1.2.1
  have g1 := tOn_lt (T := T) (b := 6) (n := T 0) hT.1.2.2.2.2.2.2.1
  refine ⟨zf (ka 31) (sC T n), ?_⟩
  unfold X1_spreadAsTurned_F
  rw [c25_r1 h, Option.bind_some, S31_fill h, Option.bind_some, kc_g8 (S31_KC k1 (by omega) _), Option.bind_some, hV.1 4 (by omega)]
  refine lp_for (fun i => (nI (tBn T i), nI i, S31 hp (zf (ka 31) (sC T i)))) n _ (fun i hi => ?_) ?_ 2000 (by omega)
  · have hbn := tBn_lt hT.1 i
    have kS := S31_KC k1 (by omega) (zf (ka 31) (sC T i))
    have cS := S31_CV h (zf (ka 31) (sC T i))
    have kS2 := S31_KC k1 (by omega) (zf (ka 31) (fun p => sC T i p + tCt T (tBn T i) (tAw T i) p))
    have tS2 := S31_TU h k3 (zf (ka 31) (fun p => sC T i p + tCt T (tBn T i) (tAw T i) p))
    have ea : X2_awayBehind_F (S31 hp (zf (ka 31) (sC T i))) 26 (nI i) = some (nI (tAw T i)) := c_awayBehind kS hV (by omega)
    show X1_spreadAsTurned_b16 _ _ _ _ _ _ = some (Sum.inl (nI (tN T (tBn T i) (T 3 + i)), nI (i + 1), S31 hp (zf (ka 31) (fun p => sC T i p + tCt T (tBn T i) (tAw T i) p))))
    unfold X1_spreadAsTurned_b16
    rw [if_neg (fun z => by have := (q_le (show n < 2147483648 by omega) (show i < 2147483648 by omega)).mp z; omega)]
    simp only [Option.bind_some, kc_ob kS, ea, c25_ob cS, c_countWeek h k1 (show 26 + 5 ≤ 31 ∨ 32 ≤ 26 by omega) hV hT.1 (show tBn T i ≤ 1000 by omega) (tAw_lt hT.1 i), kc_g7 kS2, kc_ob kS2, hV.1 3 (show 3 < 6 by omega), nI_add, c_turnedNext kS2 hV hT.1 tS2 (show tBn T i ≤ 1000 by omega) (show T 3 + i ≤ 2000 by omega)]
  · have kS := S31_KC k1 (by omega) (zf (ka 31) (sC T n))
    have cS := S31_CV h (zf (ka 31) (sC T n))
    show X1_spreadAsTurned_b16 _ _ _ _ _ _ = _
    unfold X1_spreadAsTurned_b16
    rw [if_pos ((q_le (by omega) (by omega)).mpr (Nat.le_refl _))]
    unfold X1_spreadAsTurned_J53
    rw [kc_ob kS, Option.bind_some, c_peopleOnIt kS hV hT.1, Option.bind_some, c25_ob cS, Option.bind_some, c_spreadOver h g1 (B := 480) (by omega) (fun p _ => by have := sC_le hT.1 n p; omega)]
    rfl
/-- the best of 0 to k, and its spread -/
def uB (S : Nat → Nat) : Nat → Nat × Nat
  | 0 => (0, S 0)
  | k + 1 => if (uB S k).2 ≤ S (k + 1) then uB S k else (k + 1, S (k + 1))
theorem uB_le {S : Nat → Nat} {B : Nat} (h : ∀ k, S k ≤ B) : ∀ k, (uB S k).2 ≤ B
  | 0 => h 0
  | k + 1 => by
    unfold uB
    split
    · exact uB_le h k
    · exact h _
def uR (S : Nat → Nat) (d : Int32) : Nat → Int32 × Int32
  | 0 => (d, nI 1000000)
  | k + 1 => (nI (uB S k).1, nI (uB S k).2)
theorem uR_step {S : Nat → Nat} (h : ∀ k, S k ≤ 480) (d : Int32) (p : Nat) : uR S d (p + 1) = if (uR S d p).2 ≤ nI (S p) then uR S d p else (nI p, nI (S p)) := by
  have hp := h p
  cases p with
  | zero =>
    have : ¬ ((uR S d 0).2 ≤ nI (S 0)) := fun z => by have := (q_le (show 1000000 < 2147483648 by decide) (show S 0 < 2147483648 by omega)).mp z; omega
    rw [if_neg this]
    rfl
  | succ m =>
    have z1 := uB_le h m
    show (nI (if (uB S m).2 ≤ S (m + 1) then uB S m else (m + 1, S (m + 1))).1, nI (if (uB S m).2 ≤ S (m + 1) then uB S m else (m + 1, S (m + 1))).2) = if nI (uB S m).2 ≤ nI (S (m + 1)) then (nI (uB S m).1, nI (uB S m).2) else (nI (m + 1), nI (S (m + 1)))
    by_cases e : (uB S m).2 ≤ S (m + 1)
    · rw [if_pos e, if_pos ((q_le (by omega) (by omega)).mpr e)]
    · rw [if_neg e, if_neg (fun z => e ((q_le (by omega) (by omega)).mp z))]
/-- the town with the name p in the slot e -/
def tNm (T : Tw) (e p : Nat) : Tw := va_up T (6 + e) p
theorem tNm_real {T : Tw} (hT : tReal T) {e p : Nat} (he : e < T 0) (hp6 : p ≤ 6) : tReal (tNm T e p) := by
  have h0 := hT.1.1
  refine ⟨tOk_cg hT.1 (up_ne _ _ (by omega)) (up_ne _ _ (by omega)) (up_ne _ _ (by omega)) (up_ne _ _ (by omega)) ?_ ?_ (fun k hk => ?_) (fun k hk => ?_) (fun k hk => up_ne _ _ (by omega)), ?_⟩
  · unfold tNm; rw [up_ne _ _ (by omega)]; exact hT.1.2.2.2.2.1
  · unfold tNm; rw [up_ne _ _ (by omega)]; exact hT.1.2.2.2.2.2.1
  · have := hT.1.2.2.2.2.2.2.1 k hk
    unfold tNm va_up
    split <;> omega
  · unfold tNm; rw [up_ne _ _ (by omega)]; exact hT.1.2.2.2.2.2.2.2.1 k hk
  · unfold tNm; rw [up_ne _ _ (by omega)]; exact hT.2
def tTw (T : Tw) (e p : Nat) : Nat := if p < 6 then sS (tNm T e p) 12 else 0
theorem tTw_le {T : Tw} (hT : tReal T) {e : Nat} (he : e < T 0) (p : Nat) : tTw T e p ≤ 480 := by
  unfold tTw
  split
  · exact sS_le (tNm_real hT he (by omega)).1 (by omega)
  · omega
theorem c_twice {hp H : kw_H} {ks ka ksH kaH : Nat → Nat → Int32} {kl klH : Nat → Nat → Int64} {kr krH : Nat → Nat → Option Nat} {T : Tw} (h : CV hp ks ka kl kr) (hH : CV H ksH kaH klH krH) (hK : KB H 26 T) (hf : ∀ q, q < 26 ∨ 34 ≤ q → H[q]? = hp[q]?) (hl : H.length = hp.length) (hT : tReal T) {e : Nat} (he : e < T 0) : ∃ hp', kp_lp (X1_nameToWrite_B36 25 (nI e)) 2000 ((-1000000), nI 1000000, nI 0, H) = some (nI (uB (tTw T e) 5).1, hp') ∧ hp'.length = hp.length ∧ (∀ q, q < 26 ∨ 34 ≤ q → hp'[q]? = hp[q]?) ∧ ∃ ks' ka' kl' kr', CV hp' ks' ka' kl' kr' := by
  have h0 := hT.1.1
  have hS := tTw_le hT he
  obtain ⟨F, F0, F1, F2⟩ := chain (α := kw_H) (P := fun _ x => (∃ w, KB x 26 (tNm T e w)) ∧ (∀ q, q < 26 ∨ 34 ≤ q → x[q]? = hp[q]?) ∧ x.length = hp.length ∧ ∃ ks' ka' kl' kr', CV x ks' ka' kl' kr') (R := fun p x y => X1_nameToWrite_b36 25 (nI e) (uR (tTw T e) (-1000000) p).1 (uR (tTw T e) (-1000000) p).2 (nI p) x = some (Sum.inl ((uR (tTw T e) (-1000000) (p + 1)).1, (uR (tTw T e) (-1000000) (p + 1)).2, nI (p + 1), y))) (x0 := H) ⟨⟨T (6 + e), by
      have : tNm T e (T (6 + e)) = T := by
        funext k
        unfold tNm va_up
        split
        · rename_i z; rw [z]
        · rfl
      rw [this]; exact hK⟩, hf, hl, _, _, _, _, hH⟩ 6 (fun p x hp6 hx => by
    obtain ⟨⟨w, kx⟩, fx, lx, ksx, kax, klx, krx, cx⟩ := hx
    have t0 : tNm T e w 0 = T 0 := up_ne _ _ (by omega)
    obtain ⟨x2, r1, r2, r3, r4⟩ := KB_nm kx (s := e) (x := p) (by rw [t0]; exact he) (by rw [t0]; omega)
    have e2 : va_up (tNm T e w) (6 + e) p = tNm T e p := by unfold tNm; rw [up_up]
    rw [e2] at r2
    obtain ⟨v2, nm2, jb2, tu2, tm2, y1, -, -, -⟩ := id r2
    have cx2 := CV_tri cx y1 (fun q hq => r4 q (by omega))
    obtain ⟨f, ef⟩ := c_spreadAs cx2 r2 (tNm_real hT he (by omega)) (n := 12) (by omega)
    have hs : sS (tNm T e p) 12 = tTw T e p := by unfold tTw; rw [if_pos hp6]
    rw [hs] at ef
    obtain ⟨v1, nm1, jb1, tu1, tm1, z1, z2, -, -⟩ := id kx
    have r1 : kp_stI x 27 (nI e) (nI p) = some x2 := r1
    have r0 : kp_gR x 26 [2] 0 = some 27 := kc_r0 z1
    refine ⟨S31 x2 f, ?_, ⟨p, S31_KB cx2 r2 (by omega) f⟩, fun q hq => by rw [S31_o f (by omega), r4 q (by omega)]; exact fx q hq, by rw [S31_len, r3]; exact lx, _, _, _, _, S31_CV cx2 f⟩
    unfold X1_nameToWrite_b36 X1_nameToWrite_J80
    rw [if_neg (fun z => by have := (q_le (show 6 < 2147483648 by decide) (show p < 2147483648 by omega)).mp z; omega), c25_r0 cx, Option.bind_some, r0, Option.bind_some, r1, Option.bind_some, c25_r0 cx2, Option.bind_some, c25_ob cx2, Option.bind_some, ef, Option.bind_some, uR_step hS, nI_add]
    by_cases z : (uR (tTw T e) (-1000000) p).2 ≤ nI (tTw T e p)
    · rw [if_pos z, if_pos z]
    · rw [if_neg z, if_neg z])
  obtain ⟨-, g2, g3, g4⟩ := F1 6 (Nat.le_refl _)
  refine ⟨F 6, ?_, g3, g2, g4⟩
  rw [← F0]
  refine lp_for (fun p => ((uR (tTw T e) (-1000000) p).1, (uR (tTw T e) (-1000000) p).2, nI p, F p)) 6 _ (fun p hp6 => F2 p hp6) ?_ 2000 (by omega)
  show X1_nameToWrite_b36 _ _ _ _ _ _ = _
  unfold X1_nameToWrite_b36
  rw [if_pos ((q_le (by omega) (by omega)).mpr (Nat.le_refl _))]
  rfl
section MTwice
variable {C P : kw_H} {sc : Nat → Int32} {ar : Nat → Nat → Int32} {f : Nat → Int32} {T : Tw}
theorem m_twOne (hC : C.length = 38) (hA : tA f 0 T) (hT : tReal T) {e p : Nat} (he : e < T 0) (hp6 : p < 6) (x2 x3 : Int32) : ∃ f' : Nat → Int32, (∀ k, k < 1782 → f' k = f k) ∧ X12_differenceTried_F (hR C sc ar P f') 38 = some (nI (tTw T e p)) ∧ X12_twice_b63 38 (nI e) x2 x3 (nI p) (hR C sc ar P f) = X12_twice_J113 (hR C sc ar P f') 38 (nI e) x2 x3 (nI p) := by
  have h999 := hT.2
  have h0 := hT.1.1
  have hTn := tNm_real hT he (show p ≤ 6 by omega)
  have h3 : tNm T e p 3 = T 3 := up_ne _ _ (by omega)
  obtain ⟨f0, c1, c2, c3⟩ := m_copyTown (C := C) (P := P) (sc := sc) (ar := ar) (f := f) hC (a := 0) (b := 1782) (by omega) (by omega) (by omega)
  have a0 : tA (upd f0 (1788 + e) (nI p)) 1782 (tNm T e p) := fun k hk => by
    unfold tNm
    by_cases z : k = 6 + e
    · rw [show 1782 + k = 1788 + e by omega, pk_us, z, up_at]
    · rw [pk_un (by omega), up_ne _ _ z, c2 k hk]; exact hA k hk
  obtain ⟨F, q0, q1, q2⟩ := m_weeks (C := C) (P := P) (sc := sc) (ar := ar) hC (b := 1782) (by omega) a0 hTn.1 12 (by rw [h3]; omega)
  have g2 : ∀ k, k < 1782 → F 12 k = f k := fun k hk => by rw [(q1 12 (Nat.le_refl _)).2 k (by omega), pk_un (by omega), c3 k (by omega)]
  have hSS : ∀ p', p' < 6 → tS (tWn (tNm T e p) 12) p' = tS T p' + sC (tNm T e p) 12 p' := fun p' hp' => by
    rw [tWn_S hTn.1 hp' 12 (by rw [h3]; omega)]
    congr 1
    unfold tS
    exact q_sm_cg 6 (fun k hk => up_ne _ _ (by omega))
  have ed := m_diffTried (C := C) (P := P) (sc := sc) (ar := ar) (f := F 12) (T := T) hC (fun k hk => by rw [g2 _ (by omega)]; exact hA k hk) (q1 12 (Nat.le_refl _)).1 (tWn_ok hTn.1 12 (by rw [h3]; omega)) (c := sC (tNm T e p) 12) (B := 480) (by omega) (fun p' _ => by have := sC_le hTn.1 12 p'; omega) hSS
  rw [tWn_c (by omega) (by omega) (by omega) (by omega) 12 (k := 0), tOn_cg (T := tNm T e p) (T' := tWn (tNm T e p) 12) (fun k hk => tWn_c (by have := hTn.1.1; omega) (by omega) (by omega) (by omega) 12)] at ed
  have hs : sS (tNm T e p) 12 = tTw T e p := by unfold tTw; rw [if_pos hp6]
  have ed : X12_differenceTried_F (hR C sc ar P (F 12)) 38 = some (nI (sS (tNm T e p) 12)) := ed
  rw [hs] at ed
  refine ⟨F 12, g2, ed, ?_⟩
  unfold X12_twice_b63
  rw [if_neg (fun z => by have := (q_le (show 6 < 2147483648 by decide) (show p < 2147483648 by omega)).mp z; omega), r_ob hC, Option.bind_some, c1, Option.bind_some, r_r0 hC, Option.bind_some, nI_add, r_st hC (by omega), Option.bind_some, ← q0]
  have key : ∀ R, X12_twice_J113 (hR C sc ar P (F 12)) 38 (nI e) x2 x3 (nI p) = some R → kp_lp (X12_twice_B93 38 (nI e) x2 x3 (nI p)) 2000 (nI 0, hR C sc ar P (F 0)) = some R := fun R hR' => by
    refine lp_for (fun i => (nI i, hR C sc ar P (F i))) 12 _ (fun i hi => ?_) ?_ 2000 (by omega)
    · show X12_twice_b93 _ _ _ _ _ _ _ = some (Sum.inl (nI (i + 1), hR C sc ar P (F (i + 1))))
      unfold X12_twice_b93
      rw [if_neg (fun z => by have := (q_le (show 12 < 2147483648 by decide) (show i < 2147483648 by omega)).mp z; omega), r_ob hC, Option.bind_some, q2 i hi, Option.bind_some, nI_add]
    · show X12_twice_b93 _ _ _ _ _ _ _ = _
      unfold X12_twice_b93
      rw [if_pos ((q_le (by omega) (by omega)).mpr (Nat.le_refl _))]
      show (X12_twice_J113 (hR C sc ar P (F 12)) 38 (nI e) x2 x3 (nI p)).map _ = _
      rw [hR']
      rfl
  have hsome : ∃ R, X12_twice_J113 (hR C sc ar P (F 12)) 38 (nI e) x2 x3 (nI p) = some R := by
    unfold X12_twice_J113 X12_twice_J131 X12_twice_J144
    rw [r_ob hC, Option.bind_some, ed, Option.bind_some]
    split <;> exact ⟨_, rfl⟩
  obtain ⟨R, hR'⟩ := hsome
  rw [hR', key R hR']
theorem m_twice (hC : C.length = 38) (hA : tA (ar 0) 0 T) (hT : tReal T) {e : Nat} (he : e < T 0) : ∃ f', kp_lp (X12_twice_B63 38 (nI e)) 2000 (nI 0, nI 1000000, nI 0, hM C sc ar P) = some (nI (uB (tTw T e) 5).1, hR C sc ar P f') ∧ ∀ k, k < 1782 → f' k = ar 0 k := by
  have hS := tTw_le hT he
  obtain ⟨F, F0, F1, F2⟩ := chain (α := Nat → Int32) (P := fun _ x => ∀ k, k < 1782 → x k = ar 0 k) (R := fun p x y => X12_twice_b63 38 (nI e) (uR (tTw T e) (nI 0) p).1 (uR (tTw T e) (nI 0) p).2 (nI p) (hR C sc ar P x) = some (Sum.inl ((uR (tTw T e) (nI 0) (p + 1)).1, (uR (tTw T e) (nI 0) (p + 1)).2, nI (p + 1), hR C sc ar P y))) (x0 := ar 0) (fun _ _ => rfl) 6 (fun p x hp6 hx => by
    obtain ⟨y, p1, p2, p3⟩ := m_twOne (C := C) (P := P) (sc := sc) (ar := ar) (f := x) hC (fun k hk => by rw [hx _ (by omega)]; exact hA k hk) hT he hp6 (uR (tTw T e) (nI 0) p).1 (uR (tTw T e) (nI 0) p).2
    refine ⟨y, ?_, fun k hk => (p1 k hk).trans (hx k hk)⟩
    rw [p3, uR_step hS]
    unfold X12_twice_J113 X12_twice_J131 X12_twice_J144
    rw [r_ob hC, Option.bind_some, p2, Option.bind_some, nI_add]
    by_cases z : (uR (tTw T e) (nI 0) p).2 ≤ nI (tTw T e p)
    · rw [if_pos z, if_pos z, if_pos z]
    · rw [if_neg z, if_neg z, if_neg z])
  refine ⟨F 6, ?_, F1 6 (Nat.le_refl _)⟩
  rw [hR_self, ← F0]
  refine lp_for (fun p => ((uR (tTw T e) (nI 0) p).1, (uR (tTw T e) (nI 0) p).2, nI p, hR C sc ar P (F p))) 6 _ (fun p hp6 => F2 p hp6) ?_ 2000 (by omega)
  show X12_twice_b63 _ _ _ _ _ _ = _
  unfold X12_twice_b63
  rw [if_pos ((q_le (by omega) (by omega)).mpr (Nat.le_refl _))]
  rfl
end MTwice
theorem ag_twice : lx_ag_twice Inv := by
  rintro j hp h hj -
  have hM0 := Inv_M h
  have hS := Inv_S _ _ h
  obtain ⟨ks, ka, kl, kr, sc, ar, T, n, o, A, h⟩ := h
  obtain ⟨C, P, hC, rfl⟩ := MV_ex h.2.1
  have hth := IV_there h
  have hKB := h.2.2.2.2.2.2.2.1.1
  obtain ⟨⟨v, nm, jb, tu, tm, k1, k2, k3, k4⟩, hA, -⟩ := id h.2.2.2.2.2.2.2.1
  rcases hth with ⟨hT, s1, e1⟩ | ⟨-, s1, e1⟩
  case inr =>
    refine ⟨-1000002, _, _, ?_, hM0, ?_, hS⟩
    · unfold X11_twice_F
      simp only [c0_r2 h.1, kc_ob k1, Option.bind_some, e1, if_pos e00]
    · unfold X12_twice_F
      simp only [m_g1 hC, Option.bind_some, s1, if_pos e00]
  have h01 := hT.1.1
  have h6 := hT.1.2.2.2.2.2.2.1
  obtain ⟨e, he, hno, hat⟩ := first_e (fun i => decide (T (6 + i) = 6)) (T 0)
  have hno : ∀ i, i < e → T (6 + i) ≠ 6 := fun i hi => of_decide_eq_false (hno i hi)
  obtain ⟨H, z1, z2, z3, z4⟩ := KB_become (CV_KC26 h.1) hKB hT.1.sm (by omega)
  obtain ⟨v2, nm2, jb2, tu2, tm2, y1, y2, -, -⟩ := id z2
  have cvH := CV_tri h.1 y1 z4
  have c6 : ∀ i, i < T 0 → (nI (T (6 + i)) = nI 6 ↔ T (6 + i) = 6) := fun i hi => by have := h6 i hi; exact q_eq (by omega) (by omega)
  have efs : ∀ r, (e = T 0 → r = -1000000) → (e < T 0 → r = nI e) → X2_firstEmptySlot_F (hM C sc ar P) 20 = some r := fun r ra rb => by
    unfold X2_firstEmptySlot_F
    refine lp_for (fun i => nI i) e _ (fun i hi => ?_) ?_ 2000 (by omega)
    · show X2_firstEmptySlot_b2 _ _ _ = _
      unfold X2_firstEmptySlot_b2
      rw [kc_g4 k1, Option.bind_some, k2.1 0 (by omega), if_neg (fun z => by have := (q_le (show T 0 < 2147483648 by omega) (show i < 2147483648 by omega)).mp z; omega), if_neg (fun z => by have := (q_le (show 8 < 2147483648 by omega) (show i < 2147483648 by omega)).mp z; omega), kc_r0 k1, Option.bind_some, kc_nm k1 (by omega), Option.bind_some, k2.2.1 i (by omega), if_neg (fun z => hno i hi ((c6 i (by omega)).mp z)), nI_add]
    · show X2_firstEmptySlot_b2 _ _ _ = _
      unfold X2_firstEmptySlot_b2
      rw [kc_g4 k1, Option.bind_some, k2.1 0 (by omega)]
      rcases hat with ee | ⟨ee, ec⟩
      · rw [if_pos ((q_le (by omega) (by omega)).mpr (by omega)), ra ee]
        rfl
      · rw [if_neg (fun z => by have := (q_le (show T 0 < 2147483648 by omega) (show e < 2147483648 by omega)).mp z; omega), if_neg (fun z => by have := (q_le (show 8 < 2147483648 by omega) (show e < 2147483648 by omega)).mp z; omega), kc_r0 k1, Option.bind_some, kc_nm k1 (by omega), Option.bind_some, k2.2.1 e ee, if_pos ((c6 e ee).mpr (of_decide_eq_true ec)), rb ee]
        rfl
  have hC2 : ∀ (C2 P2 : kw_H) (hC2 : C2.length = 38) R, X12_twice_J42 (hM C2 sc ar P2) 38 (nI e) = some R → X12_twice_F (hM C2 sc ar P2) 38 = some R := fun C2 P2 hC2 R hR' => by
    unfold X12_twice_F
    rw [m_g1 hC2, Option.bind_some, s1, if_neg e10]
    refine lp_for (fun i => nI i) e _ (fun i hi => ?_) ?_ 2000 (by omega)
    · show X12_twice_b12 _ _ _ = _
      unfold X12_twice_b12
      rw [m_r0 hC2, Option.bind_some, m_ld0 hC2 (by omega), Option.bind_some, tA0 hA (by omega), if_neg (fun z => by have := (q_le (show T 0 < 2147483648 by omega) (show i < 2147483648 by omega)).mp z; omega), Option.bind_some, nI_add, m_ld0 hC2 (by omega), Option.bind_some, tA0 hA (by omega), if_neg (fun z => hno i hi ((c6 i (by omega)).mp z)), nI_add]
    · show X12_twice_b12 _ _ _ = _
      unfold X12_twice_b12
      rw [m_r0 hC2, Option.bind_some, m_ld0 hC2 (by omega), Option.bind_some, tA0 hA (by omega)]
      rcases hat with ee | ⟨ee, ec⟩
      · rw [if_pos ((q_le (by omega) (by omega)).mpr (by omega)), hR']
        rfl
      · rw [if_neg (fun z => by have := (q_le (show T 0 < 2147483648 by omega) (show e < 2147483648 by omega)).mp z; omega), Option.bind_some, nI_add, m_ld0 hC2 (by omega), Option.bind_some, tA0 hA (by omega), if_pos ((c6 e ee).mpr (of_decide_eq_true ec)), hR']
        rfl
  rcases hat with rfl | ⟨ee, ec⟩
  · have ef := efs (-1000000) (fun _ => rfl) (fun z => by omega)
    have ew : X11_within_F (hM C sc ar P) (-1000000) (nI 0) (nI 7) = some (nI 0) := by
      unfold X11_within_F
      rw [if_pos (by decide)]
    refine ⟨-1000000, _, _, ?_, hM0, hC2 C P hC _ ?_, hS⟩
    · unfold X11_twice_F X1_nameToWrite_F
      simp only [c0_r2 h.1, kc_ob k1, Option.bind_some, e1, if_neg e10, c0_r3 h.1, c25_ob h.1, ef, ew, if_pos e00]
    unfold X12_twice_J42
    rw [m_r0 hC, Option.bind_some, m_ld0 hC (by omega), Option.bind_some, tA0 hA (by omega), if_pos rfl]
  · obtain ⟨hp', j1, j2, j3, ks', ka', kl', kr', j4⟩ := c_twice h.1 cvH z2 (fun q hq => z4 q (by omega)) z3 hT ee
    have ef := efs (nI e) (fun z => by omega) (fun _ => rfl)
    have ew : X11_within_F (hM C sc ar P) (nI e) (nI 0) (nI 7) = some (nI 1) := by
      unfold X11_within_F
      rw [if_neg (fun z => by have := (q_lt (show e < 2147483648 by omega) (show 0 < 2147483648 by omega)).mp z; omega), if_neg (fun z => by have := (q_lt (show 7 < 2147483648 by omega) (show e < 2147483648 by omega)).mp z; omega)]
    have eC : X11_twice_F (hM C sc ar P) 0 = some (nI (uB (tTw T e) 5).1, hp') := by
      unfold X11_twice_F X1_nameToWrite_F
      simp only [c0_r2 h.1, kc_ob k1, Option.bind_some, e1, if_neg e10, c0_r3 h.1, c25_ob h.1, ef, ew, c25_r0 h.1, kc_ob (CV_KC26 h.1), z1, j1]
    obtain ⟨C2, P2, hCC, rfl⟩ := MV_ex (MV_f h.2.1 (fun q hq => j3 q (by omega)))
    obtain ⟨f', m1, m2⟩ := m_twice (C := C2) (P := P2) (sc := sc) hCC hA hT ee
    refine ⟨nI (uB (tTw T e) 5).1, hM C2 sc ar P2, hR C2 sc ar P2 f', eC, hM_38 hCC, hC2 C2 P2 hCC _ ?_, IV_scr h hCC j4 j2 j3 (fun k hk => m2 k hk) (fun i h1 h2 => up_ne _ _ (by omega))⟩
    unfold X12_twice_J42
    rw [m_r0 hCC, Option.bind_some, m_ld0 hCC (by omega), Option.bind_some, tA0 hA (by omega), if_neg (fun z => by have := (q_eq (show e < 2147483648 by omega) (show T 0 < 2147483648 by omega)).mp z; omega)]
    exact m1
