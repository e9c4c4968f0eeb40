/-! ===== fairest, drawn ===== -/
theorem zf_zf (g : Nat → Int32) (c c' : Nat → Nat) : zf (zf g c) c' = zf g c' := by
  funext t
  unfold zf
  by_cases e : t < 6
  · rw [if_pos e, if_pos e]
  · rw [if_neg e, if_neg e, if_neg e]
theorem tD_mod (T : Tw) (s t g : Nat) : tD T s (t % T 1) g = tD T s t g := by
  unfold tD tJ
  simp only [Nat.add_mod_mod]
theorem tCt_cg {T T' : Tw} (hT : tOk T) (h : ∀ k, k < 30 → k ≠ 3 → k ≠ 4 → k ≠ 5 → T' k = T k) {t g p : Nat} : tCt T' t g p = tCt T t g p := by
  obtain ⟨h0, -⟩ := id hT
  unfold tCt
  rw [h 0 (by omega) (by omega) (by omega) (by omega)]
  exact q_ct_cg _ (fun s hs => by rw [tD_cg hT h (by omega)])
theorem tCt_mod (T : Tw) (t g p : Nat) : tCt T (t % T 1) g p = tCt T t g p := by
  unfold tCt
  simp only [tD_mod]
theorem tCt_le {T : Tw} (hT : tOk T) (t g p : Nat) : tCt T t g p ≤ 8 := by
  have h1 := q_ct_le (fun s => decide (tD T s t g = p)) (T 0)
  have h2 := hT.1
  unfold tCt
  omega
def fC (T : Tw) (b n p : Nat) : Nat := q_sm (fun i => tCt T (T 4 + i * b) 0 p) n
theorem fC_le {T : Tw} (hT : tOk T) (b n p : Nat) : fC T b n p ≤ n * 8 := q_sm_le n (fun k _ => tCt_le hT _ _ _)
def fS (T : Tw) (n b : Nat) : Nat := tSp (fC T b n) (tOn T 6 (T 0))
theorem fS_le {T : Tw} (hT : tOk T) {n b : Nat} (hn : n ≤ 60) : fS T n b ≤ 480 := by
  unfold fS
  exact tSp_le (by omega) (fun p _ => by have := fC_le hT b n p; omega)
section CFair
variable {hp H : kw_H} {ks ka : Nat → Nat → Int32} {kl : Nat → Nat → Int64} {kr : Nat → Nat → Option Nat} {v nm jb tm : Nat → Int32} {tu : Nat → Option Nat} {T : Tw} {g : Nat → Int32}
theorem S31_fill2 (h : CV hp ks ka kl kr) (c : Nat → Nat) : J7_fill_53178_F (S31 hp (zf g c)) 31 (nI 0) = some (S31 hp (zf g (fun _ => 0))) := by
  have := S31_fill (S31_CV h (zf g c))
  rw [up_at, S31_S31, zf_zf] at this
  exact this
theorem c_spreadBy (h : CV hp ks ka kl kr) (k1 : KC hp 20 v nm jb tu tm) (hV : KV v nm jb tm T) (hT : tReal T) (hr : kp_gR H 25 [1] 1 = some 31) (hF : J7_fill_53178_F H 31 (nI 0) = some (S31 hp (zf g (fun _ => 0)))) {n b : Nat} (hn : n ≤ 60) (hb : b ≤ 8) : X1_spreadTurnedBy_F H 25 20 (nI n) (nI b) = some (nI (fS T n b), S31 hp (zf g (fC T b n))) := by
  have h18 := hT.1.2.1
  have h4 := hT.1.2.2.2.2.1
  have g1 := tOn_lt (T := T) (b := 6) (n := T 0) hT.1.2.2.2.2.2.2.1
  unfold X1_spreadTurnedBy_F
  rw [hr, Option.bind_some, hF, Option.bind_some]
  refine lp_for (fun i => (nI i, S31 hp (zf g (fC T b i)))) n _ (fun i hi => ?_) ?_ 2000 (by omega)
  · have kS := S31_KC k1 (by omega) (zf g (fC T b i))
    have cS := S31_CV h (zf g (fC T b i))
    have hib : i * b ≤ 60 * 8 := Nat.mul_le_mul (by omega) hb
    show X1_spreadTurnedBy_b11 _ _ _ _ _ _ = some (Sum.inl (nI (i + 1), S31 hp (zf g (fun p => fC T b i p + tCt T (T 4 + i * b) 0 p))))
    unfold X1_spreadTurnedBy_b11
    rw [if_neg (fun z => by have := (q_le (show n < 2147483648 by omega) (show i < 2147483648 by omega)).mp z; omega), kc_g8 kS, Option.bind_some, hV.1 4 (by omega), q_mul, nI_add, c25_ob cS, Option.bind_some, c_countWeek h k1 (by omega) hV hT.1 (by omega) (by omega), Option.bind_some, nI_add]
  · have kS := S31_KC k1 (by omega) (zf g (fC T b n))
    have cS := S31_CV h (zf g (fC T b n))
    show X1_spreadTurnedBy_b11 _ _ _ _ _ _ = _
    unfold X1_spreadTurnedBy_b11
    rw [if_pos ((q_le (by omega) (by omega)).mpr (Nat.le_refl _))]
    unfold X1_spreadTurnedBy_J38
    rw [kc_ob kS, Option.bind_some, c_peopleOnIt kS hV hT.1, Option.bind_some, c25_ob cS, Option.bind_some, c_spreadOver h g1 (B := 480) (by omega) (fun p _ => by have := fC_le hT.1 b n p; omega)]
    rfl
/-- the best turn of 1 to k + 1, and its spread -/
def fB (T : Tw) (n : Nat) : Nat → Nat × Nat
  | 0 => (1, fS T n 1)
  | k + 1 => if (fB T n k).2 ≤ fS T n (k + 2) then fB T n k else (k + 2, fS T n (k + 2))
theorem fB_inv (T : Tw) (n : Nat) : ∀ k, (fB T n k).2 = fS T n (fB T n k).1 ∧ (fB T n k).1 ≤ k + 1
  | 0 => ⟨rfl, Nat.le_refl _⟩
  | k + 1 => by
    obtain ⟨h1, h2⟩ := fB_inv T n k
    unfold fB
    split
    · exact ⟨h1, by omega⟩
    · exact ⟨rfl, Nat.le_refl _⟩
theorem c_fairest (h : CV hp ks ka kl kr) (k1 : KC hp 20 v nm jb tu tm) (hV : KV v nm jb tm T) (hT : tReal T) {n : Nat} (hn : n ≤ 60) : X1_fairestTurn_F hp 25 20 (nI n) = some (nI (fB T n 7).1, S31 hp (zf (ka 31) (fC T 8 n))) := by
  have hb2 : ∀ k, (fB T n k).2 ≤ 480 := fun k => by rw [(fB_inv T n k).1]; exact fS_le hT.1 hn
  have hb1 : ∀ k, (fB T n k).1 ≤ k + 1 := fun k => (fB_inv T n k).2
  unfold X1_fairestTurn_F
  rw [c25_ob h, Option.bind_some, c_spreadBy h k1 hV hT (c25_r1 h) (S31_fill h) hn (by omega), Option.bind_some]
  refine lp_for (fun k => (nI (fB T n k).1, nI (fB T n k).2, nI (k + 2), S31 hp (zf (ka 31) (fC T (k + 1) n)))) 7 _ (fun k hk => ?_) ?_ 2000 (by omega)
  · have cS := S31_CV h (zf (ka 31) (fC T (k + 1) n))
    have z1 := hb2 k
    have z2 := fS_le hT.1 (n := n) (b := k + 2) hn
    have es := c_spreadBy (H := S31 hp (zf (ka 31) (fC T (k + 1) n))) h k1 hV hT (c25_r1 cS) (S31_fill2 h _) hn (show k + 2 ≤ 8 by omega)
    show X1_fairestTurn_b14 _ _ _ _ _ _ _ = some (Sum.inl (nI (if (fB T n k).2 ≤ fS T n (k + 2) then fB T n k else (k + 2, fS T n (k + 2))).1, nI (if (fB T n k).2 ≤ fS T n (k + 2) then fB T n k else (k + 2, fS T n (k + 2))).2, nI (k + 1 + 2), S31 hp (zf (ka 31) (fC T (k + 1 + 1) n))))
    unfold X1_fairestTurn_b14 X1_fairestTurn_J45
    rw [if_neg (fun z => by have := (q_lt (show 8 < 2147483648 by decide) (show k + 2 < 2147483648 by omega)).mp z; omega), c25_ob cS, Option.bind_some, es, Option.bind_some]
    by_cases e : (fB T n k).2 ≤ fS T n (k + 2)
    · rw [if_pos ((q_le (by omega) (by omega)).mpr e), if_pos e, nI_add]
    · rw [if_neg (fun z => e ((q_le (by omega) (by omega)).mp z)), if_neg e, nI_add]
  · show X1_fairestTurn_b14 _ _ _ _ _ _ _ = _
    unfold X1_fairestTurn_b14
    rw [if_pos ((q_lt (by omega) (by omega)).mpr (by omega))]
    rfl
end CFair
/-- n weeks turned by b each -/
def tPn (T : Tw) (b : Nat) : Nat → Tw
  | 0 => va_up T 5 0
  | i + 1 => tP (tPn T b i) b
theorem tPn_c {T : Tw} {b k : Nat} (h : k < 30) (h3 : k ≠ 3) (h4 : k ≠ 4) (h5 : k ≠ 5) : ∀ n, tPn T b n k = T k
  | 0 => up_ne _ _ h5
  | n + 1 => by
    show tP (tPn T b n) b k = _
    unfold tP
    rw [if_neg h3, if_neg h4, if_neg h5, if_neg (by omega), tPn_c h h3 h4 h5 n]
theorem tPn_3 (T : Tw) (b : Nat) : ∀ n, tPn T b n 3 = T 3 + n
  | 0 => rfl
  | n + 1 => by
    show tPn T b n 3 + 1 = _
    rw [tPn_3 T b n]
    omega
theorem tPn_5 (T : Tw) (b : Nat) : ∀ n, tPn T b n 5 = 0
  | 0 => rfl
  | _ + 1 => rfl
theorem tPn_4 {T : Tw} (hT : tOk T) (b : Nat) : ∀ n, tPn T b n 4 = (T 4 + n * b) % T 1
  | 0 => by
    show T 4 = _
    rw [Nat.zero_mul, Nat.add_zero, Nat.mod_eq_of_lt hT.2.2.2.2.1]
  | n + 1 => by
    show (((tPn T b n 4 : Nat) + (b : Int)) % (tPn T b n 1 : Nat)).toNat = _
    rw [tPn_4 hT b n, tPn_c (by omega) (by omega) (by omega) (by omega) n (k := 1), ← Int.natCast_add, ← Int.natCast_emod, Int.toNat_natCast, Nat.mod_add_mod, Nat.add_mul, Nat.one_mul, Nat.add_assoc]
theorem tPn_ok {T : Tw} (hT : tOk T) (b : Nat) : ∀ n, T 3 + n ≤ 2000 → tOk (tPn T b n)
  | 0, _ => tOk_cg hT rfl rfl rfl rfl hT.2.2.2.2.1 (show 0 < 64 by omega) (fun k hk => by
      show va_up T 5 0 (6 + k) ≤ 6
      rw [up_ne _ _ (by omega)]; exact hT.2.2.2.2.2.2.1 k hk) (fun k hk => by
      show va_up T 5 0 (14 + k) ≤ 6
      rw [up_ne _ _ (by omega)]; exact hT.2.2.2.2.2.2.2.1 k hk) (fun k hk => up_ne _ _ (by omega))
  | n + 1, h => tP_ok (tPn_ok hT b n (by omega)) (by rw [tPn_3]; omega)
theorem tPn_S {T : Tw} (hT : tOk T) (b : Nat) {p : Nat} (hp6 : p < 6) : ∀ n, T 3 + n ≤ 2000 → tS (tPn T b n) p = tS T p + fC T b n p
  | 0, _ => by
    show tS (va_up T 5 0) p = tS T p + 0
    unfold tS
    rw [Nat.add_zero]
    exact q_sm_cg 6 (fun k hk => up_ne _ _ (by omega))
  | n + 1, h => by
    have hok := tPn_ok hT b n (by omega)
    show tS (tP (tPn T b n) b) p = tS T p + (fC T b n p + tCt T (T 4 + n * b) 0 p)
    rw [tS_pass hok _ hp6, tPn_S hT b hp6 n (by omega), tPn_4 hT, tPn_5, tCt_cg hT (fun k a b' c d => tPn_c a b' c d n), tCt_mod]
    omega
theorem tOn_cg {T T' : Tw} {b n : Nat} (h : ∀ k, k < n → T' (b + k) = T (b + k)) : tOn T' b n = tOn T b n := by
  unfold tOn
  exact q_os_cg n (fun s hs => ⟨by rw [h s hs], h s hs⟩)
section MFair
variable {C P : kw_H} {sc : Nat → Int32} {ar : Nat → Nat → Int32} {f : Nat → Int32} {T : Tw}
theorem m_fairOne (hC : C.length = 38) (hA : tA f 0 T) (hT : tReal T) {n b : Nat} (hn : n ≤ 60) (hb : b ≤ 8) (x2 x3 x4 : Int32) : ∃ f' : Nat → Int32, (∀ k, k < 1782 → f' k = f k) ∧ X12_differenceTried_F (hR C sc ar P f') 38 = some (nI (fS T n b)) ∧ (¬ (nI 9 ≤ nI b) → X12_fairest_b44 38 (nI n) x2 x3 x4 (nI b) (hR C sc ar P f) = X12_fairest_J89 (hR C sc ar P f') 38 (nI n) x2 x3 x4 (nI b)) := by
  have h999 := hT.2
  obtain ⟨f0, c1, c2, c3⟩ := m_layTried (C := C) (P := P) (sc := sc) (ar := ar) hC hA hT.1 (n := 0) (by omega) (by omega)
  have c2 : tA f0 1782 T := c2
  have a0 : tA (upd f0 1787 (nI 0)) 1782 (tPn T b 0) := fun k hk => by
    show upd f0 1787 (nI 0) (1782 + k) = nI (va_up T 5 0 k)
    by_cases e : k = 5
    · subst e; rw [pk_us, up_at]
    · rw [pk_un (by omega), up_ne _ _ e]; exact c2 k hk
  obtain ⟨F, F0, F1, F2⟩ := chain (α := Nat → Int32) (P := fun i x => tA x 1782 (tPn T b i) ∧ ∀ k, k < 1782 → x k = f k) (R := fun _ x y => X12_pass_F (hR C sc ar P x) 38 (nI 1782) (nI b) = some (hR C sc ar P y)) (x0 := upd f0 1787 (nI 0)) ⟨a0, fun k hk => by rw [pk_un (by omega)]; exact c3 k hk⟩ n (fun i x hi hx => by
    obtain ⟨y, p1, p2, p3⟩ := m_pass (C := C) (P := P) (sc := sc) (ar := ar) hC (b := 1782) (by omega) hx.1 (tPn_ok hT.1 b i (by omega)) (z := (b : Int)) (by omega)
    exact ⟨y, by rw [eI_n]; exact p1, p2, fun k hk => (p3 k (by omega)).trans (hx.2 k hk)⟩)
  obtain ⟨g1, g2⟩ := F1 n (Nat.le_refl _)
  have hok := tPn_ok hT.1 b n (by omega)
  have ed := m_diffTried (C := C) (P := P) (sc := sc) (ar := ar) (f := F n) (T := T) hC (fun k hk => by rw [g2 _ (by omega)]; exact hA k hk) g1 hok (c := fC T b n) (B := 480) (by omega) (fun p _ => by have := fC_le hT.1 b n p; omega) (fun p hp6 => tPn_S hT.1 b hp6 n (by omega))
  rw [tPn_c (by omega) (by omega) (by omega) (by omega) n (k := 0), tOn_cg (T := T) (T' := tPn T b n) (fun k hk => tPn_c (by have := hT.1.1; omega) (by omega) (by omega) (by omega) n)] at ed
  refine ⟨F n, g2, ed, fun h9 => ?_⟩
  unfold X12_fairest_b44
  rw [if_neg h9, r_ob hC, Option.bind_some, c1, Option.bind_some, r_r0 hC, Option.bind_some, r_st hC (by omega), Option.bind_some, ← F0]
  have key : ∀ R, X12_fairest_J89 (hR C sc ar P (F n)) 38 (nI n) x2 x3 x4 (nI b) = some R → kp_lp (X12_fairest_B68 38 (nI n) x2 x3 x4 (nI b)) 2000 (nI 0, hR C sc ar P (F 0)) = some R := fun R hR' => by
    refine lp_for (fun i => (nI i, hR C sc ar P (F i))) n _ (fun i hi => ?_) ?_ 2000 (by omega)
    · show X12_fairest_b68 _ _ _ _ _ _ _ _ = some (Sum.inl (nI (i + 1), hR C sc ar P (F (i + 1))))
      unfold X12_fairest_b68
      rw [if_neg (fun z => by have := (q_le (show n < 2147483648 by omega) (show i < 2147483648 by omega)).mp z; omega), r_ob hC, Option.bind_some, F2 i hi, Option.bind_some, nI_add]
    · show X12_fairest_b68 _ _ _ _ _ _ _ _ = _
      unfold X12_fairest_b68
      rw [if_pos ((q_le (by omega) (by omega)).mpr (Nat.le_refl _))]
      show (X12_fairest_J89 (hR C sc ar P (F n)) 38 (nI n) x2 x3 x4 (nI b)).map _ = _
      rw [hR']
      rfl
  have hsome : ∃ R, X12_fairest_J89 (hR C sc ar P (F n)) 38 (nI n) x2 x3 x4 (nI b) = some R := by
    unfold X12_fairest_J89 X12_fairest_J108 X12_fairest_J123
    rw [r_ob hC, Option.bind_some, ed, Option.bind_some]
    split <;> exact ⟨_, rfl⟩
  obtain ⟨R, hR'⟩ := hsome
  rw [hR', key R hR']
/-- the reference's best so far -/
def fR (T : Tw) (n : Nat) : Nat → Int32 × Int32
  | 0 => (nI 0, nI 1000000)
  | k + 1 => (nI (fB T n k).1, nI (fB T n k).2)
theorem m_fairest (hC : C.length = 38) (hA : tA (ar 0) 0 T) (hT : tReal T) {n w : Nat} (hn : n ≤ 60) (hw : w ≤ 1) : ∃ f', kp_lp (X12_fairest_B44 38 (nI n) (nI w)) 2000 (nI 0, nI 1000000, nI 1, hM C sc ar P) = some (if w = 0 then nI (fB T n 7).2 else nI (fB T n 7).1, hR C sc ar P f') ∧ ∀ k, k < 1782 → f' k = ar 0 k := by
  have hb2 : ∀ k, (fB T n k).2 ≤ 480 := fun k => by rw [(fB_inv T n k).1]; exact fS_le hT.1 hn
  obtain ⟨F, F0, F1, F2⟩ := chain (α := Nat → Int32) (P := fun _ x => ∀ k, k < 1782 → x k = ar 0 k) (R := fun i x y => X12_fairest_b44 38 (nI n) (nI w) (fR T n i).1 (fR T n i).2 (nI (i + 1)) (hR C sc ar P x) = some (Sum.inl ((fR T n (i + 1)).1, (fR T n (i + 1)).2, nI (i + 1 + 1), hR C sc ar P y))) (x0 := ar 0) (fun _ _ => rfl) 8 (fun i x hi hx => by
    have hAx : tA x 0 T := fun k hk => by rw [hx _ (by omega)]; exact hA k hk
    obtain ⟨y, p1, p2, p3⟩ := m_fairOne (C := C) (P := P) (sc := sc) (ar := ar) (b := i + 1) hC hAx hT hn (by omega) (nI w) (fR T n i).1 (fR T n i).2
    refine ⟨y, ?_, fun k hk => (p1 k hk).trans (hx k hk)⟩
    have z2 := fS_le hT.1 (n := n) (b := i + 1) hn
    rw [p3 (fun z => by have := (q_le (show 9 < 2147483648 by decide) (show i + 1 < 2147483648 by omega)).mp z; omega)]
    unfold X12_fairest_J89 X12_fairest_J108 X12_fairest_J123
    rw [r_ob hC, Option.bind_some, p2, Option.bind_some]
    cases i with
    | zero =>
      have : ¬ (nI 1000000 ≤ nI (fS T n (0 + 1))) := fun z => by have := (q_le (show 1000000 < 2147483648 by decide) (show fS T n (0 + 1) < 2147483648 by omega)).mp z; omega
      simp only [fR, if_neg this, nI_add]
      rfl
    | succ m =>
      have z1 := hb2 m
      have ef : fR T n (m + 1 + 1) = (nI (if (fB T n m).2 ≤ fS T n (m + 2) then fB T n m else (m + 2, fS T n (m + 2))).1, nI (if (fB T n m).2 ≤ fS T n (m + 2) then fB T n m else (m + 2, fS T n (m + 2))).2) := rfl
      rw [ef]
      show (if nI (fB T n m).2 ≤ nI (fS T n (m + 2)) then _ else _) = _
      by_cases e : (fB T n m).2 ≤ fS T n (m + 2)
      · have e' : nI (fB T n m).2 ≤ nI (fS T n (m + 1 + 1)) := (q_le (by omega) (by omega)).mpr e
        rw [if_pos e', if_pos e]
        simp only [fR, if_pos e', nI_add]
      · have e' : ¬ nI (fB T n m).2 ≤ nI (fS T n (m + 1 + 1)) := fun z => e ((q_le (by omega) (by omega)).mp z)
        rw [if_neg e', if_neg e]
        simp only [fR, if_neg e', nI_add])
  refine ⟨F 8, ?_, F1 8 (Nat.le_refl _)⟩
  rw [hR_self, ← F0]
  refine lp_for (fun i => ((fR T n i).1, (fR T n i).2, nI (i + 1), hR C sc ar P (F i))) 8 _ (fun i hi => F2 i hi) ?_ 2000 (by omega)
  show X12_fairest_b44 _ _ _ _ _ _ _ = _
  unfold X12_fairest_b44
  rw [if_pos ((q_le (by omega) (by omega)).mpr (Nat.le_refl _))]
  unfold X12_fairest_J131
  rcases (show w = 0 ∨ w = 1 by omega) with rfl | rfl
  · rw [if_pos e00]
    rfl
  · rw [if_neg e10]
    rfl
end MFair
theorem ag_fairest : lx_ag_fairest Inv := by
  intro j hp h hj a1 a2
  have hM0 := Inv_M h
  have hS := Inv_S _ _ h
  obtain ⟨ks, ka, kl, kr, sc, ar, T, n, o, A, h⟩ := h
  obtain ⟨C, P, hC, rfl⟩ := MV_ex h.2.1
  have hth := IV_there h
  obtain ⟨⟨v, nm, jb, tu, tm, k1, k2, k3, k4⟩, hA, -⟩ := id h.2.2.2.2.2.2.2.1
  rcases hth with ⟨hT, s1, e1⟩ | ⟨-, s1, e1⟩
  case inr =>
    refine ⟨-1000002, _, _, ?_, hM0, ?_, hS⟩
    · unfold X11_fairest_F
      simp only [c0_r2 h.1, kc_ob k1, Option.bind_some, e1, if_pos e00]
    · unfold X12_fairest_F
      simp only [m_g1 hC, Option.bind_some, s1, if_pos e00]
  rcases w_spN a1 (a := 1) (b := 60) (by decide) (by decide) with ⟨m, rfl, hm0, hm, b1⟩ | b1
  case inr =>
    refine ⟨-1000001, _, _, ?_, hM0, ?_, hS⟩
    · unfold X11_fairest_F
      simp only [c0_r2 h.1, kc_ob k1, Option.bind_some, e1, if_neg e10, b1, if_pos e00]
    · unfold X12_fairest_F
      simp only [m_g1 hC, Option.bind_some, s1, if_neg e10, l_n 1 (by decide), l_n 60 (by decide), l_in, b1, if_pos e00]
  rcases w_spN a2 (a := 0) (b := 1) (by decide) (by decide) with ⟨w, rfl, -, hw, b2'⟩ | b2'
  case inr =>
    refine ⟨-1000001, _, _, ?_, hM0, ?_, hS⟩
    · unfold X11_fairest_F
      simp only [c0_r2 h.1, kc_ob k1, Option.bind_some, e1, if_neg e10, b1, b2', if_pos e00]
    · unfold X12_fairest_F
      simp only [m_g1 hC, Option.bind_some, s1, if_neg e10, l_n 1 (by decide), l_n 60 (by decide), l_n 0 (by decide), l_in, b1, b2', if_pos e00]
  have hb1 := (fB_inv T m 7).2
  have hbi := (fB_inv T m 7).1
  have key : ∃ f, X11_fairest_F (hM C sc ar P) 0 (nI m) (nI w) = some (if w = 0 then nI (fB T m 7).2 else nI (fB T m 7).1, S31 (hM C sc ar P) f) := by
    rcases (show w = 0 ∨ w = 1 by omega) with rfl | rfl
    · refine ⟨zf (ka 31) (fC T (fB T m 7).1 m), ?_⟩
      have cS := S31_CV h.1 (zf (ka 31) (fC T 8 m))
      unfold X11_fairest_F
      simp only [c0_r2 h.1, c0_r3 h.1, kc_ob k1, c25_ob h.1, Option.bind_some, e1, if_neg e10, b1, b2', c_fairest h.1 k1 k2 hT hm, if_pos e00, c0_r2 cS, c0_r3 cS, c25_ob cS, c_spreadBy (H := S31 (hM C sc ar P) (zf (ka 31) (fC T 8 m))) h.1 k1 k2 hT (c25_r1 cS) (S31_fill2 h.1 _) hm hb1]
      rw [if_pos trivial, hbi]
    · refine ⟨zf (ka 31) (fC T 8 m), ?_⟩
      unfold X11_fairest_F
      simp only [c0_r2 h.1, c0_r3 h.1, kc_ob k1, c25_ob h.1, Option.bind_some, e1, if_neg e10, b1, b2', c_fairest h.1 k1 k2 hT hm]
      rfl
  obtain ⟨f, ef⟩ := key
  obtain ⟨C2, P2, hC2, eS⟩ := MV_ex (MV_f (hp' := S31 (hM C sc ar P) f) h.2.1 (fun q hq => S31_o f (by omega)))
  obtain ⟨f', m1, m2⟩ := m_fairest (C := C2) (P := P2) (sc := sc) hC2 hA hT hm hw
  have cv2 := S31_CV h.1 f
  rw [eS] at ef cv2
  refine ⟨_, hM C2 sc ar P2, hR C2 sc ar P2 f', ef, hM_38 hC2, ?_, IV_scr h hC2 cv2 (by rw [← eS]; exact S31_len f) (fun q hq => by rw [← eS]; exact S31_o f (by omega)) (fun k hk => m2 k hk) (fun i h1 h2 => up_ne _ _ (by omega))⟩
  unfold X12_fairest_F
  simp only [m_g1 hC2, Option.bind_some, s1, if_neg e10, l_n 1 (by decide), l_n 60 (by decide), l_n 0 (by decide), l_in, b1, b2', m1]
