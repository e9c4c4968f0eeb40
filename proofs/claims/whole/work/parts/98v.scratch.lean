/-! ===== the class's scratch (cells 26 to 33); counts of weeks; spreads ===== -/
theorem CV_mix {hp hp' : kw_H} {ks ka ks' ka' : Nat → Nat → Int32} {kl kl' : Nat → Nat → Int64} {kr kr' : Nat → Nat → Option Nat} (h : CV hp ks ka kl kr) (h' : CV hp' ks' ka' kl' kr') (hf : ∀ q, q < 26 ∨ 34 ≤ q → hp'[q]? = hp[q]?) : CV hp' (fun q => if 26 ≤ q ∧ q < 34 then ks' q else ks q) (fun q => if 26 ≤ q ∧ q < 34 then ka' q else ka q) (fun q => if 26 ≤ q ∧ q < 34 then kl' q else kl q) (fun q => if 26 ≤ q ∧ q < 34 then kr' q else kr q) := by
  intro q hq
  rcases (show q = 0 ∨ q = 1 ∨ q = 2 ∨ q = 3 ∨ q = 4 ∨ q = 5 ∨ q = 6 ∨ q = 7 ∨ q = 8 ∨ q = 9 ∨ q = 10 ∨ q = 11 ∨ q = 12 ∨ q = 13 ∨ q = 14 ∨ q = 15 ∨ q = 16 ∨ q = 17 ∨ q = 18 ∨ q = 19 ∨ q = 20 ∨ q = 21 ∨ q = 22 ∨ q = 23 ∨ q = 24 ∨ q = 25 ∨ q = 26 ∨ q = 27 ∨ q = 28 ∨ q = 29 ∨ q = 30 ∨ q = 31 ∨ q = 32 ∨ q = 33 ∨ q = 34 ∨ q = 35 ∨ q = 36 ∨ q = 37 by omega) with rfl | rfl | rfl | rfl | rfl | rfl | rfl | rfl | rfl | rfl | rfl | rfl | rfl | rfl | rfl | rfl | rfl | rfl | rfl | rfl | rfl | rfl | rfl | rfl | rfl | rfl | rfl | rfl | rfl | rfl | rfl | rfl | rfl | rfl | rfl | rfl | rfl | rfl
  · exact (hf 0 (by omega)).trans (h 0 (by omega))
  · exact (hf 1 (by omega)).trans (h 1 (by omega))
  · exact (hf 2 (by omega)).trans (h 2 (by omega))
  · exact (hf 3 (by omega)).trans (h 3 (by omega))
  · exact (hf 4 (by omega)).trans (h 4 (by omega))
  · exact (hf 5 (by omega)).trans (h 5 (by omega))
  · exact (hf 6 (by omega)).trans (h 6 (by omega))
  · exact (hf 7 (by omega)).trans (h 7 (by omega))
  · exact (hf 8 (by omega)).trans (h 8 (by omega))
  · exact (hf 9 (by omega)).trans (h 9 (by omega))
  · exact (hf 10 (by omega)).trans (h 10 (by omega))
  · exact (hf 11 (by omega)).trans (h 11 (by omega))
  · exact (hf 12 (by omega)).trans (h 12 (by omega))
  · exact (hf 13 (by omega)).trans (h 13 (by omega))
  · exact (hf 14 (by omega)).trans (h 14 (by omega))
  · exact (hf 15 (by omega)).trans (h 15 (by omega))
  · exact (hf 16 (by omega)).trans (h 16 (by omega))
  · exact (hf 17 (by omega)).trans (h 17 (by omega))
  · exact (hf 18 (by omega)).trans (h 18 (by omega))
  · exact (hf 19 (by omega)).trans (h 19 (by omega))
  · exact (hf 20 (by omega)).trans (h 20 (by omega))
  · exact (hf 21 (by omega)).trans (h 21 (by omega))
  · exact (hf 22 (by omega)).trans (h 22 (by omega))
  · exact (hf 23 (by omega)).trans (h 23 (by omega))
  · exact (hf 24 (by omega)).trans (h 24 (by omega))
  · exact (hf 25 (by omega)).trans (h 25 (by omega))
  · exact h' 26 (by omega)
  · exact h' 27 (by omega)
  · exact h' 28 (by omega)
  · exact h' 29 (by omega)
  · exact h' 30 (by omega)
  · exact h' 31 (by omega)
  · exact h' 32 (by omega)
  · exact h' 33 (by omega)
  · exact (hf 34 (by omega)).trans (h 34 (by omega))
  · exact (hf 35 (by omega)).trans (h 35 (by omega))
  · exact (hf 36 (by omega)).trans (h 36 (by omega))
  · exact (hf 37 (by omega)).trans (h 37 (by omega))
/-- a call that only foretells -/
theorem IV_scr {j : Nat} {hp C P : kw_H} {ks ka ks' ka' : Nat → Nat → Int32} {kl kl' : Nat → Nat → Int64} {kr kr' : Nat → Nat → Option Nat} {sc : Nat → Int32} {ar ar' : Nat → Nat → Int32} {T : Tw} {n o : Nat} {A : Nat → Tw} (h : IV j hp ks ka kl kr sc ar T n o A) (hC : C.length = 38) (hCV : CV (hM C sc ar P) ks' ka' kl' kr') (hl : (hM C sc ar P).length = hp.length) (hf : ∀ q, q < 26 ∨ 34 ≤ q → (hM C sc ar P)[q]? = hp[q]?) (h0 : ∀ k, k < 1782 → ar' 0 k = ar 0 k) (har : ∀ i, 1 ≤ i → i < 7 → ar' i = ar i) : Inv (j + 1) (hM C sc ar' P) := by
  obtain ⟨m5, y1, y2, y3, y4⟩ := h.2.2.2.2.1
  obtain ⟨⟨m7, w1, w2, w3, w4⟩, x1, x2, x3, x4⟩ := h.2.2.2.2.2.2.1
  refine ⟨_, _, _, _, _, _, _, _, _, _, IV_X h hC (CV_mix h.1 hCV hf) hl (fun q hq => hf q (by omega)) rfl rfl h.2.2.2.2.2.2.2.2.2.2.2 rfl rfl (fun r hr => ?_) ⟨m5, y1, y2, y3, fun k hk => ?_⟩ h.2.2.2.2.2.1 ⟨⟨m7, w1, w2, w3, fun k hk => ?_⟩, x1, x2, x3, x4⟩ h0 (fun k hk => ?_) rfl rfl⟩
  · have := h.2.2.2.1 r hr
    rw [har 3 (by omega) (by omega), har 2 (by omega) (by omega), har 4 (by omega) (by omega)]
    show ar 3 r = ka 12 r ∧ ar 2 r = ka 11 r ∧ (ka 12 r = (-1) ∨ ∃ n, n ≤ 40 ∧ ka 12 r = nI n) ∧ (∃ l, l ≤ 2 ∧ ka 11 r = nI l) ∧ ∀ i, i < 40 → ar 4 (40 * r + i) = (if 26 ≤ 3 + r ∧ 3 + r < 34 then ka' (3 + r) else ka (3 + r)) i
    rw [if_neg (by omega)]
    exact this
  · rw [har 5 (by omega) (by omega)]
    exact y4 k hk
  · rw [har 6 (by omega) (by omega)]
    exact w4 k hk
  · rw [har 1 (by omega) (by omega)]
def S31 (hp : kw_H) (f : Nat → Int32) : kw_H := hp.set 31 (.inl (0, 6, .inl f))
def zf (g : Nat → Int32) (c : Nat → Nat) : Nat → Int32 := fun t => if t < 6 then nI (c t) else g t
theorem zf_cg {g : Nat → Int32} {c c' : Nat → Nat} (h : ∀ p, p < 6 → c p = c' p) : zf g c = zf g c' := by
  funext t
  unfold zf
  by_cases e : t < 6
  · rw [if_pos e, if_pos e, h t e]
  · rw [if_neg e, if_neg e]
theorem zf_up (g : Nat → Int32) (c : Nat → Nat) {k : Nat} (hk : k < 6) (x : Nat) : upd (zf g c) k (nI x) = zf g (va_up c k x) := by
  funext t
  unfold upd zf va_up
  by_cases e : t = k
  · rw [if_pos e, if_pos (by omega), if_pos e]
  · rw [if_neg e, if_neg e]
section S31s
variable {hp : kw_H} {ks ka : Nat → Nat → Int32} {kl : Nat → Nat → Int64} {kr : Nat → Nat → Option Nat} {i : Nat} {v nm jb tm : Nat → Int32} {tu : Nat → Option Nat} {T : Tw} {f g : Nat → Int32} {c : Nat → Nat}
theorem S31_CV (h : CV hp ks ka kl kr) (f : Nat → Int32) : CV (S31 hp f) ks (va_up ka 31 f) kl kr := CV_31 h f
theorem S31_S31 (f g : Nat → Int32) : S31 (S31 hp f) g = S31 hp g := by
  unfold S31
  rw [List.set_set]
theorem S31_o (f : Nat → Int32) {q : Nat} (h : q ≠ 31) : (S31 hp f)[q]? = hp[q]? := by
  unfold S31
  rw [List.getElem?_set_ne (Ne.symm h)]
theorem S31_len (f : Nat → Int32) : (S31 hp f).length = hp.length := by
  unfold S31
  rw [List.length_set]
theorem S31_KC (k1 : KC hp i v nm jb tu tm) (hi : i + 5 ≤ 31 ∨ 32 ≤ i) (f : Nat → Int32) : KC (S31 hp f) i v nm jb tu tm := KC_o k1 (by omega) _
theorem S31_TU (h : CV hp ks ka kl kr) (k3 : TU hp tu T) (f : Nat → Int32) : TU (S31 hp f) tu T :=
  TU_fr (X := fun q => q = 31) (fun q hq => S31_o f hq) (fun q hq => CV_NT h (by omega)) k3
theorem S31_KB (h : CV hp ks ka kl kr) (k : KB hp i T) (hi : i + 5 ≤ 31 ∨ 32 ≤ i) (f : Nat → Int32) : KB (S31 hp f) i T :=
  KB_fr (X := fun q => q = 31) (fun q hq => S31_o f hq) (fun q hq => CV_NT h (by omega)) (fun k hk => by omega) k
theorem S31_ld (h : CV hp ks ka kl kr) {k : Nat} (hk : k < 6) : kp_ldI (S31 hp f) 31 (nI k) = some (f k) := by
  have := ld_at (cv31 (S31_CV h f)) (by decide) hk
  rw [up_at] at this
  exact this
theorem S31_st (h : CV hp ks ka kl kr) {k : Nat} (hk : k < 6) (x : Int32) : kp_stI (S31 hp f) 31 (nI k) x = some (S31 hp (upd f k x)) := by
  have := st_at (cv31 (S31_CV h f)) (by decide) hk x
  rw [up_at] at this
  rw [this]
  unfold S31
  rw [List.set_set]
theorem S31_fill (h : CV hp ks ka kl kr) : J7_fill_53178_F hp 31 (nI 0) = some (S31 hp (zf (ka 31) (fun _ => 0))) := c_fill31 h
theorem zf_at {k : Nat} (hk : k < 6) : zf g c k = nI (c k) := if_pos hk
/-- how often one does a job in a week -/
def tCt (T : Tw) (t gn p : Nat) : Nat := q_ct (fun s => decide (tD T s t gn = p)) (T 0)
theorem c_countWeek (h : CV hp ks ka kl kr) (k1 : KC hp i v nm jb tu tm) (hi : i + 5 ≤ 31 ∨ 32 ≤ i) (hV : KV v nm jb tm T) (hT : tOk T) {t gn : Nat} (ht : t ≤ 1000) (hg : gn < 64) : X1_countWeek_F (S31 hp (zf g c)) 25 i (nI t) (nI gn) = some (S31 hp (zf g (fun p => c p + tCt T t gn p))) := by
  have h0 := hT.1
  unfold X1_countWeek_F
  rw [show (nI 0, S31 hp (zf g c)) = (fun s => (nI s, S31 hp (zf g (fun p => c p + q_ct (fun s => decide (tD T s t gn = p)) s)))) 0 from rfl]
  refine lp_for (fun s => (nI s, S31 hp (zf g (fun p => c p + q_ct (fun s => decide (tD T s t gn = p)) s)))) (T 0) _ (fun s hs => ?_) ?_ 2000 (by omega)
  · have hd := tD_le hT (s := s) (t := t) (g := gn)
    have kS := S31_KC k1 hi (zf g (fun p => c p + q_ct (fun s => decide (tD T s t gn = p)) s))
    have cS := S31_CV h (zf g (fun p => c p + q_ct (fun s => decide (tD T s t gn = p)) s))
    show X1_countWeek_b3 _ _ _ _ _ _ = some (Sum.inl (nI (s + 1), S31 hp (zf g (fun p => c p + (q_ct (fun s => decide (tD T s t gn = p)) s + (if decide (tD T s t gn = p) = true then 1 else 0))))))
    unfold X1_countWeek_b3
    simp (disch := omega) only [kc_g4 kS, hV.1 0 (show 0 < 6 by omega), Option.bind_some, q_le, kc_ob kS, c_doerIn kS hV hT hs ht hg]
    rw [if_neg (show ¬ T 0 ≤ s by omega)]
    by_cases e : tD T s t gn = 6
    · rw [e, c_isPerson6, Option.bind_some, if_pos e00]
      unfold X1_countWeek_J41
      rw [nI_add, zf_cg (c' := fun p => c p + (q_ct (fun s => decide (tD T s t gn = p)) s + (if decide (6 = p) = true then 1 else 0))) (fun p hp => by
        show _ = c p + (_ + (if decide (6 = p) = true then 1 else 0))
        rw [if_neg (by simp; omega)]
        omega)]
    · have hd6 : tD T s t gn < 6 := by omega
      rw [c_isPerson hd6, Option.bind_some, if_neg e10, c25_r1 cS, Option.bind_some, S31_ld h hd6, Option.bind_some, zf_at hd6, nI_add, S31_st h hd6, Option.bind_some, zf_up _ _ hd6]
      unfold X1_countWeek_J41
      rw [nI_add, zf_cg (c' := fun p => c p + (q_ct (fun s => decide (tD T s t gn = p)) s + (if decide (tD T s t gn = p) = true then 1 else 0))) (fun p hp => by
        unfold va_up
        show (if p = tD T s t gn then c (tD T s t gn) + q_ct (fun s' => decide (tD T s' t gn = tD T s t gn)) s + 1 else c p + q_ct (fun s => decide (tD T s t gn = p)) s) = _
        by_cases e2 : p = tD T s t gn
        · rw [if_pos e2, e2, if_pos (by simp)]
          omega
        · rw [if_neg e2, if_neg (by simp; exact fun z => e2 z.symm)]
          omega)]
  · have kS := S31_KC k1 hi (zf g (fun p => c p + q_ct (fun s => decide (tD T s t gn = p)) (T 0)))
    show X1_countWeek_b3 _ _ _ _ _ _ = _
    unfold X1_countWeek_b3
    simp (disch := omega) only [kc_g4 kS, hV.1 0 (show 0 < 6 by omega), Option.bind_some, q_le]
    rw [if_pos (Nat.le_refl _)]
    rfl
def spM (c : Nat → Nat) (P : Nat) : Nat → Nat
  | 0 => 0
  | k + 1 => if P.testBit k = true then max (spM c P k) (c k) else spM c P k
def spL (c : Nat → Nat) (P : Nat) : Nat → Nat
  | 0 => 1000000
  | k + 1 => if P.testBit k = true then min (spL c P k) (c k) else spL c P k
def tSp (c : Nat → Nat) (P : Nat) : Nat := if P = 0 then 0 else spM c P 6 - spL c P 6
theorem sp_le {c : Nat → Nat} {P B : Nat} (hB : B ≤ 1000000) : ∀ k, (∀ p, p < k → c p ≤ B) → spM c P k ≤ B ∧ spL c P k ≤ 1000000 ∧ (q_any (fun p => P.testBit p) k = true → spL c P k ≤ spM c P k)
  | 0, _ => ⟨Nat.zero_le _, Nat.le_refl _, fun h => by cases h⟩
  | k + 1, h => by
    obtain ⟨a1, a2, a3⟩ := sp_le hB (P := P) k (fun p hp => h p (by omega))
    have hk := h k (by omega)
    unfold spM spL q_any
    by_cases e : P.testBit k = true
    · rw [if_pos e, if_pos e]
      refine ⟨by omega, by omega, fun _ => by omega⟩
    · rw [if_neg e, if_neg e]
      refine ⟨a1, a2, fun z => a3 ?_⟩
      rw [Bool.or_eq_true] at z
      exact z.resolve_right e
theorem any_bit {P : Nat} (h : P < 64) (h0 : P ≠ 0) : q_any (fun p => P.testBit p) 6 = true := by
  rw [q_any_iff]
  apply Classical.byContradiction
  intro hn
  apply h0
  apply Nat.eq_of_testBit_eq
  intro k
  rw [Nat.zero_testBit]
  by_cases hk : k < 6
  · cases hb : P.testBit k
    · rfl
    · exact absurd ⟨k, hk, hb⟩ hn
  · exact Nat.testBit_lt_two_pow (Nat.lt_of_lt_of_le h (Nat.pow_le_pow_right (n := 2) (by omega) (show 6 ≤ k by omega)))
theorem tSp_le {c : Nat → Nat} {P B : Nat} (hB : B ≤ 1000000) (h : ∀ p, p < 6 → c p ≤ B) : tSp c P ≤ B := by
  unfold tSp
  have := (sp_le hB (P := P) 6 h).1
  split <;> omega
theorem c_spreadOver (h : CV hp ks ka kl kr) {P : Nat} (hP : P < 64) {B : Nat} (hB : B ≤ 1000000) (hc : ∀ p, p < 6 → c p ≤ B) : X1_spreadOver_F (S31 hp (zf g c)) 25 (nI P) = some (nI (tSp c P)) := by
  have cS := S31_CV h (zf g c)
  unfold X1_spreadOver_F
  rw [show (nI 0, nI 1000000, nI 0) = (fun k => (nI (spM c P k), nI (spL c P k), nI k)) 0 from rfl]
  refine lp_for (fun k => (nI (spM c P k), nI (spL c P k), nI k)) 6 _ (fun k hk => ?_) ?_ 2000 (by omega)
  · obtain ⟨a1, a2, -⟩ := sp_le hB (P := P) k (fun p hp => hc p (by omega))
    have hck := hc k hk
    show X1_spreadOver_b8 _ _ _ _ _ _ = some (Sum.inl (nI (if P.testBit k = true then max (spM c P k) (c k) else spM c P k), nI (if P.testBit k = true then min (spL c P k) (c k) else spL c P k), nI (k + 1)))
    unfold X1_spreadOver_b8 X1_spreadOver_J48
    rw [if_neg (fun z => by have := (q_le (show 6 < 2147483648 by decide) (show k < 2147483648 by omega)).mp z; omega), c_holds hP (by omega), Option.bind_some]
    by_cases e : P.testBit k = true
    · simp only [if_pos e, if_neg e10, c25_r1 cS, Option.bind_some, S31_ld h hk, zf_at hk, nI_add]
      have m1 : kp_max (nI (spM c P k)) (nI (c k)) = nI (max (spM c P k) (c k)) := by
        unfold kp_max
        by_cases z : spM c P k < c k
        · rw [if_pos ((q_lt (by omega) (by omega)).mpr z), Nat.max_eq_right (by omega)]
        · rw [if_neg (fun y => z ((q_lt (by omega) (by omega)).mp y)), Nat.max_eq_left (by omega)]
      have m2 : kp_min (nI (spL c P k)) (nI (c k)) = nI (min (spL c P k) (c k)) := by
        unfold kp_min
        by_cases z : c k < spL c P k
        · rw [if_pos ((q_lt (by omega) (by omega)).mpr z), Nat.min_eq_right (by omega)]
        · rw [if_neg (fun y => z ((q_lt (by omega) (by omega)).mp y)), Nat.min_eq_left (by omega)]
      rw [m1, m2]
    · rw [if_neg e, if_neg e, if_neg e, if_pos e00, nI_add]
  · obtain ⟨a1, a2, a3⟩ := sp_le hB (P := P) 6 hc
    show X1_spreadOver_b8 _ _ _ _ _ _ = _
    unfold X1_spreadOver_b8
    rw [if_pos ((q_le (by omega) (by omega)).mpr (Nat.le_refl _))]
    unfold X1_spreadOver_J54 tSp
    by_cases e : P = 0
    · rw [if_pos ((q_eq0 (by omega)).mpr e), if_pos e]
      rfl
    · rw [if_neg (fun z => e ((q_eq0 (by omega)).mp z)), if_neg e]
      have := a3 (any_bit hP e)
      have e2 := q_sub (spL c P 6) (spM c P 6 - spL c P 6)
      rw [show spL c P 6 + (spM c P 6 - spL c P 6) = spM c P 6 by omega] at e2
      rw [e2]
      rfl
end S31s
/-! the reference's side -/
theorem q_sm_cg {f f' : Nat → Nat} : ∀ n, (∀ k, k < n → f k = f' k) → q_sm f n = q_sm f' n
  | 0, _ => rfl
  | n + 1, h => by
    unfold q_sm
    rw [q_sm_cg n (fun k hk => h k (by omega)), h n (by omega)]
theorem q_sm_add (f g : Nat → Nat) : ∀ n, q_sm (fun k => f k + g k) n = q_sm f n + q_sm g n
  | 0 => rfl
  | n + 1 => by
    unfold q_sm
    rw [q_sm_add f g n]
    omega
theorem q_ct_split {T : Tw} (hT : tOk T) {t gn p : Nat} (hp6 : p < 6) : ∀ n, q_sm (fun jb => q_ct (tc T t gn (6 * p + jb)) n) 6 = q_ct (fun s => decide (tD T s t gn = p)) n
  | 0 => rfl
  | n + 1 => by
    have ih := q_ct_split hT (t := t) (gn := gn) hp6 n
    have hd := tD_le hT (s := n) (t := t) (g := gn)
    have hj := tJ_le hT (s := n) (t := t)
    show q_sm (fun jb => q_ct (tc T t gn (6 * p + jb)) n + (if tc T t gn (6 * p + jb) n = true then 1 else 0)) 6 = q_ct (fun s => decide (tD T s t gn = p)) n + (if decide (tD T n t gn = p) = true then 1 else 0)
    rw [q_sm_add, ih]
    congr 1
    have hz : ∀ jb, (if tc T t gn (6 * p + jb) n = true then 1 else 0) = (if tD T n t gn ≠ 6 ∧ 6 * tD T n t gn + tJ T n t = 6 * p + jb then 1 else 0) := fun jb => by
      unfold tc
      simp only [decide_eq_true_eq]
    rw [q_sm_cg 6 (fun jb _ => hz jb)]
    show 0 + _ + _ + _ + _ + _ + _ = _
    by_cases e : tD T n t gn = p
    · have e6 : tD T n t gn ≠ 6 := by omega
      have j6 := tD_job e6
      rw [if_pos (by simp [e])]
      rcases (show tJ T n t = 0 ∨ tJ T n t = 1 ∨ tJ T n t = 2 ∨ tJ T n t = 3 ∨ tJ T n t = 4 ∨ tJ T n t = 5 by omega) with z | z | z | z | z | z <;> rw [z, e] <;> simp <;> omega
    · rw [if_neg (by simp [e])]
      by_cases e6 : tD T n t gn = 6
      · simp [e6]
      · have j6 := tD_job e6
        have z0 : ∀ jb, jb < 6 → (if tD T n t gn ≠ 6 ∧ 6 * tD T n t gn + tJ T n t = 6 * p + jb then 1 else 0) = 0 := fun jb hjb => if_neg (by omega)
        simp only [z0 0 (by omega), z0 1 (by omega), z0 2 (by omega), z0 3 (by omega), z0 4 (by omega), z0 5 (by omega)]
theorem tS_pass {T : Tw} (hT : tOk T) (z : Int) {p : Nat} (hp6 : p < 6) : tS (tP T z) p = tS T p + tCt T (T 4) (T 5) p := by
  unfold tS tCt
  rw [← q_ct_split hT hp6, ← q_sm_add]
  refine q_sm_cg 6 (fun jb hjb => ?_)
  show tP T z (30 + (6 * p + jb)) = _
  unfold tP
  rw [if_neg (by omega), if_neg (by omega), if_neg (by omega), if_pos (by omega), show 30 + (6 * p + jb) - 30 = 6 * p + jb by omega]
theorem m_diffTried {C P : kw_H} {sc : Nat → Int32} {ar : Nat → Nat → Int32} {f : Nat → Int32} {T T' : Tw} (hC : C.length = 38) (hA : tA f 0 T) (hA' : tA f 1782 T') (hT' : tOk T') {c : Nat → Nat} {B : Nat} (hB : B ≤ 1000000) (hc : ∀ p, p < 6 → c p ≤ B) (hS : ∀ p, p < 6 → tS T' p = tS T p + c p) : X12_differenceTried_F (hR C sc ar P f) 38 = some (nI (tSp c (tOn T' 6 (T' 0)))) := by
  obtain ⟨h0, h1, -, -, -, -, h6, h7, -⟩ := id hT'
  have hP := tOn_lt (T := T') (b := 6) (n := T' 0) h6
  unfold X12_differenceTried_F
  rw [r_ob hC, Option.bind_some, m_onWheel (c := 0) (w := 6) hC (show 1782 ≤ 1782 by omega) hA'.tL (by omega) (by omega) h0.2 h6, Option.bind_some]
  generalize tOn T' 6 (T' 0) = Q at hP
  refine lp_for (fun k => (if q_any (fun p => Q.testBit p) k = true then nI (spM c Q k) else (-1000000), nI (spL c Q k), nI k)) 6 _ (fun k hk => ?_) ?_ 2000 (by omega)
  · obtain ⟨a1, a2, -⟩ := sp_le hB (P := Q) k (fun p hp => hc p (by omega))
    have hck := hc k hk
    show X12_differenceTried_b20 _ _ _ _ _ _ = some (Sum.inl (if (q_any (fun p => Q.testBit p) k || Q.testBit k) = true then nI (if Q.testBit k = true then max (spM c Q k) (c k) else spM c Q k) else (-1000000), nI (if Q.testBit k = true then min (spL c Q k) (c k) else spL c Q k), nI (k + 1)))
    unfold X12_differenceTried_b20 X12_differenceTried_J67 X12_differenceTried_J80 X12_differenceTried_J81
    have eb : nI (tS T' k) - nI (tS T k) = nI (c k) := by rw [hS k hk, q_sub]
    rw [if_neg (fun z => by have := (q_le (show 6 < 2147483648 by decide) (show k < 2147483648 by omega)).mp z; omega), m_has hP (by omega), Option.bind_some]
    by_cases e : Q.testBit k = true
    · simp only [if_pos e, if_neg e10, r_ob hC, Option.bind_some, m_doneBy hC (show 1782 ≤ 1782 by omega) hA' hk, m_doneBy hC (show 0 ≤ 1782 by omega) hA hk, eb, nI_add, e, Bool.or_true, if_true]
      have m2 : ∀ x : Int32, (if nI (spL c Q k) ≤ nI (c k) then (some (Sum.inl (x, nI (spL c Q k), nI (k + 1))) : Option ((Int32 × Int32 × Int32) ⊕ Int32)) else some (Sum.inl (x, nI (c k), nI (k + 1)))) = some (Sum.inl (x, nI (min (spL c Q k) (c k)), nI (k + 1))) := fun x => by
        by_cases z : spL c Q k ≤ c k
        · rw [if_pos ((q_le (by omega) (by omega)).mpr z), Nat.min_eq_left z]
        · rw [if_neg (fun y => z ((q_le (by omega) (by omega)).mp y)), Nat.min_eq_right (by omega)]
      rw [m2, m2]
      cases ha : q_any (fun p => Q.testBit p) k with
      | true =>
        simp only [if_true]
        by_cases z : c k ≤ spM c Q k
        · rw [if_pos ((q_le (by omega) (by omega)).mpr z), Nat.max_eq_left z]
        · rw [if_neg (fun y => z ((q_le (by omega) (by omega)).mp y)), Nat.max_eq_right (by omega)]
      | false =>
        simp only [Bool.false_eq_true, if_false]
        have hz : spM c Q k = 0 := by
          have key : ∀ k, q_any (fun p => Q.testBit p) k = false → spM c Q k = 0 := by
            intro k
            induction k with
            | zero => intro _; rfl
            | succ k ih =>
              intro hh
              unfold q_any at hh
              rw [Bool.or_eq_false_iff] at hh
              unfold spM
              rw [if_neg (by rw [hh.2]; decide)]
              exact ih hh.1
          exact key k ha
        rw [if_neg (fun z => by
          rw [Int32.le_iff_toInt_le, eI_n, eI_toInt (by omega) (by omega)] at z
          have : (-1000000 : Int32).toInt = -1000000 := by decide
          omega), hz, Nat.max_eq_right (by omega)]
    · have e' : Q.testBit k = false := by simpa using e
      simp only [e', Bool.false_eq_true, if_false, if_pos e00, nI_add, Bool.or_false]
  · obtain ⟨a1, a2, a3⟩ := sp_le hB (P := Q) 6 hc
    show X12_differenceTried_b20 _ _ _ _ _ _ = _
    unfold X12_differenceTried_b20
    rw [if_pos ((q_le (by omega) (by omega)).mpr (Nat.le_refl _))]
    unfold X12_differenceTried_J87 tSp
    by_cases e : Q = 0
    · rw [if_pos ((q_eq0 (by omega)).mpr e), if_pos e]
      rfl
    · rw [if_neg (fun z => e ((q_eq0 (by omega)).mp z)), if_neg e]
      have ab := any_bit hP e
      have := a3 ab
      have e2 := q_sub (spL c Q 6) (spM c Q 6 - spL c Q 6)
      rw [show spL c Q 6 + (spM c Q 6 - spL c Q 6) = spM c Q 6 by omega] at e2
      simp only [ab, if_true]
      rw [e2]
      rfl
