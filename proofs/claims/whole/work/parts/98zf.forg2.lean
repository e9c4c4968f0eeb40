/-! ===== forgets, both ===== -/
def zl (g : Nat → Int64) (c : Nat → Nat) : Nat → Int64 := fun t => if t < 8 then lN (c t) else g t
theorem zl_at {g : Nat → Int64} {c : Nat → Nat} {k : Nat} (hk : k < 8) : zl g c k = lN (c k) := if_pos hk
theorem zl_up (g : Nat → Int64) (c : Nat → Nat) {k : Nat} (hk : k < 8) (x : Nat) : vp_updL (zl g c) k (lN x) = zl g (va_up c k x) := by
  funext t
  unfold vp_updL zl va_up
  by_cases e : t = k
  · rw [if_pos e, if_pos (by omega), if_pos e]
  · rw [if_neg e, if_neg e]
theorem zl_zl (g : Nat → Int64) (c c' : Nat → Nat) : zl (zl g c) c' = zl g c' := by
  funext t
  unfold zl
  by_cases e : t < 8
  · rw [if_pos e, if_pos e]
  · rw [if_neg e, if_neg e, if_neg e]
theorem ldJ_at {hp : kw_H} {a n : Nat} {f : Nat → Int64} (h : hp[a]? = some (.inl (1, n, .inr (.inl f)))) (hn : n ≤ 2147483648) {j : Nat} (hj : j < n) : kp_ldJ hp a (nI j) = some (f j) := by
  unfold kp_ldJ
  rw [h]
  show (if nI j < 0 ∨ n ≤ (nI j).toNatClampNeg then none else some (f (nI j).toNatClampNeg)) = _
  rw [q_cl (by omega), if_neg (q_in hj hn)]
theorem stJ_at {hp : kw_H} {a n : Nat} {f : Nat → Int64} (h : hp[a]? = some (.inl (1, n, .inr (.inl f)))) (hn : n ≤ 2147483648) {j : Nat} (hj : j < n) (x : Int64) : kp_stJ hp a (nI j) x = some (hp.set a (.inl (1, n, .inr (.inl (vp_updL f j x))))) := by
  unfold kp_stJ
  rw [h]
  show (if nI j < 0 ∨ n ≤ (nI j).toNatClampNeg then none else some (hp.set a (.inl (1, n, .inr (.inl (vp_updL f (nI j).toNatClampNeg x)))))) = _
  rw [q_cl (by omega), if_neg (q_in hj hn)]
theorem fillJ_at {hp : kw_H} {a : Nat} {f : Nat → Int64} (h : hp[a]? = some (.inl (1, 8, .inr (.inl f)))) : J7_fill_d0a16_F hp a (lN 0) = some (hp.set a (.inl (1, 8, .inr (.inl (zl f (fun _ => 0)))))) := by
  have hl : a < hp.length := (List.getElem?_eq_some_iff.mp h).1
  have e0 : kp_len hp a = some (nI 8) := by
    unfold kp_len
    rw [h]; rfl
  unfold J7_fill_d0a16_F
  rw [e0, Option.bind_some]
  have e1 : hp = hp.set a (.inl (1, 8, .inr (.inl (fun t => if t < 0 then lN 0 else f t)))) := by
    have : (fun t => if t < 0 then lN 0 else f t) = f := by funext t; rw [if_neg (by omega)]
    rw [this, set_same h]
  conv => lhs; rw [e1]
  refine lp_for (fun i => (nI i, hp.set a (.inl (1, 8, .inr (.inl (fun t => if t < i then lN 0 else f t)))))) 8 _ (fun i hi => ?_) ?_ 2000 (by decide)
  · show J7_fill_d0a16_b6 _ _ _ _ _ = _
    unfold J7_fill_d0a16_b6
    simp (disch := omega) only [q_le]
    rw [if_neg (by omega), stJ_at (List.getElem?_set_self hl) (by decide) hi, Option.bind_some, List.set_set, nI_add]
    have ef : vp_updL (fun t => if t < i then lN 0 else f t) i (lN 0) = fun t => if t < i + 1 then lN 0 else f t := by
      funext t
      unfold vp_updL
      by_cases e : t = i
      · rw [if_pos e, if_pos (by omega)]
      · rw [if_neg e]
        by_cases e2 : t < i
        · exact (if_pos e2).trans (if_pos (show t < i + 1 by omega)).symm
        · exact (if_neg e2).trans (if_neg (show ¬ t < i + 1 by omega)).symm
    rw [ef]
  · show J7_fill_d0a16_b6 _ _ _ _ _ = _
    unfold J7_fill_d0a16_b6
    simp (disch := omega) only [q_le]
    rw [if_pos (by omega)]
    rfl
def HJ (hp : kw_H) (c d : Nat → Int64) : kw_H := (hp.set 32 (.inl (1, 8, .inr (.inl c)))).set 33 (.inl (1, 8, .inr (.inl d)))
section HJs
variable {hp : kw_H} {ks ka : Nat → Nat → Int32} {kl : Nat → Nat → Int64} {kr : Nat → Nat → Option Nat} {c d : Nat → Int64}
theorem HJ_32 (h : 33 < hp.length) : (HJ hp c d)[32]? = some (.inl (1, 8, .inr (.inl c))) := by
  unfold HJ
  rw [List.getElem?_set_ne (by omega), List.getElem?_set_self (by omega)]
theorem HJ_33 (h : 33 < hp.length) : (HJ hp c d)[33]? = some (.inl (1, 8, .inr (.inl d))) := by
  unfold HJ
  rw [List.getElem?_set_self (by rw [List.length_set]; exact h)]
theorem HJ_o {q : Nat} (h1 : q ≠ 32) (h2 : q ≠ 33) : (HJ hp c d)[q]? = hp[q]? := by
  unfold HJ
  rw [List.getElem?_set_ne (Ne.symm h2), List.getElem?_set_ne (Ne.symm h1)]
theorem HJ_len : (HJ hp c d).length = hp.length := by
  unfold HJ
  rw [List.length_set, List.length_set]
theorem HJ_s32 (c' : Nat → Int64) : (HJ hp c d).set 32 (.inl (1, 8, .inr (.inl c'))) = HJ hp c' d := by
  unfold HJ
  rw [List.set_comm _ _ (show (33 : Nat) ≠ 32 by omega), List.set_set]
theorem HJ_s33 (d' : Nat → Int64) : (HJ hp c d).set 33 (.inl (1, 8, .inr (.inl d'))) = HJ hp c d' := by
  unfold HJ
  rw [List.set_set]
theorem CV_HJ (h : CV hp ks ka kl kr) (h33 : 33 < hp.length) : CV (HJ hp c d) ks ka (fun q => if q = 32 then c else if q = 33 then d else kl q) kr := by
  intro q hq
  rcases (show q = 0 ∨ q = 1 ∨ q = 2 ∨ q = 3 ∨ q = 4 ∨ q = 5 ∨ q = 6 ∨ q = 7 ∨ q = 8 ∨ q = 9 ∨ q = 10 ∨ q = 11 ∨ q = 12 ∨ q = 13 ∨ q = 14 ∨ q = 15 ∨ q = 16 ∨ q = 17 ∨ q = 18 ∨ q = 19 ∨ q = 20 ∨ q = 21 ∨ q = 22 ∨ q = 23 ∨ q = 24 ∨ q = 25 ∨ q = 26 ∨ q = 27 ∨ q = 28 ∨ q = 29 ∨ q = 30 ∨ q = 31 ∨ q = 32 ∨ q = 33 ∨ q = 34 ∨ q = 35 ∨ q = 36 ∨ q = 37 by omega) with rfl | rfl | rfl | rfl | rfl | rfl | rfl | rfl | rfl | rfl | rfl | rfl | rfl | rfl | rfl | rfl | rfl | rfl | rfl | rfl | rfl | rfl | rfl | rfl | rfl | rfl | rfl | rfl | rfl | rfl | rfl | rfl | rfl | rfl | rfl | rfl | rfl | rfl
  · exact (HJ_o (by omega) (by omega)).trans (h 0 (by omega))
  · exact (HJ_o (by omega) (by omega)).trans (h 1 (by omega))
  · exact (HJ_o (by omega) (by omega)).trans (h 2 (by omega))
  · exact (HJ_o (by omega) (by omega)).trans (h 3 (by omega))
  · exact (HJ_o (by omega) (by omega)).trans (h 4 (by omega))
  · exact (HJ_o (by omega) (by omega)).trans (h 5 (by omega))
  · exact (HJ_o (by omega) (by omega)).trans (h 6 (by omega))
  · exact (HJ_o (by omega) (by omega)).trans (h 7 (by omega))
  · exact (HJ_o (by omega) (by omega)).trans (h 8 (by omega))
  · exact (HJ_o (by omega) (by omega)).trans (h 9 (by omega))
  · exact (HJ_o (by omega) (by omega)).trans (h 10 (by omega))
  · exact (HJ_o (by omega) (by omega)).trans (h 11 (by omega))
  · exact (HJ_o (by omega) (by omega)).trans (h 12 (by omega))
  · exact (HJ_o (by omega) (by omega)).trans (h 13 (by omega))
  · exact (HJ_o (by omega) (by omega)).trans (h 14 (by omega))
  · exact (HJ_o (by omega) (by omega)).trans (h 15 (by omega))
  · exact (HJ_o (by omega) (by omega)).trans (h 16 (by omega))
  · exact (HJ_o (by omega) (by omega)).trans (h 17 (by omega))
  · exact (HJ_o (by omega) (by omega)).trans (h 18 (by omega))
  · exact (HJ_o (by omega) (by omega)).trans (h 19 (by omega))
  · exact (HJ_o (by omega) (by omega)).trans (h 20 (by omega))
  · exact (HJ_o (by omega) (by omega)).trans (h 21 (by omega))
  · exact (HJ_o (by omega) (by omega)).trans (h 22 (by omega))
  · exact (HJ_o (by omega) (by omega)).trans (h 23 (by omega))
  · exact (HJ_o (by omega) (by omega)).trans (h 24 (by omega))
  · exact (HJ_o (by omega) (by omega)).trans (h 25 (by omega))
  · exact (HJ_o (by omega) (by omega)).trans (h 26 (by omega))
  · exact (HJ_o (by omega) (by omega)).trans (h 27 (by omega))
  · exact (HJ_o (by omega) (by omega)).trans (h 28 (by omega))
  · exact (HJ_o (by omega) (by omega)).trans (h 29 (by omega))
  · exact (HJ_o (by omega) (by omega)).trans (h 30 (by omega))
  · exact (HJ_o (by omega) (by omega)).trans (h 31 (by omega))
  · exact HJ_32 h33
  · exact HJ_33 h33
  · exact (HJ_o (by omega) (by omega)).trans (h 34 (by omega))
  · exact (HJ_o (by omega) (by omega)).trans (h 35 (by omega))
  · exact (HJ_o (by omega) (by omega)).trans (h 36 (by omega))
  · exact (HJ_o (by omega) (by omega)).trans (h 37 (by omega))
theorem HJ_KC {i : Nat} {v nm jb tm : Nat → Int32} {tu : Nat → Option Nat} (k : KC hp i v nm jb tu tm) (hi : i + 5 ≤ 32 ∨ 34 ≤ i) : KC (HJ hp c d) i v nm jb tu tm :=
  KC_fr (X := fun q => q = 32 ∨ q = 33) (fun q hq => HJ_o (by omega) (by omega)) (fun k hk => by omega) k
theorem HJ_TU {T : Tw} {tu : Nat → Option Nat} (h : CV hp ks ka kl kr) (k : TU hp tu T) : TU (HJ hp c d) tu T :=
  TU_fr (X := fun q => q = 32 ∨ q = 33) (fun q hq => HJ_o (by omega) (by omega)) (fun q hq => CV_NT h (by omega)) k
end HJs
theorem q_10p {p : Nat} (hp : p ≤ 10) : (nI 10 - nI p).toInt64 = lN (10 - p) := by
  have e := q_sub p (10 - p)
  rw [show p + (10 - p) = 10 by omega] at e
  rw [e, nI_l (by omega)]
theorem q_divL {a b : Nat} (ha : a < 2 ^ 63) (h0 : 0 < b) (hb : b < 2 ^ 63) : kp_divL (lN a) (lN b) = some (lN (a / b)) := by
  unfold kp_divL
  rw [if_neg (fun z => by
    have z : lN b = lN 0 := z
    rw [pk_lEQ hb (by omega)] at z
    omega), pk_lDiv ha h0 hb]
/-- how a week turns -/
def fNx (T : Tw) (i t : Nat) : Nat := tN T t (T 3 + i)
def fD (T : Tw) (pr q n t : Nat) : Nat := if (tDs T q t (tAw T n)).testBit pr = true then 1 else 0
section CForg
variable {hp : kw_H} {ks ka : Nat → Nat → Int32} {kl : Nat → Nat → Int64} {kr : Nat → Nat → Option Nat} {v nm jb tm : Nat → Int32} {tu : Nat → Option Nat} {T : Tw}
theorem c_passForg (h : CV hp ks ka kl kr) (k1 : KC hp 20 v nm jb tu tm) (hV : KV v nm jb tm T) (k3 : TU hp tu T) (hT : tReal T) {p i : Nat} (hp10 : p ≤ 10) (hi : i ≤ 60) {g g' d : Nat → Int64} {c : Nat → Nat} (hd : ∀ y, zl d y = zl g' y) : X1_passForgetful_F (HJ hp (zl g c) d) 25 20 (nI (T 3 + i)) (nI p) = some (HJ hp (zl g (pS c (fNx T i) p (T 1))) (zl g' (pS c (fNx T i) p (T 1)))) := by
  have h999 := hT.2
  have h18 := hT.1.2.1
  have h33 : 33 < hp.length := (List.getElem?_eq_some_iff.mp (cv33 h)).1
  have cd := CV_HJ (c := zl g c) (d := d) h h33
  unfold X1_passForgetful_F
  rw [c25_r3 cd, Option.bind_some, fillJ_at (HJ_33 h33), Option.bind_some, HJ_s33, hd]
  refine lp_for (fun s => (nI s, HJ hp (zl g c) (zl g' (pS c (fNx T i) p s)))) (T 1) _ (fun s hs => ?_) ?_ 2000 (by omega)
  · have cs := CV_HJ (c := zl g c) (d := zl g' (pS c (fNx T i) p s)) h h33
    have ks' := HJ_KC (c := zl g c) (d := zl g' (pS c (fNx T i) p s)) k1 (by omega)
    have ts := HJ_TU (c := zl g c) (d := zl g' (pS c (fNx T i) p s)) h k3
    have hnx : fNx T i s < T 1 := tN_lt hT.1.2.1.1 _ _
    have cs2 := CV_HJ (c := zl g c) (d := zl g' (va_up (pS c (fNx T i) p s) s (pS c (fNx T i) p s s + c s * p))) h h33
    have et := c_turnedNext ks' hV hT.1 ts (show s ≤ 1000 by omega) (show T 3 + i ≤ 2000 by omega)
    have et : X2_turnedNext_F (HJ hp (zl g c) (zl g' (pS c (fNx T i) p s))) 20 (nI s) (nI (T 3 + i)) = some (nI (fNx T i s)) := et
    have s1 := stJ_at (HJ_33 h33 (c := zl g c) (d := zl g' (pS c (fNx T i) p s))) (by decide) (show s < 8 by omega) (lN (pS c (fNx T i) p s s + c s * p))
    rw [HJ_s33, zl_up _ _ (by omega)] at s1
    have s2 := stJ_at (HJ_33 h33 (c := zl g c) (d := zl g' (va_up (pS c (fNx T i) p s) s (pS c (fNx T i) p s s + c s * p)))) (by decide) (show fNx T i s < 8 by omega) (lN (va_up (pS c (fNx T i) p s) s (pS c (fNx T i) p s s + c s * p) (fNx T i s) + c s * (10 - p)))
    rw [HJ_s33, zl_up _ _ (by omega)] at s2
    have w1 : ∀ H, X11_within_F H (nI (fNx T i s)) (nI 0) (nI 7) = some (nI 1) := fun H => by rw [c_within, if_pos ⟨(q_le (by omega) (by omega)).mpr (by omega), (q_le (by omega) (by omega)).mpr (by omega)⟩]
    show X1_passForgetful_b11 _ _ _ _ _ _ = some (Sum.inl (nI (s + 1), HJ hp (zl g c) (zl g' (va_up (va_up (pS c (fNx T i) p s) s (pS c (fNx T i) p s s + c s * p)) (fNx T i s) (va_up (pS c (fNx T i) p s) s (pS c (fNx T i) p s s + c s * p) (fNx T i s) + c s * (10 - p))))))
    unfold X1_passForgetful_b11 X1_passForgetful_J90
    rw [kc_g5 ks', Option.bind_some, hV.1 1 (by omega), if_neg (fun z => by have := (q_le (show T 1 < 2147483648 by omega) (show s < 2147483648 by omega)).mp z; omega), if_neg (fun z => by have := (q_le (show 8 < 2147483648 by omega) (show s < 2147483648 by omega)).mp z; omega), kc_ob ks', Option.bind_some, et, Option.bind_some, c25_r3 cs, Option.bind_some, ldJ_at (HJ_33 h33) (by decide) (show s < 8 by omega), Option.bind_some, c25_r2 cs, Option.bind_some, ldJ_at (HJ_32 h33) (by decide) (show s < 8 by omega), Option.bind_some, zl_at (show s < 8 by omega), zl_at (show s < 8 by omega), nI_l (show p < 2 ^ 31 by omega), lN_mul, lN_add, s1, Option.bind_some, w1, Option.bind_some, if_neg e10, c25_r3 cs2, Option.bind_some, ldJ_at (HJ_33 h33) (by decide) (show fNx T i s < 8 by omega), Option.bind_some, c25_r2 cs2, Option.bind_some, ldJ_at (HJ_32 h33) (by decide) (show s < 8 by omega), Option.bind_some, zl_at (show fNx T i s < 8 by omega), zl_at (show s < 8 by omega), q_10p hp10, lN_mul, lN_add, s2, Option.bind_some, nI_add]
  · have cs := CV_HJ (c := zl g c) (d := zl g' (pS c (fNx T i) p (T 1))) h h33
    have ks' := HJ_KC (c := zl g c) (d := zl g' (pS c (fNx T i) p (T 1))) k1 (by omega)
    show X1_passForgetful_b11 _ _ _ _ _ _ = _
    unfold X1_passForgetful_b11
    rw [kc_g5 ks', Option.bind_some, hV.1 1 (by omega), if_pos ((q_le (by omega) (by omega)).mpr (Nat.le_refl _))]
    unfold X1_passForgetful_J96
    have ec : kp_cpJ (HJ hp (zl g c) (zl g' (pS c (fNx T i) p (T 1)))) 33 (nI 0) 32 (nI 0) (nI 8) = some (HJ hp (zl g (pS c (fNx T i) p (T 1))) (zl g' (pS c (fNx T i) p (T 1)))) := by
      unfold kp_cpJ
      rw [HJ_33 h33, HJ_32 h33]
      show (if nI 0 < 0 ∨ nI 0 < 0 ∨ nI 8 < 0 ∨ 8 < (nI 0).toNatClampNeg + (nI 8).toNatClampNeg ∨ 8 < (nI 0).toNatClampNeg + (nI 8).toNatClampNeg then none else some ((HJ hp (zl g c) (zl g' (pS c (fNx T i) p (T 1)))).set 32 (.inl (1, 8, .inr (.inl (va_cpy (zl g' (pS c (fNx T i) p (T 1))) (zl g c) (nI 0).toNatClampNeg (nI 0).toNatClampNeg (nI 8).toNatClampNeg)))))) = _
      rw [if_neg (by decide), HJ_s32]
      have : va_cpy (zl g' (pS c (fNx T i) p (T 1))) (zl g c) (nI 0).toNatClampNeg (nI 0).toNatClampNeg (nI 8).toNatClampNeg = zl g (pS c (fNx T i) p (T 1)) := by
        rw [q_cl (show 0 < 2147483648 by decide), q_cl (show 8 < 2147483648 by decide)]
        funext t
        by_cases e : t < 8
        · rw [cpy_lt e, zl_at e, zl_at e]
        · unfold va_cpy zl
          rw [if_neg (by omega), if_neg e, if_neg e]
      rw [this]
    show ((kp_gR (HJ hp (zl g c) (zl g' (pS c (fNx T i) p (T 1)))) 25 [1] 3).bind fun v4 => (kp_gR (HJ hp (zl g c) (zl g' (pS c (fNx T i) p (T 1)))) 25 [1] 2).bind fun v5 => (kp_cpJ (HJ hp (zl g c) (zl g' (pS c (fNx T i) p (T 1)))) v4 (nI 0) v5 (nI 0) (nI 8)).bind fun hp6 => some hp6).map _ = _
    rw [c25_r3 cs, Option.bind_some, c25_r2 cs, Option.bind_some, ec]
    rfl
theorem c_cases (h : CV hp ks ka kl kr) (k1 : KC hp 20 v nm jb tu tm) (hV : KV v nm jb tm T) (k3 : TU hp tu T) (hT : tReal T) {pr q n p : Nat} (hr6 : pr < 6) (hq6 : q < 6) (hn : n ≤ 8) (hp10 : p ≤ 10) : ∃ c d, X1_casesOf_F hp 25 20 (nI pr) (nI q) (nI n) (nI p) = some (lN (gG (fNx T) p (fD T pr q n) n 0 (T 4)), HJ hp c d) := by
  have h999 := hT.2
  have h18 := hT.1.2.1
  have h4 := hT.1.2.2.2.2.1
  have h33 : 33 < hp.length := (List.getElem?_eq_some_iff.mp (cv33 h)).1
  obtain ⟨D, hD⟩ : ∃ D : Nat → Nat → Int64, D = fun i => if i = 0 then kl 33 else zl (kl 33) (pC (fNx T) p (T 1) (T 4) i) := ⟨_, rfl⟩
  have hDz : ∀ i y, zl (D i) y = zl (kl 33) y := fun i y => by
    rw [hD]
    by_cases e : i = 0
    · simp only [e, if_true]
    · simp only [e, if_false]
      exact zl_zl _ _ _
  refine ⟨zl (kl 32) (pC (fNx T) p (T 1) (T 4) n), D n, ?_⟩
  have e1 : hp.set 32 (.inl (1, 8, .inr (.inl (zl (kl 32) (fun _ => 0))))) = HJ hp (zl (kl 32) (fun _ => 0)) (kl 33) := by
    unfold HJ
    rw [set_same (c := .inl (1, 8, .inr (.inl (kl 33)))) (by rw [List.getElem?_set_ne (by omega)]; exact cv33 h)]
  have cs := CV_HJ (c := zl (kl 32) (fun _ => 0)) (d := kl 33) h h33
  have kk := HJ_KC (c := zl (kl 32) (fun _ => 0)) (d := kl 33) k1 (by omega)
  have s1 := stJ_at (HJ_32 h33 (c := zl (kl 32) (fun _ => 0)) (d := kl 33)) (by decide) (show T 4 < 8 by omega) (lN 1)
  rw [HJ_s32, zl_up _ _ (by omega)] at s1
  have w1 : ∀ H, X11_within_F H (nI (T 4)) (nI 0) (nI 7) = some (nI 1) := fun H => by rw [c_within, if_pos ⟨(q_le (by omega) (by omega)).mpr (by omega), (q_le (by omega) (by omega)).mpr (by omega)⟩]
  unfold X1_casesOf_F
  rw [c25_r2 h, Option.bind_some, fillJ_at (cv32 h), Option.bind_some, e1, kc_g8 kk, Option.bind_some, hV.1 4 (by omega), w1, Option.bind_some, if_neg e10, c25_r2 cs, Option.bind_some, Option.bind_some, s1, Option.bind_some]
  unfold X1_casesOf_J31
  have d0 : D 0 = kl 33 := by rw [hD]; rfl
  rw [show HJ hp (zl (kl 32) (va_up (fun _ => 0) (T 4) 1)) (kl 33) = HJ hp (zl (kl 32) (pC (fNx T) p (T 1) (T 4) 0)) (D 0) by rw [d0]; rfl]
  refine lp_for (fun i => (nI i, HJ hp (zl (kl 32) (pC (fNx T) p (T 1) (T 4) i)) (D i))) n _ (fun i hi => ?_) ?_ 2000 (by omega)
  · have cs := CV_HJ (c := zl (kl 32) (pC (fNx T) p (T 1) (T 4) i)) (d := D i) h h33
    have kk := HJ_KC (c := zl (kl 32) (pC (fNx T) p (T 1) (T 4) i)) (d := D i) k1 (by omega)
    have ep := c_passForg (p := p) (i := i) (g := kl 32) (g' := kl 33) (d := D i) (c := pC (fNx T) p (T 1) (T 4) i) h k1 hV k3 hT hp10 (by omega) (hDz i)
    have dS : D (i + 1) = zl (kl 33) (pC (fNx T) p (T 1) (T 4) (i + 1)) := by rw [hD]; rfl
    show X1_casesOf_b34 _ _ _ _ _ _ _ _ = some (Sum.inl (nI (i + 1), HJ hp (zl (kl 32) (pC (fNx T) p (T 1) (T 4) (i + 1))) (D (i + 1))))
    rw [dS]
    unfold X1_casesOf_b34
    rw [if_neg (fun z => by have := (q_le (show n < 2147483648 by omega) (show i < 2147483648 by omega)).mp z; omega), kc_g7 kk, Option.bind_some, hV.1 3 (by omega), c25_ob cs, Option.bind_some, nI_add, ep, Option.bind_some, nI_add]
    rfl
  · have cs := CV_HJ (c := zl (kl 32) (pC (fNx T) p (T 1) (T 4) n)) (d := D n) h h33
    have kk := HJ_KC (c := zl (kl 32) (pC (fNx T) p (T 1) (T 4) n)) (d := D n) k1 (by omega)
    have ea : X2_awayBehind_F (HJ hp (zl (kl 32) (pC (fNx T) p (T 1) (T 4) n)) (D n)) 20 (nI n) = some (nI (tAw T n)) := c_awayBehind kk hV (by omega)
    have hsum := pC_sum (nx := fNx T) (p := p) (N := T 1) (t0 := T 4) (fun i t _ => tN_lt hT.1.2.1.1 _ _) h4 (fD T pr q n) n 0
    rw [Nat.add_zero] at hsum
    have hsum : q_sm (fun t => pC (fNx T) p (T 1) (T 4) n t * fD T pr q n t) (T 1) = gG (fNx T) p (fD T pr q n) n 0 (T 4) := hsum
    show X1_casesOf_b34 _ _ _ _ _ _ _ _ = _
    unfold X1_casesOf_b34
    rw [if_pos ((q_le (by omega) (by omega)).mpr (Nat.le_refl _))]
    unfold X1_casesOf_J61
    have key : kp_lp (X1_casesOf_B67 (HJ hp (zl (kl 32) (pC (fNx T) p (T 1) (T 4) n)) (D n)) 25 20 (nI pr) (nI q) (nI n)) 2000 (lN 0, nI 0) = some (lN (gG (fNx T) p (fD T pr q n) n 0 (T 4)), HJ hp (zl (kl 32) (pC (fNx T) p (T 1) (T 4) n)) (D n)) := by
      rw [← hsum]
      refine lp_for (fun t => (lN (q_sm (fun t => pC (fNx T) p (T 1) (T 4) n t * fD T pr q n t) t), nI t)) (T 1) _ (fun t ht => ?_) ?_ 2000 (by omega)
      · have ed := c_doersOf kk hV hT.1 hq6 (show t ≤ 1000 by omega) (tAw_lt hT.1 n)
        show X1_casesOf_b67 _ _ _ _ _ _ _ _ = some (Sum.inl (lN (q_sm (fun t => pC (fNx T) p (T 1) (T 4) n t * fD T pr q n t) t + pC (fNx T) p (T 1) (T 4) n t * fD T pr q n t), nI (t + 1)))
        unfold X1_casesOf_b67 X1_casesOf_J115
        rw [kc_g5 kk, Option.bind_some, hV.1 1 (by omega), if_neg (fun z => by have := (q_le (show T 1 < 2147483648 by omega) (show t < 2147483648 by omega)).mp z; omega), if_neg (fun z => by have := (q_le (show 8 < 2147483648 by omega) (show t < 2147483648 by omega)).mp z; omega), kc_ob kk, Option.bind_some, ea, Option.bind_some, Option.bind_some, ed, Option.bind_some, c_holds (tDs_lt hT.1) (by omega), Option.bind_some, c25_r2 cs, Option.bind_some, ldJ_at (HJ_32 h33) (by decide) (show t < 8 by omega), Option.bind_some, zl_at (show t < 8 by omega), lN_add, nI_add]
        unfold fD
        by_cases e : (tDs T q t (tAw T n)).testBit pr = true
        · rw [if_pos e, if_neg e10, Nat.mul_one]
        · rw [if_neg e, if_pos e00, Nat.mul_zero]
          rfl
      · show X1_casesOf_b67 _ _ _ _ _ _ _ _ = _
        unfold X1_casesOf_b67
        rw [kc_g5 kk, Option.bind_some, hV.1 1 (by omega), if_pos ((q_le (by omega) (by omega)).mpr (Nat.le_refl _))]
        rfl
    show (kp_lp (X1_casesOf_B67 (HJ hp (zl (kl 32) (pC (fNx T) p (T 1) (T 4) n)) (D n)) 25 20 (nI pr) (nI q) (nI n)) 2000 (lN 0, nI 0)).map _ = _
    rw [key]
    rfl
end CForg
/-! the reference -/
theorem q_bit80 : ∀ g, g < 256 → ∀ k, k < 8 → ((nI g >>> (nI k &&& 31)) &&& (nI 1)) = nI (if g.testBit k = true then 1 else 0) := by decide +kernel
theorem m_has8 {hp : kw_H} {g k : Nat} (hg : g < 256) (hk : k < 8) : X12_has_F hp (nI g) (nI k) = some (nI (if g.testBit k = true then 1 else 0)) := by
  unfold X12_has_F
  rw [q_bit80 g hg k hk]
  by_cases h : g.testBit k = true
  · simp [h]
  · simp [h, q_eq]
theorem q_shn : ∀ n, n < 9 → (nI 1 <<< (nI n &&& 31)) = nI (2 ^ n) := by decide +kernel
/-- the town behind k weeks, forgotten those in s -/
def tFg (T : Tw) (s : Nat) : Nat → Tw
  | 0 => T
  | k + 1 => tP (tFg T s k) (if s.testBit k = true then 0 else tFar (tFg T s k))
theorem tFg_c {T : Tw} {s q : Nat} (h : q < 30) (h3 : q ≠ 3) (h4 : q ≠ 4) (h5 : q ≠ 5) : ∀ k, tFg T s k q = T q
  | 0 => rfl
  | k + 1 => by
    show tP (tFg T s k) _ q = _
    unfold tP
    rw [if_neg h3, if_neg h4, if_neg h5, if_neg (by omega), tFg_c h h3 h4 h5 k]
theorem tFg_3 (T : Tw) (s : Nat) : ∀ k, tFg T s k 3 = T 3 + k
  | 0 => rfl
  | k + 1 => by
    show tFg T s k 3 + 1 = _
    rw [tFg_3 T s k]
    omega
theorem tFg_5 (T : Tw) (s : Nat) : ∀ k, tFg T s k 5 = tAw T k
  | 0 => rfl
  | _ + 1 => rfl
theorem tFg_ok {T : Tw} (hT : tOk T) (s : Nat) : ∀ k, T 3 + k ≤ 2000 → tOk (tFg T s k)
  | 0, _ => hT
  | k + 1, h => tP_ok (tFg_ok hT s k (by omega)) (by rw [tFg_3]; omega)
theorem tFg_4 {T : Tw} (hT : tOk T) (s : Nat) : ∀ k, T 3 + k ≤ 2000 → tFg T s k 4 = pTt (fNx T) (T 4) s k
  | 0, _ => rfl
  | k + 1, h => by
    have hok := tFg_ok hT s k (by omega)
    have ih := tFg_4 hT s k (by omega)
    have h2 := hT.2.2.1
    have hm := Nat.mod_lt (T 3 + k) (show 0 < T 2 by omega)
    have e1 : tFg T s k 1 = T 1 := tFg_c (by omega) (by omega) (by omega) (by omega) k
    have lt := hok.2.2.2.2.1
    show ((tFg T s k 4 + (if s.testBit k = true then (0 : Int) else tFar (tFg T s k))) % (tFg T s k 1 : Nat)).toNat = if s.testBit k = true then pTt (fNx T) (T 4) s k else fNx T k (pTt (fNx T) (T 4) s k)
    by_cases e : s.testBit k = true
    · rw [if_pos e, if_pos e, Int.add_zero, ← Int.natCast_emod, Int.toNat_natCast, Nat.mod_eq_of_lt lt, ih]
    · rw [if_neg e, if_neg e]
      generalize pTt (fNx T) (T 4) s k = u at ih ⊢
      unfold tFar fNx tN
      rw [ih, e1, tFg_3, tFg_c (by omega) (by omega) (by omega) (by omega) k (q := 2), tFg_c (by omega) (by omega) (by omega) (by omega) k (q := 22 + (T 3 + k) % T 2), tFg_c (by omega) (by omega) (by omega) (by omega) k (q := 26 + (T 3 + k) % T 2)]
section MForg
variable {C P : kw_H} {sc : Nat → Int32} {ar : Nat → Nat → Int32} {f : Nat → Int32} {T : Tw}
theorem m_forgOne (hC : C.length = 38) (hA : tA f 0 T) (hT : tReal T) {pr q n p s : Nat} (hr6 : pr < 6) (hq6 : q < 6) (hn : n ≤ 8) (hp10 : p ≤ 10) (hs : s < 2 ^ n) (x5 : Int32) (A B : Nat) : ∃ f' : Nat → Int32, (∀ k, k < 1782 → f' k = f k) ∧ X12_forgets_b74 38 (nI pr) (nI q) (nI n) (nI p) x5 (lN A) (lN B) (nI s) (hR C sc ar P f) = some (Sum.inl (lN (A + pWy p s n * fD T pr q n (pTt (fNx T) (T 4) s n)), lN (B + pWy p s n), nI (s + 1), hR C sc ar P f')) := by
  have h999 := hT.2
  have h2 := hT.1.2.2.1
  have hs256 : s < 256 := Nat.lt_of_lt_of_le hs (Nat.pow_le_pow_right (n := 2) (by omega) hn)
  have hpn : 2 ^ n ≤ 256 := Nat.pow_le_pow_right (n := 2) (by omega) hn
  obtain ⟨f0, c1, c2, c3⟩ := m_copyTown (C := C) (P := P) (sc := sc) (ar := ar) (f := f) hC (a := 0) (b := 1782) (by omega) (by omega) (by omega)
  have a0 : tA f0 1782 (tFg T s 0) := fun k hk => by rw [c2 k hk]; exact hA k hk
  obtain ⟨F, F0, F1, F2⟩ := chain (α := Nat → Int32) (P := fun i x => tA x 1782 (tFg T s i) ∧ ∀ k, k < 1782 → x k = f k) (R := fun i x y => X12_pass_F (hR C sc ar P x) 38 (nI 1782) (eI (if s.testBit i = true then 0 else tFar (tFg T s i))) = some (hR C sc ar P y)) (x0 := f0) ⟨a0, fun k hk => c3 k (by omega)⟩ n (fun i x hi hx => by
    have hok := tFg_ok hT.1 s i (by omega)
    have hz : -3000 ≤ (if s.testBit i = true then (0 : Int) else tFar (tFg T s i)) ∧ (if s.testBit i = true then (0 : Int) else tFar (tFg T s i)) ≤ 3000 := by
      have hm := Nat.mod_lt (tFg T s i 3) (show 0 < tFg T s i 2 by have := hok.2.2.1; omega)
      have := tH_ge (kd := tFg T s i (22 + tFg T s i 3 % tFg T s i 2)) (hok.2.2.2.2.2.2.2.2.2.1 _ hm) hok.2.2.2.1
      unfold tFar
      split <;> omega
    obtain ⟨y, p1, p2, p3⟩ := m_pass (C := C) (P := P) (sc := sc) (ar := ar) hC (b := 1782) (by omega) hx.1 hok hz
    exact ⟨y, p1, p2, fun k hk => (p3 k (by omega)).trans (hx.2 k hk)⟩)
  obtain ⟨g1, g2⟩ := F1 n (Nat.le_refl _)
  have hok := tFg_ok hT.1 s n (by omega)
  have ed := m_doesTried (C := C) (P := P) (sc := sc) (ar := ar) hC g1 hok hr6 hq6
  rw [← tDs_any hok hr6 hq6, tDs_cg hT.1 (fun k a b c d => tFg_c a b c d n), tFg_4 hT.1 s n (by omega), tFg_5] at ed
  refine ⟨F n, g2, ?_⟩
  unfold X12_forgets_b74
  rw [q_shn n (by omega), if_neg (fun z => by have := (q_le (show 2 ^ n < 2147483648 by omega) (show s < 2147483648 by omega)).mp z; omega), r_ob hC, Option.bind_some, c1, Option.bind_some, ← F0]
  refine lp_for (fun k => (lN (pWy p s k), nI k, hR C sc ar P (F k))) n _ (fun k hk => ?_) ?_ 2000 (by omega)
  · obtain ⟨u1, u2⟩ := F1 k (by omega)
    have hokk := tFg_ok hT.1 s k (by omega)
    have e2 : F k 2 = nI (T 2) := by rw [u2 2 (by omega)]; exact tA0 hA (by omega)
    have e3 : F k 1785 = nI (T 3 + k) := by
      rw [← tFg_3 T s k]
      exact u1 3 (by omega)
    have t2 : tFg T s k 2 = T 2 := tFg_c (by omega) (by omega) (by omega) (by omega) k
    have hm := Nat.mod_lt (T 3 + k) (show 0 < T 2 by omega)
    have ef := m_farOf (C := C) (P := P) (sc := sc) (ar := ar) hC (show 1782 ≤ 1782 by omega) u1.tL hokk (t := (T 3 + k) % T 2) (by rw [t2]; exact hm)
    have ef2 : tH (tFg T s k (22 + (T 3 + k) % T 2)) (tFg T s k (26 + (T 3 + k) % T 2)) (tFg T s k 3) = tFar (tFg T s k) := by
      unfold tFar
      rw [t2, tFg_3]
    rw [ef2] at ef
    have ps := F2 k hk
    show X12_forgets_b96 _ _ _ _ _ _ _ _ _ _ _ _ = some (Sum.inl (lN (pWy p s k * (if s.testBit k = true then p else 10 - p)), nI (k + 1), hR C sc ar P (F (k + 1))))
    unfold X12_forgets_b96 X12_forgets_J130 X12_forgets_J168
    rw [if_neg (fun z => by have := (q_le (show n < 2147483648 by omega) (show k < 2147483648 by omega)).mp z; omega), m_has8 hs256 (by omega), Option.bind_some]
    by_cases e : s.testBit k = true
    · rw [if_pos e] at ps ⊢
      rw [if_neg e10, if_neg e10, if_pos e, nI_l (show p < 2 ^ 31 by omega), lN_mul, r_ob hC, Option.bind_some, show nI 0 = eI 0 from eI_n 0, ps, Option.bind_some, nI_add]
    · rw [if_neg e] at ps ⊢
      rw [if_pos e00, if_pos e00, if_neg e, q_10p hp10, lN_mul, r_r0 hC, Option.bind_some, r_ld hC (by omega), Option.bind_some, e3, Option.bind_some, r_ld hC (by omega), Option.bind_some, e2, q_rem (by omega) (by omega) (by omega), Option.bind_some, r_ob hC, Option.bind_some, ef, Option.bind_some, Option.bind_some, ps, Option.bind_some, nI_add]
  · show X12_forgets_b96 _ _ _ _ _ _ _ _ _ _ _ _ = _
    unfold X12_forgets_b96
    rw [if_pos ((q_le (by omega) (by omega)).mpr (Nat.le_refl _))]
    have ej : X12_forgets_J177 (hR C sc ar P (F n)) 38 (nI pr) (nI q) (nI n) (nI p) x5 (lN A) (lN B) (nI s) (lN (pWy p s n)) = some (Sum.inl (lN (A + pWy p s n * fD T pr q n (pTt (fNx T) (T 4) s n)), lN (B + pWy p s n), nI (s + 1), hR C sc ar P (F n))) := by
      unfold X12_forgets_J177 X12_forgets_J194
      rw [r_ob hC, Option.bind_some, ed, Option.bind_some, lN_add, lN_add, lN_add, nI_add]
      unfold fD
      cases (tDs T q (pTt (fNx T) (T 4) s n) (tAw T n)).testBit pr with
      | false =>
        rw [if_pos (show nI (b2 false) = 0 from e00), if_neg (by decide), Nat.mul_zero]
      | true =>
        rw [if_neg (show ¬ nI (b2 true) = 0 from e10), if_pos rfl, Nat.mul_one]
    show (X12_forgets_J177 (hR C sc ar P (F n)) 38 (nI pr) (nI q) (nI n) (nI p) x5 (lN A) (lN B) (nI s) (lN (pWy p s n))).map _ = _
    rw [ej]
    rfl
theorem m_forg (hC : C.length = 38) (hA : tA (ar 0) 0 T) (hT : tReal T) {pr q n p w : Nat} (hr6 : pr < 6) (hq6 : q < 6) (hn : n ≤ 8) (hp10 : p ≤ 10) (hw : w ≤ 1) : ∃ f', kp_lp (X12_forgets_B74 38 (nI pr) (nI q) (nI n) (nI p) (nI w)) 2000 (lN 0, lN 0, nI 0, hM C sc ar P) = some (if w = 0 then lN (gG (fNx T) p (fD T pr q n) n 0 (T 4) / Nat.gcd (10 ^ n) (gG (fNx T) p (fD T pr q n) n 0 (T 4))) else lN (10 ^ n / Nat.gcd (10 ^ n) (gG (fNx T) p (fD T pr q n) n 0 (T 4))), hR C sc ar P f') ∧ ∀ k, k < 1782 → f' k = ar 0 k := by
  have hpn : 2 ^ n ≤ 256 := Nat.pow_le_pow_right (n := 2) (by omega) hn
  have hpow : 10 ^ n ≤ 100000000 := Nat.pow_le_pow_right (n := 10) (by omega) hn
  have hpos : 0 < 10 ^ n := Nat.pow_pos (by omega)
  obtain ⟨F, F0, F1, F2⟩ := chain (α := Nat → Int32) (P := fun _ x => ∀ k, k < 1782 → x k = ar 0 k) (R := fun s x y => X12_forgets_b74 38 (nI pr) (nI q) (nI n) (nI p) (nI w) (lN (q_sm (fun s => pWy p s n * fD T pr q n (pTt (fNx T) (T 4) s n)) s)) (lN (q_sm (fun s => pWy p s n) s)) (nI s) (hR C sc ar P x) = some (Sum.inl (lN (q_sm (fun s => pWy p s n * fD T pr q n (pTt (fNx T) (T 4) s n)) (s + 1)), lN (q_sm (fun s => pWy p s n) (s + 1)), nI (s + 1), hR C sc ar P y))) (x0 := ar 0) (fun _ _ => rfl) (2 ^ n) (fun s x hs hx => by
    obtain ⟨y, p1, p2⟩ := m_forgOne (C := C) (P := P) (sc := sc) (ar := ar) (f := x) hC (fun k hk => by rw [hx _ (by omega)]; exact hA k hk) hT hr6 hq6 hn hp10 hs (nI w) (q_sm (fun s => pWy p s n * fD T pr q n (pTt (fNx T) (T 4) s n)) s) (q_sm (fun s => pWy p s n) s)
    exact ⟨y, p2, fun k hk => (p1 k hk).trans (hx k hk)⟩)
  have sA := pWy_sum (nx := fNx T) (p := p) (t0 := T 4) (fD T pr q n) n 0
  rw [Nat.add_zero] at sA
  have sA : q_sm (fun s => pWy p s n * fD T pr q n (pTt (fNx T) (T 4) s n)) (2 ^ n) = gG (fNx T) p (fD T pr q n) n 0 (T 4) := sA
  have sB := pWy_sum (nx := fNx T) (p := p) (t0 := T 4) (fun _ => 1) n 0
  rw [Nat.add_zero, gG_1 hp10] at sB
  have sB : q_sm (fun s => pWy p s n * 1) (2 ^ n) = 10 ^ n := sB
  rw [q_sm_cg (f' := fun s => pWy p s n) (2 ^ n) (fun s _ => Nat.mul_one _)] at sB
  have hle := gG_le (nx := fNx T) hp10 (D := fD T pr q n) (fun t => by unfold fD; split <;> omega) n 0 (T 4)
  have hgp : 0 < Nat.gcd (gG (fNx T) p (fD T pr q n) n 0 (T 4)) (10 ^ n) := Nat.gcd_pos_of_pos_right _ hpos
  have hgl : Nat.gcd (gG (fNx T) p (fD T pr q n) n 0 (T 4)) (10 ^ n) ≤ 10 ^ n := Nat.gcd_le_right _ hpos
  refine ⟨F (2 ^ n), ?_, F1 (2 ^ n) (Nat.le_refl _)⟩
  rw [hR_self, ← F0]
  refine lp_for (fun s => (lN (q_sm (fun s => pWy p s n * fD T pr q n (pTt (fNx T) (T 4) s n)) s), lN (q_sm (fun s => pWy p s n) s), nI s, hR C sc ar P (F s))) (2 ^ n) _ (fun s hs => F2 s hs) ?_ 2000 (by omega)
  show X12_forgets_b74 _ _ _ _ _ _ _ _ _ _ = _
  unfold X12_forgets_b74
  rw [q_shn n (by omega), if_pos ((q_le (by omega) (by omega)).mpr (Nat.le_refl _))]
  show (X12_forgets_J210 (hR C sc ar P (F (2 ^ n))) (nI w) (lN (q_sm (fun s => pWy p s n * fD T pr q n (pTt (fNx T) (T 4) s n)) (2 ^ n))) (lN (q_sm (fun s => pWy p s n) (2 ^ n)))).map _ = _
  rw [sA, sB, Nat.gcd_comm (10 ^ n)]
  generalize gG (fNx T) p (fD T pr q n) n 0 (T 4) = a at *
  generalize 10 ^ n = b at *
  rw [m_common (R := (if w = 0 then lN (a / Nat.gcd a b) else lN (b / Nat.gcd a b), hR C sc ar P (F (2 ^ n)))) (by omega) (by omega) (by
    unfold X12_forgets_J243
    rcases (show w = 0 ∨ w = 1 by omega) with rfl | rfl
    · rw [if_pos e00, q_divL (by omega) (by omega) (by omega)]
      rfl
    · rw [if_neg e10, q_divL (by omega) (by omega) (by omega)]
      rfl)]
  rfl
end MForg
theorem ag_forgets : lx_ag_forgets Inv := by
  intro j hp h hj a1 a2 a3 a4 a5
  have hM0 := Inv_M h
  have hS := Inv_S _ _ h
  obtain ⟨ks, ka, kl, kr, sc, ar, T, n0, o, A, h⟩ := h
  obtain ⟨C, P, hC, rfl⟩ := MV_ex h.2.1
  have hth := IV_there h
  obtain ⟨⟨v, nm, jb, tu, tm, k1, k2, k3, k4⟩, hA, -⟩ := id h.2.2.2.2.2.2.2.1
  rcases hth with ⟨hT, s1, e1⟩ | ⟨-, s1, e1⟩
  case inr =>
    refine ⟨-1000002, _, _, ?_, hM0, ?_, hS⟩
    · unfold X11_forgets_F
      rw [c0_r2 h.1, Option.bind_some, kc_ob k1, Option.bind_some, e1, Option.bind_some, if_pos e00]
    · unfold X12_forgets_F
      rw [m_g1 hC, Option.bind_some, s1, if_pos e00]
  rcases six_sp a1 with ⟨pr, hr6, rfl, b1, -, b3⟩ | ⟨b1, -, b3⟩
  case inr =>
    refine ⟨-1000001, _, _, ?_, hM0, ?_, hS⟩
    · unfold X11_forgets_F
      rw [c0_r2 h.1, Option.bind_some, kc_ob k1, Option.bind_some, e1, Option.bind_some, if_neg e10, b1, Option.bind_some, if_pos e00]
    · unfold X12_forgets_F
      rw [m_g1 hC, Option.bind_some, s1, if_neg e10, b3, Option.bind_some, if_pos e00]
  rcases six_sp a2 with ⟨q, hq6, rfl, -, d1, d3⟩ | ⟨-, d1, d3⟩
  case inr =>
    refine ⟨-1000001, _, _, ?_, hM0, ?_, hS⟩
    · unfold X11_forgets_F
      rw [c0_r2 h.1, Option.bind_some, kc_ob k1, Option.bind_some, e1, Option.bind_some, if_neg e10, b1, Option.bind_some, if_neg e10, d1, Option.bind_some, if_pos e00]
    · unfold X12_forgets_F
      rw [m_g1 hC, Option.bind_some, s1, if_neg e10, b3, Option.bind_some, if_neg e10, d3, Option.bind_some, if_pos e00]
  rcases w_spN a3 (a := 0) (b := 8) (by decide) (by decide) with ⟨n, rfl, -, hn, w1⟩ | w1
  case inr =>
    refine ⟨-1000001, _, _, ?_, hM0, ?_, hS⟩
    · unfold X11_forgets_F
      rw [c0_r2 h.1, Option.bind_some, kc_ob k1, Option.bind_some, e1, Option.bind_some, if_neg e10, b1, Option.bind_some, if_neg e10, d1, Option.bind_some, if_neg e10, w1, Option.bind_some, if_pos e00]
    · unfold X12_forgets_F
      rw [m_g1 hC, Option.bind_some, s1, if_neg e10, b3, Option.bind_some, if_neg e10, d3, Option.bind_some, if_neg e10, l_n 0 (by decide), l_n 8 (by decide), l_in, w1, Option.bind_some, if_pos e00]
  rcases w_spN a4 (a := 0) (b := 10) (by decide) (by decide) with ⟨p, rfl, -, hp10, w2⟩ | w2
  case inr =>
    refine ⟨-1000001, _, _, ?_, hM0, ?_, hS⟩
    · unfold X11_forgets_F
      rw [c0_r2 h.1, Option.bind_some, kc_ob k1, Option.bind_some, e1, Option.bind_some, if_neg e10, b1, Option.bind_some, if_neg e10, d1, Option.bind_some, if_neg e10, w1, Option.bind_some, if_neg e10, w2, Option.bind_some, if_pos e00]
    · unfold X12_forgets_F
      rw [m_g1 hC, Option.bind_some, s1, if_neg e10, b3, Option.bind_some, if_neg e10, d3, Option.bind_some, if_neg e10, l_n 0 (by decide), l_n 8 (by decide), l_in, w1, Option.bind_some, if_neg e10, l_n 10 (by decide), l_in, w2, Option.bind_some, if_pos e00]
  rcases w_spN a5 (a := 0) (b := 1) (by decide) (by decide) with ⟨w, rfl, -, hw, w3⟩ | w3
  case inr =>
    refine ⟨-1000001, _, _, ?_, hM0, ?_, hS⟩
    · unfold X11_forgets_F
      rw [c0_r2 h.1, Option.bind_some, kc_ob k1, Option.bind_some, e1, Option.bind_some, if_neg e10, b1, Option.bind_some, if_neg e10, d1, Option.bind_some, if_neg e10, w1, Option.bind_some, if_neg e10, w2, Option.bind_some, if_neg e10, w3, Option.bind_some, if_pos e00]
    · unfold X12_forgets_F
      rw [m_g1 hC, Option.bind_some, s1, if_neg e10, b3, Option.bind_some, if_neg e10, d3, Option.bind_some, if_neg e10, l_n 0 (by decide), l_n 8 (by decide), l_in, w1, Option.bind_some, if_neg e10, l_n 10 (by decide), l_in, w2, Option.bind_some, if_neg e10, l_n 1 (by decide), l_in, w3, Option.bind_some, if_pos e00]
  have hpow : 10 ^ n ≤ 100000000 := Nat.pow_le_pow_right (n := 10) (by omega) hn
  have hpos : 0 < 10 ^ n := Nat.pow_pos (by omega)
  have hle := gG_le (nx := fNx T) hp10 (D := fD T pr q n) (fun t => by unfold fD; split <;> omega) n 0 (T 4)
  obtain ⟨c, d, ec⟩ := c_cases h.1 k1 k2 k3 hT hr6 hq6 hn hp10
  have h33 : 33 < (hM C sc ar P).length := (List.getElem?_eq_some_iff.mp (cv33 h.1)).1
  have cv2 := CV_HJ (c := c) (d := d) h.1 h33
  obtain ⟨C2, P2, hC2, eS⟩ := MV_ex (MV_f (hp' := HJ (hM C sc ar P) c d) h.2.1 (fun q hq => HJ_o (by omega) (by omega)))
  obtain ⟨f', m1, m2⟩ := m_forg (C := C2) (P := P2) (sc := sc) (w := w) hC2 hA hT hr6 hq6 hn hp10 hw
  have eC : X11_forgets_F (hM C sc ar P) 0 (nI pr) (nI q) (nI n) (nI p) (nI w) = some (if w = 0 then lN (gG (fNx T) p (fD T pr q n) n 0 (T 4) / Nat.gcd (10 ^ n) (gG (fNx T) p (fD T pr q n) n 0 (T 4))) else lN (10 ^ n / Nat.gcd (10 ^ n) (gG (fNx T) p (fD T pr q n) n 0 (T 4))), HJ (hM C sc ar P) c d) := by
    unfold X11_forgets_F
    rw [c0_r2 h.1, Option.bind_some, kc_ob k1, Option.bind_some, e1, Option.bind_some, if_neg e10, b1, Option.bind_some, if_neg e10, d1, Option.bind_some, if_neg e10, w1, Option.bind_some, if_neg e10, w2, Option.bind_some, if_neg e10, w3, Option.bind_some, if_neg e10, c0_r3 h.1, Option.bind_some, Option.bind_some, c25_ob h.1, Option.bind_some, ec, Option.bind_some]
    refine lp_for (fun i => (lN (10 ^ i), nI i)) n _ (fun i hi => ?_) ?_ 2000 (by omega)
    · show X11_forgets_b91 _ _ _ _ _ _ = some (Sum.inl (lN (10 ^ (i + 1)), nI (i + 1)))
      unfold X11_forgets_b91
      rw [if_neg (fun z => by have := (q_le (show n < 2147483648 by omega) (show i < 2147483648 by omega)).mp z; omega), lN_mul, nI_add, Nat.pow_succ]
    · show X11_forgets_b91 _ _ _ _ _ _ = _
      unfold X11_forgets_b91
      rw [if_pos ((q_le (by omega) (by omega)).mpr (Nat.le_refl _))]
      show (X11_forgets_J111 (HJ (hM C sc ar P) c d) (nI w) (lN (gG (fNx T) p (fD T pr q n) n 0 (T 4))) (lN (10 ^ n))).map _ = _
      have hgp : 0 < Nat.gcd (10 ^ n) (gG (fNx T) p (fD T pr q n) n 0 (T 4)) := Nat.gcd_pos_of_pos_left _ hpos
      have hgl : Nat.gcd (10 ^ n) (gG (fNx T) p (fD T pr q n) n 0 (T 4)) ≤ 10 ^ n := Nat.gcd_le_left _ hpos
      clear m1 ec cv2 eS
      generalize gG (fNx T) p (fD T pr q n) n 0 (T 4) = a at *
      generalize 10 ^ n = b at *
      unfold X11_forgets_J111
      rw [c_common (by omega) (by omega), Option.bind_some, if_neg (fun z => by have := (lg_0 (show Nat.gcd b a < 2 ^ 63 by omega)).mp z; omega)]
      rcases (show w = 0 ∨ w = 1 by omega) with rfl | rfl
      · rw [if_pos e00, q_divL (by omega) (by omega) (by omega)]
        rfl
      · rw [if_neg e10, q_divL (by omega) (by omega) (by omega)]
        rfl
  rw [eS] at eC cv2
  refine ⟨_, hM C2 sc ar P2, hR C2 sc ar P2 f', eC, hM_38 hC2, ?_, IV_scr h hC2 cv2 (by rw [← eS]; exact HJ_len) (fun q hq => by rw [← eS]; exact HJ_o (by omega) (by omega)) (fun k hk => m2 k hk) (fun i h1 h2 => up_ne _ _ (by omega))⟩
  unfold X12_forgets_F
  rw [m_g1 hC2, Option.bind_some, s1, if_neg e10, b3, Option.bind_some, if_neg e10, d3, Option.bind_some, if_neg e10, l_n 0 (by decide), l_n 8 (by decide), l_in, w1, Option.bind_some, if_neg e10, l_n 10 (by decide), l_in, w2, Option.bind_some, if_neg e10, l_n 1 (by decide), l_in, w3, Option.bind_some, if_neg e10]
  exact m1
