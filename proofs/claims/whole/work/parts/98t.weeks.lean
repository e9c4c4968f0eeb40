/-! ===== weeks ===== -/
def K3 (v nm jb : Nat → Int32) (T : Tw) : Prop := (∀ k, k < 6 → v k = nI (T k)) ∧ (∀ k, k < T 0 → nm k = nI (T (6 + k))) ∧ ∀ k, k < T 1 → jb k = nI (T (14 + k))
section K3s
variable {hp : kw_H} {i : Nat} {v nm jb tm : Nat → Int32} {tu : Nat → Option Nat} {T : Tw}
theorem c_jobHad3 (h : KC hp i v nm jb tu tm) (hV : K3 v nm jb T) (hT : tOk T) {s t : Nat} (hs : s < T 0) (ht : t ≤ 1000) : X2_jobHad_F hp i (nI s) (nI t) = some (nI (tJ T s t)) := by
  obtain ⟨h0, h1, h2, h3, h4, h5, h6, h7, -⟩ := id hT
  obtain ⟨v1, v2, v3⟩ := hV
  have hm : (s + t) % T 1 < T 1 := Nat.mod_lt _ (by omega)
  have g6 := h6 s hs
  unfold X2_jobHad_F
  simp (disch := omega) only [kc_ob h, c_nameIn h (v1 0 (by omega)) (by omega) hs, Option.bind_some, v2 s hs, q_eq, kc_g5 h, v1 1 (by omega), nI_add, c_rest, c_jobIn h (v1 1 (by omega)) (by omega) hm, v3 _ hm]
  unfold tJ
  split <;> rfl
theorem c_doerIn3 (h : KC hp i v nm jb tu tm) (hV : K3 v nm jb T) (hT : tOk T) {s t g : Nat} (hs : s < T 0) (ht : t ≤ 1000) (hg : g < 64) : X2_doerIn_F hp i (nI s) (nI t) (nI g) = some (nI (tD T s t g)) := by
  obtain ⟨h0, h1, h2, h3, h4, h5, h6, h7, -⟩ := id hT
  obtain ⟨v1, v2, v3⟩ := id hV
  have hj := tJ_le hT (s := s) (t := t)
  unfold X2_doerIn_F
  simp (disch := omega) only [kc_ob h, Option.bind_some, c_jobHad3 h hV hT hs ht, q_eq]
  unfold tD
  by_cases g1 : tJ T s t = 6
  · rw [if_pos g1, if_pos g1]
  · rw [if_neg g1, if_neg g1]
    rw [show nI 0 = (fun k => nI k) 0 from rfl]
    rw [lp_find (fun k => nI k) (T 0) (fun k => if T (6 + (s + k) % T 0) = 6 ∨ g.testBit (T (6 + (s + k) % T 0)) = true then none else some (nI (T (6 + (s + k) % T 0)))) (nI 6) ?_ ?_ 2000 (by omega)]
    · generalize hL : List.range (T 0) = Lr
      have hmap : Lr.findSome? (fun k => if T (6 + (s + k) % T 0) = 6 ∨ g.testBit (T (6 + (s + k) % T 0)) = true then none else some (nI (T (6 + (s + k) % T 0)))) = (Lr.findSome? (fun k => if T (6 + (s + k) % T 0) = 6 ∨ g.testBit (T (6 + (s + k) % T 0)) = true then none else some (T (6 + (s + k) % T 0)))).map nI := by
        clear hL
        induction Lr with
        | nil => rfl
        | cons x l ih =>
          rw [List.findSome?_cons, List.findSome?_cons]
          by_cases hx : T (6 + (s + x) % T 0) = 6 ∨ g.testBit (T (6 + (s + x) % T 0)) = true
          · simp only [hx, if_true, ih]
          · simp only [hx, if_false, Option.map_some]
      rw [hmap]
      cases Lr.findSome? (fun k => if T (6 + (s + k) % T 0) = 6 ∨ g.testBit (T (6 + (s + k) % T 0)) = true then none else some (T (6 + (s + k) % T 0))) <;> rfl
    · intro k hk
      have hm : (s + k) % T 0 < T 0 := Nat.mod_lt _ (by omega)
      have hn := h6 _ hm
      unfold X2_doerIn_B17 X2_doerIn_b17
      simp (disch := omega) only [kc_g4 h, v1 0 (by omega), nI_add, q_le, Option.bind_some, kc_ob h, c_rest, c_nameIn h (v1 0 (by omega)) (by omega) hm, v2 _ hm, q_eq, c_holds hg]
      rw [if_neg (by omega)]
      by_cases g2 : T (6 + (s + k) % T 0) = 6
      · simp [g2, X2_doerIn_J62, nI_add]
      · by_cases g3 : g.testBit (T (6 + (s + k) % T 0)) = true
        · simp [g2, g3, X2_doerIn_J62, nI_add, q_eq0]
        · simp [g2, g3, X2_doerIn_J59, q_eq0]
    · unfold X2_doerIn_B17 X2_doerIn_b17
      simp (disch := omega) only [kc_g4 h, v1 0 (by omega), Option.bind_some, q_le]
      rw [if_pos (Nat.le_refl _)]
      rfl
theorem c_turnerAt3 (h : KC hp i v nm jb tu tm) (hV : K3 v nm jb T) (hT : tOk T) {k : Nat} (hk : k < T 2) (hU : TU hp tu T) : ∃ a, X2_turnerAt_F hp i (nI k) = some (some a) ∧ hp[a]? = some (.inr (kcn (T (22 + k)), [.int (nI k), .int (nI (T (26 + k)))])) := by
  obtain ⟨h0, h1, h2, -⟩ := id hT
  obtain ⟨v1, v2, v3⟩ := hV
  obtain ⟨a, e1, e2⟩ := hU k hk
  refine ⟨a, ?_, e2⟩
  unfold X2_turnerAt_F
  simp (disch := omega) only [q_lt0, if_false, kc_g6 h, v1 2 (by omega), Option.bind_some, q_le, kc_r2 h, kc_tu h, e1, kp_nu]
  rw [if_neg (by omega), if_neg (by omega)]
theorem c_turnedNext3 (h : KC hp i v nm jb tu tm) (hV : K3 v nm jb T) (hT : tOk T) (hU : TU hp tu T) {t w : Nat} (ht : t ≤ 1000) (hw : w ≤ 2000) : X2_turnedNext_F hp i (nI t) (nI w) = some (nI (tN T t w)) := by
  obtain ⟨h0, h1, h2, h3, h4, h5, h6, h7, h8, h9, -⟩ := id hT
  obtain ⟨v1, v2, v3⟩ := id hV
  have hm : w % T 2 < T 2 := Nat.mod_lt _ (by omega)
  obtain ⟨a, e1, e2⟩ := c_turnerAt3 h hV hT hm hU
  have g8 := h8 _ hm
  have g9 := h9 _ hm
  have g3 := tH_ge (kd := T (22 + w % T 2)) g9 hw
  unfold X2_turnedNext_F
  simp (disch := omega) only [kc_g6 h, v1 2 (by omega), Option.bind_some, c_rest, kc_ob h, e1, kp_nu, c_far g8 g9 hw e2, kc_g5 h, v1 1 (by omega)]
  rw [eI_n t, eI_add, c_restI (by omega) (by omega) (by omega) (by omega)]
  rfl
theorem c_isPerson6 {hp : kw_H} : X11_isPerson_F hp (nI 6) = some (nI 0) := by
  unfold X11_isPerson_F
  rw [c_within, if_neg (by decide)]
  rfl
/-- the counts behind s slots of a week -/
def wF (T : Tw) (tm : Nat → Int32) : Nat → Nat → Int32
  | 0 => tm
  | s + 1 => if tD T s (T 4) (T 5) = 6 then wF T tm s else upd (wF T tm s) (tD T s (T 4) (T 5) * 6 + tJ T s (T 4)) (wF T tm s (tD T s (T 4) (T 5) * 6 + tJ T s (T 4)) + nI 1)
theorem wF_fact (hV : ∀ q, q < 36 → tm q = nI (T (30 + q))) (hT : tOk T) : ∀ s, s ≤ T 0 → ∀ q, q < 36 → wF T tm s q = nI (T (30 + q) + q_ct (tc T (T 4) (T 5) q) s)
  | 0, _, q, hq => hV q hq
  | s + 1, hs, q, hq => by
    have ih := wF_fact hV hT s (by omega)
    have hj := tJ_le hT (s := s) (t := T 4)
    have hd := tD_le hT (s := s) (t := T 4) (g := T 5)
    have ec : q_ct (tc T (T 4) (T 5) q) (s + 1) = q_ct (tc T (T 4) (T 5) q) s + (if tc T (T 4) (T 5) q s = true then 1 else 0) := rfl
    show (if tD T s (T 4) (T 5) = 6 then wF T tm s else upd (wF T tm s) (tD T s (T 4) (T 5) * 6 + tJ T s (T 4)) (wF T tm s (tD T s (T 4) (T 5) * 6 + tJ T s (T 4)) + nI 1)) q = _
    by_cases g : tD T s (T 4) (T 5) = 6
    · rw [if_pos g, ih q hq, ec, if_neg (by simp [tc, g])]
      rfl
    · have hj6 := tD_job g
      rw [if_neg g, ec]
      by_cases e : 6 * tD T s (T 4) (T 5) + tJ T s (T 4) = q
      · rw [show q = tD T s (T 4) (T 5) * 6 + tJ T s (T 4) by omega, pk_us, ih _ (by omega), nI_add, if_pos (by
          unfold tc
          exact decide_eq_true ⟨g, by omega⟩)]
        rfl
      · rw [pk_un (by omega), ih q hq, if_neg (by
          unfold tc
          exact fun z => e (of_decide_eq_true z).2)]
        rfl
theorem c_passWeek (h : KB hp i T) (hT : tOk T) (hw : T 3 + 1 ≤ 2000) : ∃ hp', X2_passWeek_F hp i = some hp' ∧ KB hp' i (tW T) ∧ hp'.length = hp.length ∧ ∀ q, q < i ∨ i + 5 ≤ q → hp'[q]? = hp[q]? := by
  obtain ⟨v, nm, jb, tu, tm, k1, k2, k3, k4⟩ := h
  obtain ⟨h0, h1, h2, h3, h4, h5, h6, h7, h8, h9, h10⟩ := id hT
  have K : K3 v nm jb T := ⟨k2.1, k2.2.1, k2.2.2.1⟩
  have hli := KC_lt k1
  obtain ⟨H, hH⟩ : ∃ H : Nat → kw_H, ∀ s, H s = hp.set (i + 4) (.inl (0, 36, .inl (wF T tm s))) := ⟨_, fun _ => rfl⟩
  have kH : ∀ s, KC (H s) i v nm jb tu (wF T tm s) := fun s => by rw [hH]; exact KC_w4 k1 _
  have F : ∀ s q, ¬ q = i + 4 → (H s)[q]? = hp[q]? := fun s q hq => by rw [hH, List.getElem?_set_ne (Ne.symm hq)]
  have N : ∀ q, q = i + 4 → NT hp q := fun q hq => KC_NT k1 (by omega) (by omega)
  have uH : ∀ s, TU (H s) tu T := fun s => TU_fr (X := fun q => q = i + 4) (F s) N k3
  have H0 : H 0 = hp := by rw [hH]; exact set_same k1.2.2.2.2
  have hlo : ∀ k, k < 30 → k ≠ 3 → k ≠ 4 → k ≠ 5 → tW T k = T k := fun k a b c d => tWn_c a b c d 1
  obtain ⟨p1, x1, y1, l1, f1⟩ := KC_p (kH (T 0)) (k := 4) (by omega) (nI (tN T (T 4) (T 3)))
  obtain ⟨p2, x2, y2, l2, f2⟩ := KC_p y1 (k := 5) (by omega) (nI 0)
  obtain ⟨p3, x3, y3, l3, f3⟩ := KC_p y2 (k := 3) (by omega) (nI (T 3 + 1))
  have x1 : kp_put (H (T 0)) i [2] 8 (.int (nI (tN T (T 4) (T 3)))) = some p1 := x1
  have x2 : kp_put p1 i [2] 9 (.int (nI 0)) = some p2 := x2
  have x3 : kp_put p2 i [2] 7 (.int (nI (T 3 + 1))) = some p3 := x3
  have FF : ∀ q, ¬ (i ≤ q ∧ q < i + 5) → p3[q]? = hp[q]? := fun q hq => by rw [f3 q (by omega), f2 q (by omega), f1 q (by omega), F _ q (by omega)]
  have NN : ∀ q, (i ≤ q ∧ q < i + 5) → NT hp q := fun q hq => KC_NT k1 hq.1 hq.2
  have hl : (H (T 0)).length = hp.length := by rw [hH]; simp
  refine ⟨p3, ?_, ⟨_, nm, jb, tu, wF T tm (T 0), y3, ⟨fun k hk => ?_, fun k hk => ?_, fun k hk => ?_, fun k hk => ?_⟩, fun k hk => ?_, TV_fr (X := fun q => i ≤ q ∧ q < i + 5) FF NN k4⟩, by omega, fun q hq => FF q (by omega)⟩
  · unfold X2_passWeek_F
    conv => lhs; rw [← H0]
    refine lp_for (fun s => (nI s, H s)) (T 0) _ (fun s hs => ?_) ?_ 2000 (by omega)
    · have hj := tJ_le hT (s := s) (t := T 4)
      have hd := tD_le hT (s := s) (t := T 4) (g := T 5)
      show X2_passWeek_b2 _ _ _ = some (Sum.inl (nI (s + 1), H (s + 1)))
      unfold X2_passWeek_b2
      simp (disch := omega) only [kc_g4 (kH s), kc_g8 (kH s), kc_g9 (kH s), k2.1 0 (show 0 < 6 by omega), k2.1 4 (show 4 < 6 by omega), k2.1 5 (show 5 < 6 by omega), Option.bind_some, q_le, kc_ob (kH s), c_doerIn3 (kH s) K hT hs (show T 4 ≤ 1000 by omega) h5, c_jobHad3 (kH s) K hT hs (show T 4 ≤ 1000 by omega)]
      rw [if_neg (show ¬ T 0 ≤ s by omega)]
      have ew : wF T tm (s + 1) = if tD T s (T 4) (T 5) = 6 then wF T tm s else upd (wF T tm s) (tD T s (T 4) (T 5) * 6 + tJ T s (T 4)) (wF T tm s (tD T s (T 4) (T 5) * 6 + tJ T s (T 4)) + nI 1) := rfl
      by_cases g : tD T s (T 4) (T 5) = 6
      · rw [g, c_isPerson6, Option.bind_some, if_pos e00]
        unfold X2_passWeek_J63
        rw [if_pos g] at ew
        rw [nI_add, hH, hH, ew]
      · have hj6 := tD_job g
        have ea := st_at (hp := H s) (kH s).2.2.2.2 (by decide) (show tD T s (T 4) (T 5) * 6 + tJ T s (T 4) < 36 by omega) (wF T tm s (tD T s (T 4) (T 5) * 6 + tJ T s (T 4)) + nI 1)
        rw [c_isPerson (show tD T s (T 4) (T 5) < 6 by omega), Option.bind_some, if_neg e10, c_isJob (show tJ T s (T 4) < 6 by omega), Option.bind_some, if_neg e10, kc_r3 (kH s), Option.bind_some, q_mul, nI_add, kc_tm (kH s) (show tD T s (T 4) (T 5) * 6 + tJ T s (T 4) < 36 by omega), Option.bind_some, ea, Option.bind_some]
        unfold X2_passWeek_J63
        rw [if_neg g] at ew
        rw [nI_add, hH, hH, List.set_set, ew]
    · show X2_passWeek_b2 _ _ _ = _
      unfold X2_passWeek_b2
      simp (disch := omega) only [kc_g4 (kH (T 0)), k2.1 0 (show 0 < 6 by omega), Option.bind_some, q_le]
      rw [if_pos (Nat.le_refl _)]
      have ev : upd (upd v 4 (nI (tN T (T 4) (T 3)))) 5 (nI 0) 3 = nI (T 3) := k2.1 3 (by omega)
      unfold X2_passWeek_J69
      simp only [kc_g8 (kH (T 0)), kc_g7 (kH (T 0)), k2.1 4 (show 4 < 6 by omega), k2.1 3 (show 3 < 6 by omega), Option.bind_some, kc_ob (kH (T 0)), c_turnedNext3 (kH (T 0)) K hT (uH (T 0)) (show T 4 ≤ 1000 by omega) (show T 3 ≤ 2000 by omega), x1, x2, kc_g7 y2, ev, nI_add, x3]
      rfl
  · rcases (show k = 0 ∨ k = 1 ∨ k = 2 ∨ k = 3 ∨ k = 4 ∨ k = 5 by omega) with rfl | rfl | rfl | rfl | rfl | rfl
    · exact k2.1 0 hk
    · exact k2.1 1 hk
    · exact k2.1 2 hk
    · rfl
    · rfl
    · rfl
  · have e0 : tW T 0 = T 0 := rfl
    rw [e0] at hk
    rw [hlo _ (by omega) (by omega) (by omega) (by omega)]
    exact k2.2.1 k hk
  · have e0 : tW T 1 = T 1 := rfl
    rw [e0] at hk
    rw [hlo _ (by omega) (by omega) (by omega) (by omega)]
    exact k2.2.2.1 k hk
  · rw [wF_fact k2.2.2.2 hT (T 0) (Nat.le_refl _) k hk]
    show _ = nI (tP T (tFar T) (30 + k))
    unfold tP
    rw [if_neg (by omega), if_neg (by omega), if_neg (by omega), if_pos (by omega), show 30 + k - 30 = k by omega]
  · have e0 : tW T 2 = T 2 := rfl
    rw [e0] at hk
    rw [hlo _ (by omega) (by omega) (by omega) (by omega), hlo _ (by omega) (by omega) (by omega) (by omega)]
    exact TU_fr (X := fun q => i ≤ q ∧ q < i + 5) FF NN k3 k hk
end K3s
theorem chain {α : Type} {P : Nat → α → Prop} {R : Nat → α → α → Prop} {x0 : α} (h0 : P 0 x0) : ∀ N, (∀ i x, i < N → P i x → ∃ y, R i x y ∧ P (i + 1) y) → ∃ F : Nat → α, F 0 = x0 ∧ (∀ i, i ≤ N → P i (F i)) ∧ ∀ i, i < N → R i (F i) (F (i + 1))
  | 0, _ => ⟨fun _ => x0, rfl, fun i hi => by
      have : i = 0 := by omega
      subst this
      exact h0, fun i hi => by omega⟩
  | N + 1, hs => by
    obtain ⟨F, q0, q1, q2⟩ := chain h0 N (fun i x hi => hs i x (by omega))
    obtain ⟨y, p1, p2⟩ := hs N (F N) (by omega) (q1 N (Nat.le_refl _))
    refine ⟨fun i => if i ≤ N then F i else y, ?_, fun i hi => ?_, fun i hi => ?_⟩
    · show (if 0 ≤ N then F 0 else y) = x0
      rw [if_pos (by omega), q0]
    · by_cases e : i ≤ N
      · simp only [e, if_true]
        exact q1 i e
      · have : i = N + 1 := by omega
        subst this
        simp only [e, if_false]
        exact p2
    · by_cases e : i < N
      · simp only [show i ≤ N by omega, show i + 1 ≤ N by omega, if_true]
        exact q2 i e
      · have : i = N := by omega
        subst this
        simp only [Nat.le_refl, if_true, show ¬ i + 1 ≤ i by omega, if_false]
        exact p1
def wN (n : Nat) : Nat → Nat
  | 0 => n
  | i + 1 => aN (wN n i)
def wA (T : Tw) (n : Nat) (A : Nat → Tw) : Nat → Nat → Tw
  | 0 => A
  | i + 1 => aA (tWn T i) (wN n i) (wA T n A i)
theorem wN_le {n : Nat} (h : n ≤ 24) : ∀ i, wN n i ≤ 24
  | 0 => h
  | i + 1 => aN_le (wN_le h i)
theorem wA_real {T : Tw} {n : Nat} {A : Nat → Tw} (hT : tReal T) (hn : n ≤ 24) (hA : ∀ k, k < n → tReal (A k)) : ∀ i, T 3 + i ≤ 1000 → ∀ k, k < wN n i → tReal (wA T n A i k)
  | 0, _ => hA
  | i + 1, h => aA_real ⟨tWn_ok hT.1 i (by omega), by rw [tWn_3]; omega⟩ (wA_real hT hn hA i (by omega)) (wN_le hn i)
def WP (hp0 : kw_H) (ks ka : Nat → Nat → Int32) (kl : Nat → Nat → Int64) (kr : Nat → Nat → Option Nat) (T : Tw) (n : Nat) (A B : Nat → Tw) (j i : Nat) (x : kw_H) : Prop := ∃ ks' ka' kr' o', CI x ks' ka' kl kr' (tWn T i) (wN n i) o' (wA T n A i) B ∧ (∀ q, 38 ≤ q → q < 47 → x[q]? = hp0[q]?) ∧ (∀ q k, q ≠ 20 → ¬ (q = 0 ∧ (k = 7 ∨ k = 8)) → ks' q k = ks q k) ∧ (∀ q, ¬ (20 ≤ q ∧ q < 25) → ka' q = ka q) ∧ kr' 37 = kr 37 ∧ I_len x kr' j ∧ 47 ≤ x.length
theorem WP_step {hp0 x : kw_H} {ks ka : Nat → Nat → Int32} {kl : Nat → Nat → Int64} {kr : Nat → Nat → Option Nat} {T : Tw} {n : Nat} {A B : Nat → Tw} {j i : Nat} (hT : tReal T) (hi : T 3 + i + 1 ≤ 1000) (hj : j ≤ 64) (h : WP hp0 ks ka kl kr T n A B j i x) : ∃ y, (∃ r9, X11_keepAct_F x 0 = some r9 ∧ kp_ob x 0 10 = some () ∧ kp_gR r9 0 [10] 2 = some 20 ∧ kp_ob r9 20 2 = some () ∧ X2_passWeek_F r9 20 = some y) ∧ WP hp0 ks ka kl kr T n A B j (i + 1) y := by
  obtain ⟨ks1, ka1, kr1, o1, ci, h1, h2, h3, h4, h5, h6⟩ := h
  have hok := tWn_ok hT.1 i (by omega)
  have hlen := IV_len h5 hj
  obtain ⟨hp1, ks2, kr2, o2, q1, q2, q3, q4, q5, q6, q7, q8⟩ := CI_keepAct ci hok.sm h6 (by omega)
  obtain ⟨hp2, r1, r2, r3, r4⟩ := c_passWeek q2.2.1 hok (by rw [tWn_3]; omega)
  obtain ⟨v2, nm2, jb2, tu2, tm2, w1, w2, -, -⟩ := id r2
  have cv2 := CV_now q2.1 w1 r4
  have ci2 := CI_now q2 cv2 r2 r4 rfl rfl rfl rfl rfl
  refine ⟨hp2, ⟨hp1, q1, c0_ob ci.1, c0_r2 q2.1, kc_ob (CV_KC q2.1), r1⟩, _, _, _, _, ci2, fun q g1 g2 => ?_, fun q k g1 g2 => ?_, fun q hq => ?_, ?_, ?_, ?_⟩
  · rw [r4 q (by omega), q3 q g1 g2, h1 q g1 g2]
  · show (if q = 20 then _ else ks2 q k) = _
    rw [if_neg g1, q4 q k g2, h2 q k g1 g2]
  · show (if q = 21 then _ else if q = 22 then _ else if q = 24 then _ else ka1 q) = _
    rw [if_neg (by omega), if_neg (by omega), if_neg (by omega), h3 q hq]
  · show kr2 37 = _
    rw [q5, h4]
  · have := q8 j h5
    unfold I_len at *
    rw [r3]
    exact this
  · omega
def RP (sc f : Nat → Int32) (T : Tw) (n : Nat) (A : Nat → Tw) (i : Nat) (x : (Nat → Int32) × (Nat → Int32)) : Prop := MI x.1 x.2 (tWn T i) (wN n i) (wA T n A i) ∧ (∀ k, 1650 ≤ k → x.2 k = f k) ∧ ∀ i, i ≠ 2 → x.1 i = sc i
theorem RP_step {C P : kw_H} {sc f : Nat → Int32} {ar : Nat → Nat → Int32} {T : Tw} {n : Nat} {A : Nat → Tw} {i : Nat} (hC : C.length = 38) (hT : tReal T) (hn : n ≤ 24) (hi : T 3 + i + 1 ≤ 1000) (x : (Nat → Int32) × (Nat → Int32)) (h : RP sc f T n A i x) : ∃ y : (Nat → Int32) × (Nat → Int32), (∃ f1, X12_keepPast_F (hR C x.1 ar P x.2) 38 = some (hR C y.1 ar P f1) ∧ X12_passAsTold_F (hR C y.1 ar P f1) 38 (nI 0) = some (hR C y.1 ar P y.2)) ∧ RP sc f T n A (i + 1) y := by
  obtain ⟨h1, h2, h3⟩ := h
  have hok := tWn_ok hT.1 i (by omega)
  obtain ⟨f1, m1, m2, m3⟩ := m_keepPast (C := C) (P := P) (ar := ar) hC h1 (wN_le hn i)
  obtain ⟨f2, p1, p2, p3⟩ := m_passAsTold (C := C) (P := P) (sc := upd x.1 2 (nI (aN (wN n i)))) (ar := ar) (b := 0) hC (by omega) m2.1 hok
  refine ⟨(upd x.1 2 (nI (aN (wN n i))), f2), ⟨f1, m1, p1⟩, ⟨p2, m2.2.1, fun k hk q hq => ?_⟩, fun k hk => ?_, fun k hk => ?_⟩
  · show f2 _ = _
    rw [p3 _ (by omega)]
    exact m2.2.2 k hk q hq
  · show f2 k = _
    rw [p3 k (by omega), m3 k hk, h2 k hk]
  · show upd x.1 2 _ k = _
    rw [pk_un hk, h3 k hk]
theorem ag_weeks : lx_ag_weeks Inv := by
  intro j hp h hj a1
  have hM0 := Inv_M h
  have hS := Inv_S _ _ h
  obtain ⟨ks, ka, kl, kr, sc, ar, T, n, o, A, h⟩ := h
  obtain ⟨C, P, hC, rfl⟩ := MV_ex h.2.1
  have hth := IV_there h
  obtain ⟨⟨v, nm, jb, tu, tm, k1, k2, k3, k4⟩, hA, -⟩ := id h.2.2.2.2.2.2.2.1
  rcases hth with ⟨hT, s1, e1⟩ | ⟨-, s1, e1⟩
  case inr =>
    refine ⟨-1000002, _, _, ?_, hM0, ?_, hS⟩
    · unfold X11_weeks_F
      simp only [c0_r2 h.1, kc_ob k1, Option.bind_some, e1, if_pos e00]
    · unfold X12_weeks_F
      simp only [m_g1 hC, Option.bind_some, s1, if_pos e00]
  rcases w_spN a1 (a := 1) (b := 24) (by decide) (by decide) with ⟨w, rfl, hw0, hw, b1⟩ | b1
  case inr =>
    refine ⟨-1000001, _, _, ?_, hM0, ?_, hS⟩
    · unfold X11_weeks_F
      simp only [c0_r2 h.1, kc_ob k1, Option.bind_some, e1, if_neg e10, b1, if_pos e00]
    · unfold X12_weeks_F
      simp only [m_g1 hC, Option.bind_some, s1, if_neg e10, l_n 1 (by decide), l_n 24 (by decide), l_in, b1, if_pos e00]
  have h999 := hT.2
  have hle : (nI (T 3 + w) ≤ nI 999) ↔ T 3 + w ≤ 999 := q_le (by omega) (by omega)
  by_cases hf : T 3 + w ≤ 999
  case neg =>
    refine ⟨-1000003, _, _, ?_, hM0, ?_, hS⟩
    · unfold X11_weeks_F
      simp only [c0_r2 h.1, kc_ob k1, Option.bind_some, e1, if_neg e10, b1, kc_g7 k1, k2.1 3 (show 3 < 6 by omega), nI_add, hle, if_neg hf]
    · unfold X12_weeks_F
      simp only [m_g1 hC, Option.bind_some, s1, if_neg e10, l_n 1 (by decide), l_n 24 (by decide), l_in, b1, m_r0 hC, m_ld0 hC (show 3 < 1848 by omega), tA0 hA (show 3 < 66 by omega), nI_add, hle, if_neg hf]
  obtain ⟨B, ci, mi, ii, hAr⟩ := IV_split h
  have hn : n ≤ 24 := ci.2.2.1.1
  have wp0 : WP (hM C sc ar P) ks ka kl kr T n A B j 0 (hM C sc ar P) := ⟨ks, ka, kr, o, ci, fun _ _ _ => rfl, fun _ _ _ _ => rfl, fun _ _ => rfl, rfl, h.2.2.1, hM_47 hC⟩
  obtain ⟨F, F0, F1, F2⟩ := chain (P := WP (hM C sc ar P) ks ka kl kr T n A B j) (R := fun _ x y => ∃ r9, X11_keepAct_F x 0 = some r9 ∧ kp_ob x 0 10 = some () ∧ kp_gR r9 0 [10] 2 = some 20 ∧ kp_ob r9 20 2 = some () ∧ X2_passWeek_F r9 20 = some y) wp0 w (fun i x hi hx => WP_step hT (by omega) (by omega) hx)
  obtain ⟨ks2, ka2, kr2, o2, ci2, g1, g2, g3, g4, g5, g6⟩ := F1 w (Nat.le_refl _)
  have mv2 : MV (F w) sc ar := fun q hq => by rw [g1 _ (by omega) (by omega)]; exact h.2.1 q hq
  have hok := tWn_ok hT.1 w (by omega)
  obtain ⟨v2, nm2, jb2, tu2, tm2, w1, w2, -, -⟩ := id ci2.2.1
  have eC : X11_weeks_F (hM C sc ar P) 0 (nI w) = some (nI (tWn T w 4), F w) := by
    unfold X11_weeks_F
    simp only [c0_r2 h.1, kc_ob k1, Option.bind_some, e1, if_neg e10, b1, kc_g7 k1, k2.1 3 (show 3 < 6 by omega), nI_add, hle, if_pos hf]
    rw [← F0]
    refine lp_for (fun i => (nI i, F i)) w _ (fun i hi => ?_) ?_ 2000 (by omega)
    · obtain ⟨r9, z1, z2, z3, z4, z5⟩ := F2 i hi
      show X11_weeks_b46 _ _ _ _ = some (Sum.inl (nI (i + 1), F (i + 1)))
      unfold X11_weeks_b46
      rw [if_neg (fun z => by have := (q_le (show w < 2147483648 by omega) (show i < 2147483648 by omega)).mp z; omega), z2, Option.bind_some, z1, Option.bind_some, z3, Option.bind_some, z4, Option.bind_some, z5, Option.bind_some, nI_add]
    · show X11_weeks_b46 _ _ _ _ = _
      unfold X11_weeks_b46
      rw [if_pos ((q_le (by omega) (by omega)).mpr (Nat.le_refl _))]
      unfold X11_weeks_J68
      rw [c0_r2 ci2.1, Option.bind_some, kc_g8 w1, Option.bind_some, w2.1 4 (by omega)]
      rfl
  obtain ⟨C2, P2, hC2, eF⟩ := MV_ex mv2
  rw [eF] at ci2 g5 g6
  obtain ⟨G, G0, G1, G2⟩ := chain (P := RP sc (ar 0) T n A) (R := fun _ x y => ∃ f1, X12_keepPast_F (hR C2 x.1 ar P2 x.2) 38 = some (hR C2 y.1 ar P2 f1) ∧ X12_passAsTold_F (hR C2 y.1 ar P2 f1) 38 (nI 0) = some (hR C2 y.1 ar P2 y.2)) (x0 := (sc, ar 0)) ⟨mi, fun _ _ => rfl, fun _ _ => rfl⟩ w (fun i x hi hx => RP_step hC2 hT hn (by omega) x hx)
  obtain ⟨m1, m2, m3⟩ := G1 w (Nat.le_refl _)
  refine ⟨nI (tWn T w 4), F w, hR C2 (G w).1 ar P2 (G w).2, eC, by rw [eF]; exact hM_38 hC2, ?_, act_fin h hC2 ci2 (I_len_S g5) g2 g3 m1 (II_cg ii g4 rfl (fun k h1 h2 => m2 k h1)) (fun i hi => up_ne _ _ (by omega)) m3 ⟨hok, by rw [tWn_3]; exact hf⟩ (wA_real hT hn hAr w (by omega)) s1⟩
  rw [eF]
  unfold X12_weeks_F
  simp only [m_g1 hC2, Option.bind_some, s1, if_neg e10, l_n 1 (by decide), l_n 24 (by decide), l_in, b1, m_r0 hC2, m_ld0 hC2 (show 3 < 1848 by omega), tA0 hA (show 3 < 66 by omega), nI_add, hle, if_pos hf]
  rw [hR_self]
  rw [show hR C2 sc ar P2 (ar 0) = hR C2 (G 0).1 ar P2 (G 0).2 by rw [G0]]
  refine lp_for (fun i => (nI i, hR C2 (G i).1 ar P2 (G i).2)) w _ (fun i hi => ?_) ?_ 2000 (by omega)
  · obtain ⟨f1, z1, z2⟩ := G2 i hi
    show X12_weeks_b44 _ _ _ _ = some (Sum.inl (nI (i + 1), hR C2 (G (i + 1)).1 ar P2 (G (i + 1)).2))
    unfold X12_weeks_b44
    rw [if_neg (fun z => by have := (q_le (show w < 2147483648 by omega) (show i < 2147483648 by omega)).mp z; omega), r_ob hC2, Option.bind_some, z1, Option.bind_some, r_ob hC2, Option.bind_some, z2, Option.bind_some, nI_add]
  · show X12_weeks_b44 _ _ _ _ = _
    unfold X12_weeks_b44
    rw [if_pos ((q_le (by omega) (by omega)).mpr (Nat.le_refl _))]
    unfold X12_weeks_J64
    rw [r_r0 hC2, Option.bind_some, r_ld hC2 (by omega), Option.bind_some, tA0 m1.1 (by omega)]
    rfl
