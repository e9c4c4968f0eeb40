/-! ===== acts: leave, name, job, turn ===== -/
theorem tOk_cg {T T' : Tw} (h : tOk T) (e0 : T' 0 = T 0) (e1 : T' 1 = T 1) (e2 : T' 2 = T 2) (e3 : T' 3 = T 3) (e4 : T' 4 < T 1) (e5 : T' 5 < 64) (e6 : ∀ k, k < T 0 → T' (6 + k) ≤ 6) (e7 : ∀ k, k < T 1 → T' (14 + k) ≤ 6) (e8 : ∀ k, 22 ≤ k → T' k = T k) : tOk T' := by
  obtain ⟨h0, h1, h2, h3, h4, h5, h6, h7, h8, h9, h10⟩ := h
  refine ⟨by rw [e0]; exact h0, by rw [e1]; exact h1, by rw [e2]; exact h2, by rw [e3]; exact h3, by rw [e1]; exact e4, e5, by rw [e0]; exact e6, by rw [e1]; exact e7, fun k hk => ?_, fun k hk => ?_, fun k hk => ?_⟩
  · rw [e2] at hk; rw [e8 _ (by omega)]; exact h8 k hk
  · rw [e2] at hk; rw [e8 _ (by omega)]; exact h9 k hk
  · rw [e8 _ (by omega), e3]; exact h10 k hk
section KBw
variable {hp : kw_H} {i : Nat} {T : Tw}
theorem KB_put (h : KB hp i T) {k : Nat} (hk : 3 ≤ k ∧ k < 6) (x : Nat) : ∃ hp', kp_put hp i [2] (4 + k) (.int (nI x)) = some hp' ∧ KB hp' i (va_up T k x) ∧ hp'.length = hp.length ∧ ∀ q, q ≠ i → hp'[q]? = hp[q]? := by
  obtain ⟨v, nm, jb, tu, tm, k1, k2, k3, k4⟩ := h
  obtain ⟨hp', z1, z2, z3, z4⟩ := KC_p k1 hk.2 (nI x)
  have N : ∀ q, q = i → NT hp q := fun q hq => KC_NT k1 (by omega) (by omega)
  have u0 : va_up T k x 0 = T 0 := up_ne _ _ (by omega)
  have u1 : va_up T k x 1 = T 1 := up_ne _ _ (by omega)
  have u2 : va_up T k x 2 = T 2 := up_ne _ _ (by omega)
  refine ⟨hp', z1, ⟨upd v k (nI x), nm, jb, tu, tm, z2, ⟨fun q hq => ?_, fun q hq => ?_, fun q hq => ?_, fun q hq => ?_⟩, fun q hq => ?_, TV_fr (X := fun q => q = i) (fun q hq => z4 q hq) N k4⟩, z3, z4⟩
  · by_cases e : q = k
    · subst e; rw [pk_us, up_at]
    · rw [pk_un e, up_ne _ _ e]; exact k2.1 q hq
  · rw [u0] at hq; rw [up_ne _ _ (by omega)]; exact k2.2.1 q hq
  · rw [u1] at hq; rw [up_ne _ _ (by omega)]; exact k2.2.2.1 q hq
  · rw [up_ne _ _ (by omega)]; exact k2.2.2.2 q hq
  · rw [u2] at hq
    obtain ⟨a, b1, b2⟩ := k3 q hq
    refine ⟨a, b1, ?_⟩
    rw [up_ne _ _ (by omega), up_ne _ _ (by omega), z4 a (fun e => N a e _ _ b2 kcn_in)]
    exact b2
theorem KB_nm (h : KB hp i T) {s x : Nat} (hs : s < T 0) (h8 : T 0 ≤ 8) : ∃ hp', kp_stI hp (i + 1) (nI s) (nI x) = some hp' ∧ KB hp' i (va_up T (6 + s) x) ∧ hp'.length = hp.length ∧ ∀ q, q ≠ i + 1 → hp'[q]? = hp[q]? := by
  obtain ⟨v, nm, jb, tu, tm, k1, k2, k3, k4⟩ := h
  have N : ∀ q, q = i + 1 → NT hp q := fun q hq => KC_NT k1 (by omega) (by omega)
  have F : ∀ q, ¬ q = i + 1 → (hp.set (i + 1) (.inl (0, 8, .inl (upd nm s (nI x)))))[q]? = hp[q]? := fun q hq => by rw [List.getElem?_set_ne (Ne.symm hq)]
  have u0 : va_up T (6 + s) x 0 = T 0 := up_ne _ _ (by omega)
  have u1 : va_up T (6 + s) x 1 = T 1 := up_ne _ _ (by omega)
  have u2 : va_up T (6 + s) x 2 = T 2 := up_ne _ _ (by omega)
  refine ⟨_, st_at k1.2.1 (by decide) (by omega) _, ⟨v, upd nm s (nI x), jb, tu, tm, KC_w1 k1 _, ⟨fun q hq => ?_, fun q hq => ?_, fun q hq => ?_, fun q hq => ?_⟩, fun q hq => ?_, TV_fr (X := fun q => q = i + 1) F N k4⟩, by simp, F⟩
  · rw [up_ne _ _ (by omega)]; exact k2.1 q hq
  · rw [u0] at hq
    by_cases e : q = s
    · subst e; rw [pk_us, up_at]
    · rw [pk_un e, up_ne _ _ (by omega)]; exact k2.2.1 q hq
  · rw [u1] at hq; rw [up_ne _ _ (by omega)]; exact k2.2.2.1 q hq
  · rw [up_ne _ _ (by omega)]; exact k2.2.2.2 q hq
  · rw [u2] at hq
    obtain ⟨a, b1, b2⟩ := k3 q hq
    refine ⟨a, b1, ?_⟩
    rw [up_ne _ _ (by omega), up_ne _ _ (by omega), F a (fun e => N a e _ _ b2 kcn_in)]
    exact b2
theorem KB_jb (h : KB hp i T) {s x : Nat} (hs : s < T 1) (h8 : T 1 ≤ 8) (h08 : T 0 ≤ 8) : ∃ hp', kp_stI hp (i + 2) (nI s) (nI x) = some hp' ∧ KB hp' i (va_up T (14 + s) x) ∧ hp'.length = hp.length ∧ ∀ q, q ≠ i + 2 → hp'[q]? = hp[q]? := by
  obtain ⟨v, nm, jb, tu, tm, k1, k2, k3, k4⟩ := h
  have N : ∀ q, q = i + 2 → NT hp q := fun q hq => KC_NT k1 (by omega) (by omega)
  have F : ∀ q, ¬ q = i + 2 → (hp.set (i + 2) (.inl (0, 8, .inl (upd jb s (nI x)))))[q]? = hp[q]? := fun q hq => by rw [List.getElem?_set_ne (Ne.symm hq)]
  have u0 : va_up T (14 + s) x 0 = T 0 := up_ne _ _ (by omega)
  have u1 : va_up T (14 + s) x 1 = T 1 := up_ne _ _ (by omega)
  have u2 : va_up T (14 + s) x 2 = T 2 := up_ne _ _ (by omega)
  refine ⟨_, st_at k1.2.2.1 (by decide) (by omega) _, ⟨v, nm, upd jb s (nI x), tu, tm, KC_w2 k1 _, ⟨fun q hq => ?_, fun q hq => ?_, fun q hq => ?_, fun q hq => ?_⟩, fun q hq => ?_, TV_fr (X := fun q => q = i + 2) F N k4⟩, by simp, F⟩
  · rw [up_ne _ _ (by omega)]; exact k2.1 q hq
  · rw [u0] at hq
    rw [up_ne _ _ (by omega)]; exact k2.2.1 q hq
  · rw [u1] at hq
    by_cases e : q = s
    · subst e; rw [pk_us, up_at]
    · rw [pk_un e, up_ne _ _ (by omega)]; exact k2.2.2.1 q hq
  · rw [up_ne _ _ (by omega)]; exact k2.2.2.2 q hq
  · rw [u2] at hq
    obtain ⟨a, b1, b2⟩ := k3 q hq
    refine ⟨a, b1, ?_⟩
    rw [up_ne _ _ (by omega), up_ne _ _ (by omega), F a (fun e => N a e _ _ b2 kcn_in)]
    exact b2
end KBw
theorem tA_up0 {f : Nat → Int32} {T : Tw} (h : tA f 0 T) (k x : Nat) : tA (upd f k (nI x)) 0 (va_up T k x) := fun q hq => by
  rw [Nat.zero_add]
  by_cases e : q = k
  · subst e; rw [pk_us, up_at]
  · rw [pk_un e, up_ne _ _ e]
    have := h q hq
    rwa [Nat.zero_add] at this
theorem MI_up {sc f : Nat → Int32} {T : Tw} {n : Nat} {A : Nat → Tw} (h : MI sc f T n A) {k : Nat} (hk : k < 66) (x : Nat) : MI sc (upd f k (nI x)) (va_up T k x) n A :=
  ⟨tA_up0 h.1 k x, h.2.1, fun i hi q hq => by rw [pk_un (by omega)]; exact h.2.2 i hi q hq⟩
theorem aN_le {n : Nat} (h : n ≤ 24) : aN n ≤ 24 := by
  unfold aN
  split <;> omega
theorem aA_real {T : Tw} {n : Nat} {A : Nat → Tw} (hT : tReal T) (hA : ∀ k, k < n → tReal (A k)) (hn : n ≤ 24) : ∀ k, k < aN n → tReal (aA T n A k) := by
  intro k hk
  unfold aN at hk
  unfold aA
  by_cases e : n = 24
  · rw [if_pos e] at hk ⊢
    show tReal (if k = 23 then T else A (k + 1))
    by_cases e2 : k = 23
    · rw [if_pos e2]; exact hT
    · rw [if_neg e2]; exact hA _ (by omega)
  · rw [if_neg e] at hk ⊢
    show tReal (if k = n then T else A k)
    by_cases e2 : k = n
    · rw [if_pos e2]; exact hT
    · rw [if_neg e2]; exact hA _ (by omega)
theorem II_cg {kr kr' : Nat → Nat → Option Nat} {ar ar' : Nat → Nat → Int32} {B : Nat → Tw} (h : II kr ar B) (h37 : kr' 37 = kr 37) (h1 : ar' 1 = ar 1) (h0 : ∀ k, 1650 ≤ k → k < 1782 → ar' 0 k = ar 0 k) : II kr' ar' B := fun k hk => by
  rw [h37, h1]
  rcases h k hk with hh | ⟨b1, b2, b3, b4⟩
  · exact Or.inl hh
  · exact Or.inr ⟨b1, b2, b3, fun q hq => by rw [h0 _ (by omega) (by omega)]; exact b4 q hq⟩
/-- an act done by both -/
theorem act_fin {j : Nat} {hp C P : kw_H} {ks ka ks' ka' : Nat → Nat → Int32} {kl kl' : Nat → Nat → Int64} {kr kr' : Nat → Nat → Option Nat} {sc sc' : Nat → Int32} {ar ar' : Nat → Nat → Int32} {T T' : Tw} {n n' o o' : Nat} {A A' B : Nat → Tw} (h : IV j hp ks ka kl kr sc ar T n o A) (hC : C.length = 38) (hc : CI (hM C sc ar P) ks' ka' kl' kr' T' n' o' A' B) (hl : I_len (hM C sc ar P) kr' (j + 1)) (hks : ∀ q k, q ≠ 20 → ¬ (q = 0 ∧ (k = 7 ∨ k = 8)) → ks' q k = ks q k) (hka : ∀ q, ¬ (20 ≤ q ∧ q < 25) → ka' q = ka q) (hmi : MI sc' (ar' 0) T' n' A') (hii : II kr' ar' B) (har : ∀ i, 2 ≤ i → ar' i = ar i) (hsc : ∀ i, i ≠ 2 → sc' i = sc i) (hT' : tReal T') (hA' : ∀ k, k < n' → tReal (A' k)) (s1 : sc 1 = nI 1) : Inv (j + 1) (hM C sc' ar' P) := by
  obtain ⟨i1, i2, i3, i4, ⟨m5, y1, y2, y3, y4⟩, i6, ⟨⟨m7, w1, w2, w3, w4⟩, x1, x2, x3, x4⟩, -⟩ := h
  refine ⟨_, _, _, _, _, _, _, _, _, _, IV_join (CI_hM hC hc) (hM_MV hC) ?_ (fun r hr => ?_) ⟨m5, y1, ?_, ?_, fun k hk => ?_⟩ ⟨?_, ?_⟩ ⟨⟨m7, w1, ?_, ?_, fun k hk => ?_⟩, ?_, ?_, ?_, fun k hk => ?_⟩ hmi hii hA' (Or.inl ⟨hT', ?_⟩) (fun _ => ?_)⟩
  · unfold I_len at *
    rw [hM_len (sc' := sc) (ar' := ar)]
    exact hl
  · have := i4 r hr
    rw [har 3 (by omega), har 2 (by omega), har 4 (by omega), hka 12 (by omega), hka 11 (by omega), hka (3 + r) (by omega)]
    exact this
  · rw [hks 13 1 (by omega) (by omega)]; exact y2
  · rw [hsc 8 (by omega)]; exact y3
  · rw [har 5 (by omega), hka 14 (by omega)]; exact y4 k hk
  · rw [hsc 9 (by omega), hks 0 9 (by omega) (by omega)]; exact i6.1
  · rw [hsc 10 (by omega), hks 0 10 (by omega) (by omega)]; exact i6.2
  · rw [hks 34 1 (by omega) (by omega)]; exact w2
  · rw [hsc 12 (by omega)]; exact w3
  · rw [har 6 (by omega), hka 35 (by omega)]; exact w4 k hk
  · rw [hks 15 7 (by omega) (by omega)]; exact x1
  · rw [hks 15 8 (by omega) (by omega)]; exact x2
  · rw [hks 15 9 (by omega) (by omega)]; exact x3
  · rw [hka 19 (by omega)]; exact x4 k hk
  · rw [hsc 1 (by omega)]; exact s1
  · rw [hsc 1 (by omega)]; exact s1
theorem hM_47 {C P : kw_H} {sc : Nat → Int32} {ar : Nat → Nat → Int32} (hC : C.length = 38) : 47 ≤ (hM C sc ar P).length := by
  simp [hM, mcells, hC]
  omega
theorem I_len_S {hp : kw_H} {kr : Nat → Nat → Option Nat} {j : Nat} (h : I_len hp kr j) : I_len hp kr (j + 1) := by
  unfold I_len at *
  omega
theorem ag_leave : lx_ag_leave Inv := by
  intro j hp h hj a1
  have hM0 := Inv_M h
  have hS := Inv_S _ _ h
  obtain ⟨ks, ka, kl, kr, sc, ar, T, n, o, A, h⟩ := h
  obtain ⟨C, P, hC, rfl⟩ := MV_ex h.2.1
  have hth := IV_there h
  obtain ⟨⟨v, nm, jb, tu, tm, k1, k2, k3, k4⟩, hA, -⟩ := id h.2.2.2.2.2.2.2.1
  rcases hth with ⟨hT, s1, e1⟩ | ⟨-, s1, e1⟩
  case inr =>
    refine ⟨-1000002, _, _, ?_, hM0, ?_, hS⟩
    · unfold X11_leave_F
      simp only [c0_r2 h.1, kc_ob k1, Option.bind_some, e1, if_pos e00]
    · unfold X12_leave_F
      simp only [m_g1 hC, Option.bind_some, s1, if_pos e00]
  rcases six_sp a1 with ⟨p, hp6, rfl, b1, -, b3⟩ | ⟨b1, -, b3⟩
  case inr =>
    refine ⟨-1000001, _, _, ?_, hM0, ?_, hS⟩
    · unfold X11_leave_F
      simp only [c0_r2 h.1, kc_ob k1, Option.bind_some, e1, if_neg e10, b1, if_pos e00]
    · unfold X12_leave_F
      simp only [m_g1 hC, Option.bind_some, s1, if_neg e10, b3, if_pos e00]
  have h5 := hT.1.2.2.2.2.2.1
  by_cases hb : (T 5).testBit p = true
  · refine ⟨-1000002, _, _, ?_, hM0, ?_, hS⟩
    · unfold X11_leave_F
      simp only [c0_r2 h.1, kc_ob k1, Option.bind_some, e1, if_neg e10, b1, kc_g9 k1, k2.1 5 (show 5 < 6 by omega), c_holds h5 (show p < 8 by omega), if_pos hb]
    · unfold X12_leave_F
      simp only [m_g1 hC, Option.bind_some, s1, if_neg e10, b3, m_r0 hC, m_ld0 hC (show 5 < 1848 by omega), tA0 hA (show 5 < 66 by omega), m_has h5 (show p < 8 by omega), if_pos hb]
  obtain ⟨B, ci, mi, ii, hAr⟩ := IV_split h
  have hlen := IV_len h.2.2.1 (by omega)
  have hn : n ≤ 24 := ci.2.2.1.1
  obtain ⟨hp1, ks1, kr1, o1, q1, q2, q3, q4, q5, q6, q7, q8⟩ := CI_keepAct ci hT.1.sm (hM_47 hC) (by omega)
  obtain ⟨hp2, r1, r2, r3, r4⟩ := KB_put q2.2.1 (k := 5) (by omega) (T 5 ||| 2 ^ p)
  have r1 : kp_put hp1 20 [2] 9 (.int (nI (T 5 ||| 2 ^ p))) = some hp2 := r1
  obtain ⟨v1, nm1, jb1, tu1, tm1, u1, u2, -, -⟩ := id q2.2.1
  obtain ⟨v2, nm2, jb2, tu2, tm2, w1, w2, -, -⟩ := id r2
  have cv2 := CV_now q2.1 w1 (fun q hq => r4 q (by omega))
  have ci2 := CI_now q2 cv2 r2 (fun q hq => r4 q (by omega)) rfl rfl rfl rfl rfl
  have mv2 : MV hp2 sc ar := fun q hq => by rw [r4 _ (by omega), q3 _ (by omega) (by omega)]; exact h.2.1 q hq
  have hx : T 5 ||| 2 ^ p < 64 := Nat.or_lt_two_pow (n := 6) h5 (Nat.pow_lt_pow_right (by omega) hp6)
  have hT' : tReal (va_up T 5 (T 5 ||| 2 ^ p)) := ⟨tOk_cg hT.1 rfl rfl rfl rfl hT.1.2.2.2.2.1 hx (fun k hk => by rw [up_ne _ _ (by omega)]; exact hT.1.2.2.2.2.2.2.1 k hk) (fun k hk => by rw [up_ne _ _ (by omega)]; exact hT.1.2.2.2.2.2.2.2.1 k hk) (fun k hk => up_ne _ _ (by omega)), hT.2⟩
  have hl2 : I_len hp2 kr1 (j + 1) := by have := q8 j h.2.2.1; unfold I_len at *; omega
  obtain ⟨C2, P2, hC2, rfl⟩ := MV_ex mv2
  obtain ⟨f, m1, m2, m3⟩ := m_keepPast (C := C2) (P := P2) (ar := ar) hC2 mi hn
  rw [← hR_self] at m1
  refine ⟨nI (T 5 ||| 2 ^ p), hM C2 sc ar P2, hR C2 (upd sc 2 (nI (aN n))) ar P2 (upd f 5 (nI (T 5 ||| 2 ^ p))), ?_, hM_38 hC2, ?_, act_fin h hC2 ci2 hl2 ?_ ?_ (MI_up m2 (by omega) _) (II_cg ii q5 rfl ?_) ?_ (fun i hi => pk_un hi) hT' (aA_real hT hAr hn) s1⟩
  · unfold X11_leave_F
    simp only [c0_r2 h.1, kc_ob k1, Option.bind_some, e1, if_neg e10, b1, kc_g9 k1, k2.1 5 (show 5 < 6 by omega), c_holds h5 (show p < 8 by omega), if_neg hb, if_pos e00, c0_ob h.1, q1, c0_r2 q2.1, kc_g9 u1, u2.1 5 (show 5 < 6 by omega), q_or h5 hp6, r1, c0_r2 cv2, kc_g9 w1, w2.1 5 (show 5 < 6 by omega)]
    rfl
  · unfold X12_leave_F
    simp only [m_g1 hC2, Option.bind_some, s1, if_neg e10, b3, m_r0 hC2, m_ld0 hC2 (show 5 < 1848 by omega), tA0 hA (show 5 < 66 by omega), m_has h5 (show p < 8 by omega), if_neg hb, if_pos e00, m_ob hC2, m1, r_r0 hC2, r_ld hC2 (show 5 < 1848 by omega), tA0 m2.1 (show 5 < 66 by omega), q_or h5 hp6, r_st hC2 (show 5 < 1848 by omega), pk_us]
  · intro q k g1 g2
    show (if q = 20 then _ else ks1 q k) = _
    rw [if_neg g1]
    exact q4 q k g2
  · intro q hq
    show (if q = 21 then _ else if q = 22 then _ else if q = 24 then _ else ka q) = _
    rw [if_neg (by omega), if_neg (by omega), if_neg (by omega)]
  · intro k g1 g2
    show upd f 5 _ k = _
    rw [pk_un (by omega), m3 k g1]
  · intro i hi
    exact up_ne _ _ (by omega)
theorem ag_turn : lx_ag_turn Inv := by
  intro j hp h hj a1
  have hM0 := Inv_M h
  have hS := Inv_S _ _ h
  obtain ⟨ks, ka, kl, kr, sc, ar, T, n, o, A, h⟩ := h
  obtain ⟨C, P, hC, rfl⟩ := MV_ex h.2.1
  have hth := IV_there h
  obtain ⟨⟨v, nm, jb, tu, tm, k1, k2, k3, k4⟩, hA, -⟩ := id h.2.2.2.2.2.2.2.1
  rcases hth with ⟨hT, s1, e1⟩ | ⟨-, s1, e1⟩
  case inr =>
    refine ⟨-1000002, _, _, ?_, hM0, ?_, hS⟩
    · unfold X11_turn_F
      simp only [c0_r2 h.1, kc_ob k1, Option.bind_some, e1, if_pos e00]
    · unfold X12_turn_F
      simp only [m_g1 hC, Option.bind_some, s1, if_pos e00]
  rcases w_spN a1 (a := 1) (b := 8) (by decide) (by decide) with ⟨w, rfl, hw0, hw, b1⟩ | b1
  case inr =>
    refine ⟨-1000001, _, _, ?_, hM0, ?_, hS⟩
    · unfold X11_turn_F
      simp only [c0_r2 h.1, kc_ob k1, Option.bind_some, e1, if_neg e10, b1, if_pos e00]
    · unfold X12_turn_F
      simp only [m_g1 hC, Option.bind_some, s1, if_neg e10, l_n 1 (by decide), l_n 8 (by decide), l_in, b1, if_pos e00]
  obtain ⟨B, ci, mi, ii, hAr⟩ := IV_split h
  have hlen := IV_len h.2.2.1 (by omega)
  have hn : n ≤ 24 := ci.2.2.1.1
  have g1 := hT.1.2.1
  have g4 := hT.1.2.2.2.2.1
  have hx : (T 4 + w) % T 1 < T 1 := Nat.mod_lt _ (by omega)
  have hz : ((T 4 + (w : Int)) % T 1).toNat = (T 4 + w) % T 1 := by
    rw [← Int.natCast_add, ← Int.natCast_emod, Int.toNat_natCast]
  obtain ⟨hp1, ks1, kr1, o1, q1, q2, q3, q4, q5, q6, q7, q8⟩ := CI_keepAct ci hT.1.sm (hM_47 hC) (by omega)
  obtain ⟨hp2, r1, r2, r3, r4⟩ := KB_put q2.2.1 (k := 4) (by omega) ((T 4 + w) % T 1)
  have r1 : kp_put hp1 20 [2] 8 (.int (nI ((T 4 + w) % T 1))) = some hp2 := r1
  obtain ⟨v1, nm1, jb1, tu1, tm1, u1, u2, -, -⟩ := id q2.2.1
  obtain ⟨v2, nm2, jb2, tu2, tm2, w1, w2, -, -⟩ := id r2
  have cv2 := CV_now q2.1 w1 (fun q hq => r4 q (by omega))
  have ci2 := CI_now q2 cv2 r2 (fun q hq => r4 q (by omega)) rfl rfl rfl rfl rfl
  have mv2 : MV hp2 sc ar := fun q hq => by rw [r4 _ (by omega), q3 _ (by omega) (by omega)]; exact h.2.1 q hq
  have hT' : tReal (va_up T 4 ((T 4 + w) % T 1)) := ⟨tOk_cg hT.1 rfl rfl rfl rfl hx hT.1.2.2.2.2.2.1 (fun k hk => by rw [up_ne _ _ (by omega)]; exact hT.1.2.2.2.2.2.2.1 k hk) (fun k hk => by rw [up_ne _ _ (by omega)]; exact hT.1.2.2.2.2.2.2.2.1 k hk) (fun k hk => up_ne _ _ (by omega)), hT.2⟩
  have hl2 : I_len hp2 kr1 (j + 1) := by have := q8 j h.2.2.1; unfold I_len at *; omega
  obtain ⟨C2, P2, hC2, rfl⟩ := MV_ex mv2
  obtain ⟨f, m1, m2, m3⟩ := m_keepPast (C := C2) (P := P2) (ar := ar) hC2 mi hn
  rw [← hR_self] at m1
  have tb := m_turnBy (C := C2) (P := P2) (sc := upd sc 2 (nI (aN n))) (ar := ar) (f := f) (b := 0) hC2 (by omega) m2.1.tL hT.1 (z := (w : Int)) (by omega)
  rw [hz, ← eI_n, Nat.zero_add] at tb
  refine ⟨nI ((T 4 + w) % T 1), hM C2 sc ar P2, hR C2 (upd sc 2 (nI (aN n))) ar P2 (upd f 4 (nI ((T 4 + w) % T 1))), ?_, hM_38 hC2, ?_, act_fin h hC2 ci2 hl2 ?_ ?_ (MI_up m2 (by omega) _) (II_cg ii q5 rfl ?_) ?_ (fun i hi => pk_un hi) hT' (aA_real hT hAr hn) s1⟩
  · unfold X11_turn_F
    simp only [c0_r2 h.1, kc_ob k1, Option.bind_some, e1, if_neg e10, b1, c0_ob h.1, q1, c0_r2 q2.1, kc_g8 u1, kc_g5 u1, u2.1 4 (show 4 < 6 by omega), u2.1 1 (show 1 < 6 by omega), nI_add, c_rest (show T 4 + w < 2147483648 by omega) (show 0 < T 1 by omega) (show T 1 < 2147483648 by omega), r1, c0_r2 cv2, kc_g8 w1, w2.1 4 (show 4 < 6 by omega)]
    rfl
  · unfold X12_turn_F
    simp only [m_g1 hC2, Option.bind_some, s1, if_neg e10, l_n 1 (by decide), l_n 8 (by decide), l_in, b1, m_ob hC2, m1, r_ob hC2, tb, r_r0 hC2, r_ld hC2 (show 4 < 1848 by omega), pk_us]
  · intro q k g1 g2
    show (if q = 20 then _ else ks1 q k) = _
    rw [if_neg g1]
    exact q4 q k g2
  · intro q hq
    show (if q = 21 then _ else if q = 22 then _ else if q = 24 then _ else ka q) = _
    rw [if_neg (by omega), if_neg (by omega), if_neg (by omega)]
  · intro k g1 g2
    show upd f 4 _ k = _
    rw [pk_un (by omega), m3 k g1]
  · intro i hi
    exact up_ne _ _ (by omega)
theorem ag_name : lx_ag_name Inv := by
  intro j hp h hj a1 a2
  have hM0 := Inv_M h
  have hS := Inv_S _ _ h
  obtain ⟨ks, ka, kl, kr, sc, ar, T, n, o, A, h⟩ := h
  obtain ⟨C, P, hC, rfl⟩ := MV_ex h.2.1
  have hth := IV_there h
  obtain ⟨⟨v, nm, jb, tu, tm, k1, k2, k3, k4⟩, hA, -⟩ := id h.2.2.2.2.2.2.2.1
  rcases hth with ⟨hT, s1, e1⟩ | ⟨-, s1, e1⟩
  case inr =>
    refine ⟨-1000002, _, _, ?_, hM0, ?_, hS⟩
    · unfold X11_name_F
      simp only [c0_r2 h.1, kc_ob k1, Option.bind_some, e1, if_pos e00]
    · unfold X12_name_F
      simp only [m_g1 hC, Option.bind_some, s1, if_pos e00]
  obtain ⟨⟨g0, g0'⟩, ⟨g1, g1'⟩, -⟩ := id hT.1
  rcases w_spM a1 (a := 0) (n := T 0) (by decide) (by omega) with ⟨s, rfl, -, hs, b1⟩ | b1
  case inr =>
    refine ⟨-1000001, _, _, ?_, hM0, ?_, hS⟩
    · unfold X11_name_F X11_write_F
      simp only [c0_r2 h.1, c0_ob h.1, kc_ob k1, Option.bind_some, e1, if_neg e10, kc_r0 k1, kc_g4 k1, k2.1 0 (show 0 < 6 by omega), b1, if_pos e00]
    · unfold X12_name_F
      simp only [m_g1 hC, Option.bind_some, s1, if_neg e10, m_r0 hC, m_ld0 hC (show 0 < 1848 by omega), tA0 hA (show 0 < 66 by omega), l_n 0 (by decide), l_in, b1, if_pos e00]
  have hle : ¬ (nI 8 ≤ nI s) := fun z => by have := (q_le (show 8 < 2147483648 by decide) (show s < 2147483648 by omega)).mp z; omega
  rcases w_spN a2 (a := 0) (b := 6) (by decide) (by decide) with ⟨x, rfl, -, hx, b2⟩ | b2
  case inr =>
    refine ⟨-1000001, _, _, ?_, hM0, ?_, hS⟩
    · unfold X11_name_F X11_write_F
      simp only [c0_r2 h.1, c0_ob h.1, kc_ob k1, Option.bind_some, e1, if_neg e10, kc_r0 k1, kc_g4 k1, k2.1 0 (show 0 < 6 by omega), b1, kc_ln k1, if_neg hle, b2, if_pos e00]
    · unfold X12_name_F
      simp only [m_g1 hC, Option.bind_some, s1, if_neg e10, m_r0 hC, m_ld0 hC (show 0 < 1848 by omega), tA0 hA (show 0 < 66 by omega), l_n 0 (by decide), l_n 6 (by decide), l_in, b1, b2, if_pos e00]
  obtain ⟨B, ci, mi, ii, hAr⟩ := IV_split h
  have hlen := IV_len h.2.2.1 (by omega)
  have hn : n ≤ 24 := ci.2.2.1.1
  obtain ⟨hp1, ks1, kr1, o1, q1, q2, q3, q4, q5, q6, q7, q8⟩ := CI_keepAct ci hT.1.sm (hM_47 hC) (by omega)
  obtain ⟨hp2, r1, r2, r3, r4⟩ := KB_nm q2.2.1 (s := s) (x := x) hs g0'
  obtain ⟨v1, nm1, jb1, tu1, tm1, u1, u2, -, -⟩ := id q2.2.1
  obtain ⟨v2, nm2, jb2, tu2, tm2, w1, w2, -, -⟩ := id r2
  have cv2 := CV_now q2.1 w1 (fun q hq => r4 q (by omega))
  have ci2 := CI_now q2 cv2 r2 (fun q hq => r4 q (by omega)) rfl rfl rfl rfl rfl
  have mv2 : MV hp2 sc ar := fun q hq => by rw [r4 _ (by omega), q3 _ (by omega) (by omega)]; exact h.2.1 q hq
  have hT' : tReal (va_up T (6 + s) x) := ⟨tOk_cg hT.1 (up_ne _ _ (by omega)) (up_ne _ _ (by omega)) (up_ne _ _ (by omega)) (up_ne _ _ (by omega)) (by rw [up_ne _ _ (by omega)]; exact hT.1.2.2.2.2.1) (by rw [up_ne _ _ (by omega)]; exact hT.1.2.2.2.2.2.1) (fun k hk => by
      have := hT.1.2.2.2.2.2.2.1 k hk
      unfold va_up
      split <;> omega) (fun k hk => by
      have := hT.1.2.2.2.2.2.2.2.1 k hk
      unfold va_up
      split <;> omega) (fun k hk => up_ne _ _ (by omega)), by rw [up_ne _ _ (by omega)]; exact hT.2⟩
  have hl2 : I_len hp2 kr1 (j + 1) := by have := q8 j h.2.2.1; unfold I_len at *; omega
  obtain ⟨C2, P2, hC2, rfl⟩ := MV_ex mv2
  obtain ⟨f, m1, m2, m3⟩ := m_keepPast (C := C2) (P := P2) (ar := ar) hC2 mi hn
  rw [← hR_self] at m1
  refine ⟨nI (T (6 + s)), hM C2 sc ar P2, hR C2 (upd sc 2 (nI (aN n))) ar P2 (upd f (6 + s) (nI x)), ?_, hM_38 hC2, ?_, act_fin h hC2 ci2 hl2 ?_ ?_ (MI_up m2 (by omega) _) (II_cg ii q5 rfl ?_) ?_ (fun i hi => pk_un hi) hT' (aA_real hT hAr hn) s1⟩
  · unfold X11_name_F X11_write_F
    simp only [c0_r2 h.1, c0_ob h.1, kc_ob k1, Option.bind_some, e1, if_neg e10, kc_r0 k1, kc_g4 k1, k2.1 0 (show 0 < 6 by omega), b1, kc_ln k1, if_neg hle, b2, q1, kc_nm u1 (show s < 8 by omega), u2.2.1 s hs, r1]
  · unfold X12_name_F
    simp only [m_g1 hC2, Option.bind_some, s1, if_neg e10, m_r0 hC2, m_ld0 hC2 (show 0 < 1848 by omega), tA0 hA (show 0 < 66 by omega), l_n 0 (by decide), l_n 6 (by decide), l_in, b1, b2, m_ob hC2, m1, r_r0 hC2, nI_add, r_ld hC2 (show 6 + s < 1848 by omega), tA0 m2.1 (show 6 + s < 66 by omega), r_st hC2 (show 6 + s < 1848 by omega)]
  · intro q k g1 g2
    show (if q = 20 then _ else ks1 q k) = _
    rw [if_neg g1]
    exact q4 q k g2
  · intro q hq
    show (if q = 21 then _ else if q = 22 then _ else if q = 24 then _ else ka q) = _
    rw [if_neg (by omega), if_neg (by omega), if_neg (by omega)]
  · intro k g1 g2
    show upd f (6 + s) _ k = _
    rw [pk_un (by omega), m3 k g1]
  · intro i hi
    exact up_ne _ _ (by omega)
theorem ag_job : lx_ag_job Inv := by
  intro j hp h hj a1 a2
  have hM0 := Inv_M h
  have hS := Inv_S _ _ h
  obtain ⟨ks, ka, kl, kr, sc, ar, T, n, o, A, h⟩ := h
  obtain ⟨C, P, hC, rfl⟩ := MV_ex h.2.1
  have hth := IV_there h
  obtain ⟨⟨v, nm, jb, tu, tm, k1, k2, k3, k4⟩, hA, -⟩ := id h.2.2.2.2.2.2.2.1
  rcases hth with ⟨hT, s1, e1⟩ | ⟨-, s1, e1⟩
  case inr =>
    refine ⟨-1000002, _, _, ?_, hM0, ?_, hS⟩
    · unfold X11_job_F
      simp only [c0_r2 h.1, kc_ob k1, Option.bind_some, e1, if_pos e00]
    · unfold X12_job_F
      simp only [m_g1 hC, Option.bind_some, s1, if_pos e00]
  obtain ⟨⟨g0, g0'⟩, ⟨g1, g1'⟩, -⟩ := id hT.1
  rcases w_spM a1 (a := 0) (n := T 1) (by decide) (by omega) with ⟨s, rfl, -, hs, b1⟩ | b1
  case inr =>
    refine ⟨-1000001, _, _, ?_, hM0, ?_, hS⟩
    · unfold X11_job_F X11_write_F
      simp only [c0_r2 h.1, c0_ob h.1, kc_ob k1, Option.bind_some, e1, if_neg e10, kc_r1 k1, kc_g5 k1, k2.1 1 (show 1 < 6 by omega), b1, if_pos e00]
    · unfold X12_job_F
      simp only [m_g1 hC, Option.bind_some, s1, if_neg e10, m_r0 hC, m_ld0 hC (show 1 < 1848 by omega), tA0 hA (show 1 < 66 by omega), l_n 0 (by decide), l_in, b1, if_pos e00]
  have hle : ¬ (nI 8 ≤ nI s) := fun z => by have := (q_le (show 8 < 2147483648 by decide) (show s < 2147483648 by omega)).mp z; omega
  rcases w_spN a2 (a := 0) (b := 6) (by decide) (by decide) with ⟨x, rfl, -, hx, b2⟩ | b2
  case inr =>
    refine ⟨-1000001, _, _, ?_, hM0, ?_, hS⟩
    · unfold X11_job_F X11_write_F
      simp only [c0_r2 h.1, c0_ob h.1, kc_ob k1, Option.bind_some, e1, if_neg e10, kc_r1 k1, kc_g5 k1, k2.1 1 (show 1 < 6 by omega), b1, kc_lj k1, if_neg hle, b2, if_pos e00]
    · unfold X12_job_F
      simp only [m_g1 hC, Option.bind_some, s1, if_neg e10, m_r0 hC, m_ld0 hC (show 1 < 1848 by omega), tA0 hA (show 1 < 66 by omega), l_n 0 (by decide), l_n 6 (by decide), l_in, b1, b2, if_pos e00]
  obtain ⟨B, ci, mi, ii, hAr⟩ := IV_split h
  have hlen := IV_len h.2.2.1 (by omega)
  have hn : n ≤ 24 := ci.2.2.1.1
  obtain ⟨hp1, ks1, kr1, o1, q1, q2, q3, q4, q5, q6, q7, q8⟩ := CI_keepAct ci hT.1.sm (hM_47 hC) (by omega)
  obtain ⟨hp2, r1, r2, r3, r4⟩ := KB_jb q2.2.1 (s := s) (x := x) hs g1' g0'
  obtain ⟨v1, nm1, jb1, tu1, tm1, u1, u2, -, -⟩ := id q2.2.1
  obtain ⟨v2, nm2, jb2, tu2, tm2, w1, w2, -, -⟩ := id r2
  have cv2 := CV_now q2.1 w1 (fun q hq => r4 q (by omega))
  have ci2 := CI_now q2 cv2 r2 (fun q hq => r4 q (by omega)) rfl rfl rfl rfl rfl
  have mv2 : MV hp2 sc ar := fun q hq => by rw [r4 _ (by omega), q3 _ (by omega) (by omega)]; exact h.2.1 q hq
  have hT' : tReal (va_up T (14 + s) x) := ⟨tOk_cg hT.1 (up_ne _ _ (by omega)) (up_ne _ _ (by omega)) (up_ne _ _ (by omega)) (up_ne _ _ (by omega)) (by rw [up_ne _ _ (by omega)]; exact hT.1.2.2.2.2.1) (by rw [up_ne _ _ (by omega)]; exact hT.1.2.2.2.2.2.1) (fun k hk => by
      have := hT.1.2.2.2.2.2.2.1 k hk
      unfold va_up
      split <;> omega) (fun k hk => by
      have := hT.1.2.2.2.2.2.2.2.1 k hk
      unfold va_up
      split <;> omega) (fun k hk => up_ne _ _ (by omega)), by rw [up_ne _ _ (by omega)]; exact hT.2⟩
  have hl2 : I_len hp2 kr1 (j + 1) := by have := q8 j h.2.2.1; unfold I_len at *; omega
  obtain ⟨C2, P2, hC2, rfl⟩ := MV_ex mv2
  obtain ⟨f, m1, m2, m3⟩ := m_keepPast (C := C2) (P := P2) (ar := ar) hC2 mi hn
  rw [← hR_self] at m1
  refine ⟨nI (T (14 + s)), hM C2 sc ar P2, hR C2 (upd sc 2 (nI (aN n))) ar P2 (upd f (14 + s) (nI x)), ?_, hM_38 hC2, ?_, act_fin h hC2 ci2 hl2 ?_ ?_ (MI_up m2 (by omega) _) (II_cg ii q5 rfl ?_) ?_ (fun i hi => pk_un hi) hT' (aA_real hT hAr hn) s1⟩
  · unfold X11_job_F X11_write_F
    simp only [c0_r2 h.1, c0_ob h.1, kc_ob k1, Option.bind_some, e1, if_neg e10, kc_r1 k1, kc_g5 k1, k2.1 1 (show 1 < 6 by omega), b1, kc_lj k1, if_neg hle, b2, q1, kc_jb u1 (show s < 8 by omega), u2.2.2.1 s hs, r1]
  · unfold X12_job_F
    simp only [m_g1 hC2, Option.bind_some, s1, if_neg e10, m_r0 hC2, m_ld0 hC2 (show 1 < 1848 by omega), tA0 hA (show 1 < 66 by omega), l_n 0 (by decide), l_n 6 (by decide), l_in, b1, b2, m_ob hC2, m1, r_r0 hC2, nI_add, r_ld hC2 (show 14 + s < 1848 by omega), tA0 m2.1 (show 14 + s < 66 by omega), r_st hC2 (show 14 + s < 1848 by omega)]
  · intro q k g1 g2
    show (if q = 20 then _ else ks1 q k) = _
    rw [if_neg g1]
    exact q4 q k g2
  · intro q hq
    show (if q = 21 then _ else if q = 22 then _ else if q = 24 then _ else ka q) = _
    rw [if_neg (by omega), if_neg (by omega), if_neg (by omega)]
  · intro k g1 g2
    show upd f (14 + s) _ k = _
    rw [pk_un (by omega), m3 k g1]
  · intro i hi
    exact up_ne _ _ (by omega)
