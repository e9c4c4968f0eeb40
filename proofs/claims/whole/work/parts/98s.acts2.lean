/-! ===== undo, image, restore ===== -/
section CIc
variable {hp hp' : kw_H} {ks ka ks' ka' : Nat → Nat → Int32} {kl kl' : Nat → Nat → Int64} {kr : Nat → Nat → Option Nat} {T : Tw} {n o : Nat} {A B : Nat → Tw}
theorem CI_cnt (h : CI hp ks ka kl kr T n o A B) (hCV : CV hp' ks' ka' kl' kr) (hf : ∀ q, ¬ q = 0 → hp'[q]? = hp[q]?) {n' o' : Nat} {A' : Nat → Tw} (hn : n' ≤ 24) (ho : o' < 24) (h8 : ks' 0 8 = nI n') (h7 : ks' 0 7 = nI o') (hA : ∀ k, k < n' → ∃ a, kr 36 ((o' + k) % 24) = some a ∧ KB hp a (A' k)) : CI hp' ks' ka' kl' kr T n' o' A' B := by
  obtain ⟨i1, t1, ⟨a1, a2, a3, a4, a5⟩, b1, i11, i12⟩ := h
  have FN : ∀ q, q = 0 → NT hp q := fun q hq => CV_NT i1 (by omega)
  refine ⟨hCV, KB_fr (X := fun q => q = 0) hf FN (fun k hk => by omega) t1, ⟨hn, ho, h8, h7, fun k hk => ?_⟩, fun k a hk ha => ?_, ⟨fun i a hi ha => ?_, i11.2⟩, TV_fr (X := fun q => q = 0) hf FN i12⟩
  · obtain ⟨a, c1, c2⟩ := hA k hk
    have := own_a i11 (Nat.mod_lt _ (by omega)) c1
    exact ⟨a, c1, KB_fr (X := fun q => q = 0) hf FN (fun k hk => by omega) c2⟩
  · have := own_i i11 hk ha
    exact KB_fr (X := fun q => q = 0) hf FN (fun k hk => by omega) (b1 k a hk ha)
  · obtain ⟨g1, v, nm, jb, tu, tm, g2⟩ := i11.1 i a hi ha
    exact ⟨g1, v, nm, jb, tu, tm, KC_fr (X := fun q => q = 0) hf (fun k hk => by omega) g2⟩
theorem c36_ld (h : CV hp ks ka kl kr) {k : Nat} (hk : k < 24) : kp_ldR hp 4 36 (nI k) = some (kr 36 k) := by
  unfold kp_ldR
  rw [cv36 h]
  show (if 4 = 4 then (if nI k < 0 ∨ 24 ≤ (nI k).toNatClampNeg then none else some (kr 36 (nI k).toNatClampNeg)) else none) = _
  rw [if_pos rfl, q_cl (by omega), if_neg (q_in hk (by omega))]
theorem c37_ld (h : CV hp ks ka kl kr) {k : Nat} (hk : k < 2) : kp_ldR hp 4 37 (nI k) = some (kr 37 k) := by
  unfold kp_ldR
  rw [cv37 h]
  show (if 4 = 4 then (if nI k < 0 ∨ 2 ≤ (nI k).toNatClampNeg then none else some (kr 37 (nI k).toNatClampNeg)) else none) = _
  rw [if_pos rfl, q_cl (by omega), if_neg (q_in hk (by omega))]
theorem CI_keepI (h : CI hp ks ka kl kr T n o A B) (hs : tSm T) (h47 : 47 ≤ hp.length) (hl : hp.length ≤ 3800) {t : Nat} (ht : t < 2) : ∃ hp' kr', X11_keepIn_F hp 0 37 (nI t) = some hp' ∧ CI hp' ks ka kl kr' T n o A (va_up B t T) ∧ (∀ q, 38 ≤ q → q < 47 → hp'[q]? = hp[q]?) ∧ (∃ a, kr' 37 t = some a) ∧ (∀ k, k ≠ t → kr' 37 k = kr 37 k) ∧ kr' 18 = kr 18 ∧ ∀ j, I_len hp kr j → I_len hp' kr' j := by
  obtain ⟨i1, t1, ⟨a1, a2, a3, a4, a5⟩, b1, i11, i12⟩ := h
  have hOs : OWN kr (24 + t) = kr 37 t := by unfold OWN; rw [if_neg (by omega), show 24 + t - 24 = t by omega]
  obtain ⟨hp1, a, z1, z2, z3, z4, z5, z6, z7⟩ := c_keepIn i1 t1 hs (cv37 i1) (by omega) (by omega) ht h47 hl (fun a ha => i11.1 (24 + t) a (by omega) (by rw [hOs]; exact ha))
  have cv1 := CV_37 i1 _ z3 (fun q hq hne => z6 q (by omega))
  have hOW : ∀ i, OWN (fun q => if q = 37 then va_up (kr 37) t (some a) else kr q) i = if i = 24 + t then some a else OWN kr i := by
    intro i
    unfold OWN va_up
    by_cases e : i < 24
    · rw [if_pos e, if_pos e, if_neg (by omega)]
      rfl
    · rw [if_neg e, if_neg e]
      show (if i - 24 = t then some a else kr 37 (i - 24)) = _
      by_cases e2 : i = 24 + t
      · rw [if_pos (by omega), if_pos e2]
      · rw [if_neg (by omega), if_neg e2]
  rw [← hOs] at z5
  obtain ⟨key, own, len⟩ := own_keep i11 (by omega) z4 z5 z6 (by omega) z2 hOW
  have KO : ∀ i b T', i < 26 → i ≠ 24 + t → OWN kr i = some b → KB hp b T' → KB hp1 b T' := fun i b T' hi hne hb hk => by
    obtain ⟨g1, g2, g3⟩ := key i b hi hne hb
    exact KB_fr (X := fun q => q = 37 ∨ (a ≤ q ∧ q < a + 5) ∨ hp.length ≤ q) z6 z7 (fun k hk => by omega) hk
  refine ⟨hp1, _, z1, ⟨cv1, KB_fr (X := fun q => q = 37 ∨ (a ≤ q ∧ q < a + 5) ∨ hp.length ≤ q) z6 z7 (fun k hk => by omega) t1, ⟨a1, a2, a3, a4, fun k hk => ?_⟩, fun k b hk hb => ?_, own, TV_fr (X := fun q => q = 37 ∨ (a ≤ q ∧ q < a + 5) ∨ hp.length ≤ q) z6 z7 i12⟩, fun q h1 h2 => z6 q (by omega), ⟨a, up_at (kr 37) t (some a)⟩, fun k hk => up_ne (kr 37) (some a) hk, rfl, len⟩
  · obtain ⟨b, c1, c2⟩ := a5 k hk
    have hm := Nat.mod_lt (o + k) (show 0 < 24 by omega)
    exact ⟨b, c1, KO ((o + k) % 24) b _ (by omega) (by omega) (by unfold OWN; rw [if_pos hm]; exact c1) c2⟩
  · have hb : va_up (kr 37) t (some a) k = some b := hb
    by_cases e : k = t
    · subst e
      rw [up_at] at hb
      cases hb
      rw [up_at]
      exact z2
    · rw [up_ne _ _ e] at hb
      rw [up_ne _ _ e]
      exact KO (24 + k) b _ (by omega) (by omega) (by unfold OWN; rw [if_neg (by omega), show 24 + k - 24 = k by omega]; exact hb) (b1 k b hk hb)
end CIc
theorem ag_undo : lx_ag_undo Inv := by
  rintro j hp h hj -
  have hM0 := Inv_M h
  have hS := Inv_S _ _ h
  obtain ⟨ks, ka, kl, kr, sc, ar, T, n, o, A, h⟩ := h
  obtain ⟨C, P, hC, rfl⟩ := MV_ex h.2.1
  obtain ⟨B, ci, mi, ii, hAr⟩ := IV_split h
  obtain ⟨i1, t1, ⟨a1, a2, a3, a4, a5⟩, b1, i11, i12⟩ := id ci
  have hs1 := h.2.2.2.2.2.2.2.2.1.2.2.2.2.2.1
  rcases (show n = 0 ∨ ∃ m, n = m + 1 from by cases n; exact Or.inl rfl; exact Or.inr ⟨_, rfl⟩) with rfl | ⟨m, rfl⟩
  · refine ⟨-1000002, _, _, ?_, hM0, ?_, hS⟩
    · unfold X11_undo_F
      rw [c0_g8 h.1, Option.bind_some, a3, if_pos e00]
    · unfold X12_undo_F
      rw [m_g2 hC, Option.bind_some, mi.2.1, if_pos e00]
  have hne : ¬ (nI (m + 1) = 0) := fun z => by have := (q_eq0 (show m + 1 < 2147483648 by omega)).mp z; omega
  have s1 : sc 1 = nI 1 := hs1 (Or.inl (by omega))
  obtain ⟨hp1, p1, p2, p3, p4⟩ := c0_p8 i1 (nI m)
  have ci1 : CI hp1 _ ka kl kr T m o A B := CI_cnt ci p2 p4 (by omega) a2 rfl a4 (fun k hk => a5 k (by omega))
  obtain ⟨a, c1, c2⟩ := a5 m (by omega)
  have hm := Nat.mod_lt (o + m) (show 0 < 24 by omega)
  have ha := own_a i11 hm c1
  have c2' : KB hp1 a (A m) := KB_fr (X := fun q => q = 0) p4 (fun q hq => CV_NT i1 (by omega)) (fun k hk => by omega) c2
  have hAm := hAr m (by omega)
  obtain ⟨hp2, z1, z2, z3, z4⟩ := KB_become (CV_KC p2) c2' hAm.1.sm (by omega)
  obtain ⟨v2, nm2, jb2, tu2, tm2, w1, w2, -, -⟩ := id z2
  have cv2 := CV_now p2 w1 z4
  have ci2 := CI_now ci1 cv2 z2 z4 rfl rfl rfl rfl rfl
  have mv2 : MV hp2 sc ar := fun q hq => by rw [z4 _ (by omega), p4 _ (by omega)]; exact h.2.1 q hq
  have hl2 : I_len hp2 kr (j + 1) := by have := h.2.2.1; unfold I_len at *; omega
  obtain ⟨C2, P2, hC2, rfl⟩ := MV_ex mv2
  obtain ⟨f, m1, m2, m3⟩ := m_copyTown (C := C2) (P := P2) (sc := upd sc 2 (nI m)) (ar := ar) (f := ar 0) hC2 (a := 66 + 66 * m) (b := 0) (by omega) (by omega) (by omega)
  rw [← hR_self] at m1
  refine ⟨nI m, hM C2 sc ar P2, hR C2 (upd sc 2 (nI m)) ar P2 f, ?_, hM_38 hC2, ?_, act_fin h hC2 ci2 hl2 ?_ ?_ ⟨fun k hk => ?_, rfl, fun i hi k hk => ?_⟩ (II_cg ii rfl rfl ?_) ?_ (fun i hi => pk_un hi) hAm (fun k hk => hAr k (by omega)) s1⟩
  · unfold X11_undo_F
    have e8 : up2 ks 0 8 (nI m) 0 8 = nI m := rfl
    have e7 : up2 ks 0 8 (nI m) 0 7 = nI o := a4
    simp only [c0_g8 i1, Option.bind_some, a3, if_neg hne, q_sub1, p1, c0_r5 p2, c0_g7 p2, c0_g8 p2, e8, e7, nI_add, c_rest (show o + m < 2147483648 by omega) (show 0 < 24 by omega) (show 24 < 2147483648 by omega), c36_ld p2 hm, c1, kp_nu, c0_r2 p2, kc_ob (CV_KC p2), z1, c0_g8 cv2]
    rfl
  · unfold X12_undo_F
    simp only [m_g2 hC2, Option.bind_some, mi.2.1, if_neg hne, q_sub1, m_p2 hC2, pk_us, m_ob hC2, q_mul, nI_add, m1, r_g2 hC2]
  · intro q k g1 g2
    show (if q = 20 then _ else up2 ks 0 8 (nI m) q k) = _
    rw [if_neg g1]
    exact if_neg (by omega)
  · intro q hq
    show (if q = 21 then _ else if q = 22 then _ else if q = 24 then _ else ka q) = _
    rw [if_neg (by omega), if_neg (by omega), if_neg (by omega)]
  · show f (0 + k) = _
    rw [m2 k hk]
    exact mi.2.2 m (by omega) k hk
  · show f _ = _
    rw [m3 _ (by omega)]
    exact mi.2.2 i (by omega) k hk
  · intro k g1 g2
    exact m3 k (by omega)
  · intro i hi
    exact up_ne _ _ (by omega)
theorem ag_image : lx_ag_image Inv := by
  intro j hp h hj a1
  have hM0 := Inv_M h
  have hS := Inv_S _ _ h
  obtain ⟨ks, ka, kl, kr, sc, ar, T, n, o, A, h⟩ := h
  obtain ⟨C, P, hC, rfl⟩ := MV_ex h.2.1
  have hth := IV_there h
  obtain ⟨⟨v, nm, jb, tu, tm, k1, k2, k3, k4⟩, hA, -⟩ := id h.2.2.2.2.2.2.2.1
  rcases w_spN a1 (a := 0) (b := 1) (by decide) (by decide) with ⟨t, rfl, -, ht, b1⟩ | b1
  case inr =>
    refine ⟨-1000001, _, _, ?_, hM0, ?_, hS⟩
    · unfold X11_image_F
      simp only [b1, Option.bind_some, if_pos e00]
    · unfold X12_image_F
      simp only [l_n 0 (by decide), l_n 1 (by decide), l_in, b1, Option.bind_some, if_pos e00]
  rcases hth with ⟨hT, s1, e1⟩ | ⟨-, s1, e1⟩
  case inr =>
    refine ⟨-1000002, _, _, ?_, hM0, ?_, hS⟩
    · unfold X11_image_F
      simp only [b1, if_neg e10, c0_r2 h.1, kc_ob k1, Option.bind_some, e1, if_pos e00]
    · unfold X12_image_F
      simp only [l_n 0 (by decide), l_n 1 (by decide), l_in, b1, if_neg e10, m_g1 hC, Option.bind_some, s1, if_pos e00]
  obtain ⟨B, ci, mi, ii, hAr⟩ := IV_split h
  have hlen := IV_len h.2.2.1 (by omega)
  obtain ⟨hp2, kr2, q1, q2, q3, ⟨a, q4⟩, q5, q6, q7⟩ := CI_keepI ci hT.1.sm (hM_47 hC) (by omega) (t := t) (by omega)
  have mv2 : MV hp2 sc ar := fun q hq => by rw [q3 _ (by omega) (by omega)]; exact h.2.1 q hq
  have hl2 : I_len hp2 kr2 (j + 1) := I_len_S (q7 j h.2.2.1)
  obtain ⟨C2, P2, hC2, rfl⟩ := MV_ex mv2
  obtain ⟨f, m1, m2, m3⟩ := m_copyTown (C := C2) (P := P2) (sc := sc) (ar := ar) (f := ar 0) hC2 (a := 0) (b := 1650 + 66 * t) (by omega) (by omega) (by omega)
  rw [← hR_self] at m1
  have m4 : kp_stZ (hR C2 sc ar P2 f) 40 (nI t) (nI 1) = some (hM C2 sc (va_up (va_up ar 0 f) 1 (upd (ar 1) t (nI 1))) P2) := m_st1 hC2 (by omega)
  have m5 : kp_gR (hR C2 sc ar P2 f) 38 [11] 3 = some 40 := m_r3 hC2
  refine ⟨nI 1, hM C2 sc ar P2, hM C2 sc (va_up (va_up ar 0 f) 1 (upd (ar 1) t (nI 1))) P2, ?_, hM_38 hC2, ?_, act_fin h hC2 q2 hl2 (fun q k _ _ => rfl) (fun q _ => rfl) (sc' := sc) (ar' := va_up (va_up ar 0 f) 1 (upd (ar 1) t (nI 1))) ⟨fun k hk => ?_, mi.2.1, fun i hi k hk => ?_⟩ (fun k hk => ?_) ?_ (fun i hi => rfl) hT hAr s1⟩
  · unfold X11_image_F
    simp only [b1, if_neg e10, c0_r2 h.1, kc_ob k1, Option.bind_some, e1, c0_r6 h.1, c0_ob h.1, q1]
  · unfold X12_image_F
    simp only [l_n 0 (by decide), l_n 1 (by decide), l_in, b1, if_neg e10, m_g1 hC2, Option.bind_some, s1, m_ob hC2, q_mul, nI_add, m1, m5, m4]
  · show f (0 + k) = _
    rw [m3 _ (by omega)]
    exact hA k hk
  · show f _ = _
    have := ci.2.2.1.1
    rw [m3 _ (by omega)]
    exact mi.2.2 i hi k hk
  · by_cases e : k = t
    · subst e
      refine Or.inr ⟨⟨a, q4⟩, ?_, ?_, fun q hq => ?_⟩
      · show upd (ar 1) k (nI 1) k = _
        rw [pk_us]
      · rw [up_at]; exact hT
      · show f (1650 + 66 * k + q) = _
        rw [m2 q hq, up_at, Nat.zero_add]
        exact tA0 hA hq
    · rw [q5 k e]
      have e1 : va_up (va_up ar 0 f) 1 (upd (ar 1) t (nI 1)) 1 k = ar 1 k := by
        show upd (ar 1) t (nI 1) k = _
        rw [pk_un e]
      rw [e1]
      rcases ii k hk with hh | ⟨b1, b2, b3, b4⟩
      · exact Or.inl hh
      · refine Or.inr ⟨b1, b2, by rw [up_ne _ _ e]; exact b3, fun q hq => ?_⟩
        show f (1650 + 66 * k + q) = _
        rw [m3 _ (by omega), up_ne _ _ e]
        exact b4 q hq
  · intro i hi
    rw [up_ne _ _ (by omega), up_ne _ _ (by omega)]
theorem ag_restore : lx_ag_restore Inv := by
  intro j hp h hj a1
  have hM0 := Inv_M h
  have hS := Inv_S _ _ h
  obtain ⟨ks, ka, kl, kr, sc, ar, T, n, o, A, h⟩ := h
  obtain ⟨C, P, hC, rfl⟩ := MV_ex h.2.1
  rcases w_spN a1 (a := 0) (b := 1) (by decide) (by decide) with ⟨t, rfl, -, ht, b1⟩ | b1
  case inr =>
    refine ⟨-1000001, _, _, ?_, hM0, ?_, hS⟩
    · unfold X11_restore_F
      simp only [b1, Option.bind_some, if_pos e00]
    · unfold X12_restore_F
      simp only [l_n 0 (by decide), l_n 1 (by decide), l_in, b1, Option.bind_some, if_pos e00]
  obtain ⟨B, ci, mi, ii, hAr⟩ := IV_split h
  have hs1 := h.2.2.2.2.2.2.2.2.1.2.2.2.2.2.1
  rcases ii t (by omega) with ⟨n1, n2⟩ | ⟨⟨a, n1⟩, n2, n3, n4⟩
  · refine ⟨-1000002, _, _, ?_, hM0, ?_, hS⟩
    · unfold X11_restore_F
      simp only [b1, if_neg e10, c0_r6 h.1, c37_ld h.1 (show t < 2 by omega), n1, Option.bind_some, kp_nu]
    · unfold X12_restore_F
      simp only [l_n 0 (by decide), l_n 1 (by decide), l_in, b1, if_neg e10, m_r3 hC, m_ld1 hC (show t < 2 by omega), n2, Option.bind_some, if_pos e00]
  have s1 : sc 1 = nI 1 := hs1 (Or.inr ⟨t, a, by omega, n1⟩)
  have ha := own_i ci.2.2.2.2.1 (show t < 2 by omega) n1
  obtain ⟨hp1, z1, z2, z3, z4⟩ := KB_become (CV_KC h.1) (ci.2.2.2.1 t a (by omega) n1) n3.1.sm (by omega)
  obtain ⟨v2, nm2, jb2, tu2, tm2, w1, w2, -, -⟩ := id z2
  have cv1 := CV_now h.1 w1 z4
  have ci1 := CI_now ci cv1 z2 z4 rfl rfl rfl rfl rfl
  obtain ⟨hp2, p1, p2, p3, p4⟩ := c0_p7 cv1 (nI 0)
  obtain ⟨hp3, r1, r2, r3, r4⟩ := c0_p8 p2 (nI 0)
  have ci3 := CI_cnt ci1 r2 (fun q hq => (r4 q hq).trans (p4 q hq)) (n' := 0) (o' := 0) (A' := A) (by omega) (by omega) rfl rfl (fun k hk => by omega)
  have mv3 : MV hp3 sc ar := fun q hq => by rw [r4 _ (by omega), p4 _ (by omega), z4 _ (by omega)]; exact h.2.1 q hq
  have hl3 : I_len hp3 kr (j + 1) := by have := h.2.2.1; unfold I_len at *; omega
  obtain ⟨C2, P2, hC2, rfl⟩ := MV_ex mv3
  obtain ⟨f, m1, m2, m3⟩ := m_copyTown (C := C2) (P := P2) (sc := sc) (ar := ar) (f := ar 0) hC2 (a := 1650 + 66 * t) (b := 0) (by omega) (by omega) (by omega)
  rw [← hR_self] at m1
  refine ⟨nI 1, hM C2 sc ar P2, hR C2 (upd sc 2 (nI 0)) ar P2 f, ?_, hM_38 hC2, ?_, act_fin h hC2 ci3 hl3 ?_ ?_ ⟨fun k hk => ?_, rfl, fun i hi k hk => by omega⟩ (II_cg ii rfl rfl ?_) ?_ (fun i hi => pk_un hi) n3 (fun k hk => by omega) s1⟩
  · unfold X11_restore_F X11_forgetActs_F
    simp only [b1, if_neg e10, c0_r6 h.1, c37_ld h.1 (show t < 2 by omega), n1, Option.bind_some, kp_nu, c0_r2 h.1, kc_ob (CV_KC h.1), z1, c0_ob cv1, p1, r1]
  · unfold X12_restore_F
    simp only [l_n 0 (by decide), l_n 1 (by decide), l_in, b1, if_neg e10, m_r3 hC2, m_ld1 hC2 (show t < 2 by omega), n2, Option.bind_some, m_ob hC2, q_mul, nI_add, m1, r_p2 hC2]
  · intro q k g1 g2
    show up2 (up2 (fun q k => if q = 20 then v2 (k - 4) else ks q k) 0 7 (nI 0)) 0 8 (nI 0) q k = _
    unfold up2
    rw [if_neg (by omega), if_neg (by omega)]
    exact if_neg g1
  · intro q hq
    show (if q = 21 then _ else if q = 22 then _ else if q = 24 then _ else ka q) = _
    rw [if_neg (by omega), if_neg (by omega), if_neg (by omega)]
  · show f (0 + k) = _
    rw [m2 k hk]
    exact n4 k hk
  · intro k g1 g2
    exact m3 k (by omega)
  · intro i hi
    exact up_ne _ _ (by omega)
