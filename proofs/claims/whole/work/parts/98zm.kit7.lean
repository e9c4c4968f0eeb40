/-! ===== kitchen: both sides agree ===== -/
section KitE
variable {C P : kw_H} {ks ka : Nat → Nat → Int32} {kl : Nat → Nat → Int64} {kr : Nat → Nat → Option Nat} {sc : Nat → Int32} {ar : Nat → Nat → Int32} {T : Tw} {j n o : Nat} {A : Nat → Tw} {b : Nat → Nat} {L : Nat}
theorem kit_F (h : IV j (hM C sc ar P) ks ka kl kr sc ar T n o A) (hj : j < 64) (hC : C.length = 38) (hT : TB ks ka b L) (hTP : TP sc ar b L) {y w : Nat} (hF : FLT b L y w) : ∃ (r : Int32) (hp1 : kw_H) (hp2 : kw_H), X11_kitchen_F (hM C sc ar P) 0 = some (r, hp1) ∧ (∃ fs, hp1[38]? = some (.inr (11, fs))) ∧ X12_kitchen_F hp1 38 = some (r, hp2) ∧ Inv (j + 1) hp2 := by
  obtain ⟨h1, h2, h3, h4, h5, h6, ⟨⟨m7, w1', w2', w3', w4'⟩, x1', x2', x3', x4'⟩, h8, h9, h10, h11, h12⟩ := id h
  have hlen := IV_len h3 (by omega)
  have h47 := hM_47 (P := P) (sc := sc) (ar := ar) hC
  obtain ⟨B, ci, mi, ii, hAr⟩ := IV_split h
  obtain ⟨kds, bys, H1, a4, a5, a6, nm, jb, tu, m, hm, e1, z⟩ := c_rdF hT ⟨h47, by omega⟩ h1 h12 hF
  obtain ⟨H2, p1, p2, p3, p4⟩ := c13_p1 z.1 (nI 0)
  obtain ⟨H3, q1, q2, q3, q4⟩ := c0_p9 p2 (nI w)
  have eC : X11_kitchen_F (hM C sc ar P) 0 = some ((-1000100) - nI y, H3) := by
    unfold X11_kitchen_F
    rw [c0_r1 h1, Option.bind_some, c13_ob h1, Option.bind_some, e1, Option.bind_some]
    show ((kp_gR H1 0 [10] 1).bind fun v3 => (kp_put H1 v3 [8] 1 (.int (nI 0))).bind fun hp4 => if nI 0 = 0 then (kp_gR hp4 0 [10] 1).bind fun v12 => (kp_gI hp4 v12 [8] 3).bind fun v13 => (kp_put hp4 0 [10] 9 (.int v13)).bind fun hp14 => (kp_gR hp14 0 [10] 1).bind fun v15 => (kp_gI hp14 v15 [8] 4).bind fun v16 => some ((-1000100) - v16, hp14) else _) = _
    rw [c0_r1 z.1, Option.bind_some, p1, Option.bind_some, if_pos e00, c0_r1 p2, Option.bind_some, c13_g3 p2, Option.bind_some]
    show ((kp_put H2 0 [10] 9 (.int (nI w))).bind fun hp14 => (kp_gR hp14 0 [10] 1).bind fun v15 => (kp_gI hp14 v15 [8] 4).bind fun v16 => some ((-1000100) - v16, hp14)) = _
    rw [q1, Option.bind_some, c0_r1 q2, Option.bind_some, c13_g4 q2]
    rfl
  have F : ∀ q, ¬ (q = 0 ∨ q = 13 ∨ (15 ≤ q ∧ q < 19) ∨ (hM C sc ar P).length ≤ q) → H3[q]? = (hM C sc ar P)[q]? := fun q hq => by rw [q4 q (by omega), p4 q (by omega), z.2.2.2.1 q (by omega) (by omega)]
  have N2 : ∀ q, (q = 0 ∨ q = 13 ∨ (15 ≤ q ∧ q < 19) ∨ (hM C sc ar P).length ≤ q) → NT (hM C sc ar P) q := fun q hq => by
    by_cases z : q < 38
    · exact CV_NT h1 z
    · intro ci fs e
      rw [List.getElem?_eq_none (by omega)] at e
      cases e
  have tv3 : TV H3 tu := TV_fr (X := fun q => q = 0) q4 (fun q hq => CV_NT p2 (by omega)) (TV_fr (X := fun q => q = 13) p4 (fun q hq => CV_NT z.1 (by omega)) z.2.1)
  have ci2 := CI_fr2 (X := fun q => q = 0 ∨ q = 13 ∨ (15 ≤ q ∧ q < 19) ∨ (hM C sc ar P).length ≤ q) ci q2 F N2 (fun k hk => by omega) (fun i b hi hb kk hkk => by
    obtain ⟨o1, v3, n3, j3, t3, m3, o2⟩ := ci.2.2.2.2.1.1 i b hi hb
    have := KC_lt o2
    omega) rfl rfl tv3 rfl rfl
  have mv2 : MV H3 sc ar := fun q hq => by rw [F _ (by omega)]; exact h2 q hq
  have hl2 : I_len H3 kr (j + 1) := by have := z.2.2.2.2; unfold I_len at *; omega
  obtain ⟨C2, P2, hC2, rfl⟩ := MV_ex mv2
  obtain ⟨f', n', g1, g2⟩ := m_rdF (C := C2) (P := P2) (f := ar 0) (a := sc 13) (w := sc 14) (n := sc 15) hC2 hTP hF
  rw [← RD_self] at g2
  have eM : X12_kitchen_F (hM C2 sc ar P2) 38 = some ((-1000100) - nI y, hM C2 (upd (upd (sP sc (nI y) (nI w) n') 8 (nI 0)) 9 (nI w)) (va_up ar 0 f') P2) := by
    unfold X12_kitchen_F
    rw [m_ob hC2, Option.bind_some, g2, Option.bind_some]
    show ((kp_put (hM C2 (sP sc (nI y) (nI w) n') (va_up ar 0 f') P2) 38 [11] 8 (.int (nI 0))).bind fun hp2 => if nI 0 = 0 then (kp_gI hp2 38 [11] 14).bind fun v8 => (kp_put hp2 38 [11] 9 (.int v8)).bind fun hp9 => (kp_gI hp9 38 [11] 13).bind fun v10 => some ((-1000100) - v10, hp9) else _) = _
    rw [m_p8 hC2, Option.bind_some, if_pos e00, m_g14 hC2, Option.bind_some, m_p9 hC2, Option.bind_some, m_g13 hC2]
    rfl
  refine ⟨(-1000100) - nI y, hM C2 sc ar P2, _, eC, hM_38 hC2, eM, ⟨_, _, _, _, _, _, _, _, _, _, IV_join (CI_hM hC2 ci2) (hM_MV hC2) ?_ (fun q hq => ?_) ⟨0, by omega, rfl, rfl, fun k hk => absurd hk (Nat.not_lt_zero k)⟩ ⟨rfl, h6.2⟩ ⟨⟨m7, w1', w2', w3', w4'⟩, x1', x2', x3', x4'⟩ ⟨fun q hq => ?_, mi.2.1, fun i hi q hq => ?_⟩ (II_cg ii rfl rfl (fun q _ h2 => g1 q h2)) hAr h8.2.2 h9.2.2.2.2.2.1⟩⟩
  · unfold I_len at *
    show (hM C2 _ _ P2).length ≤ _
    rw [hM_len (sc' := sc) (ar' := ar)]
    exact hl2
  · have := h4 q hq
    have ez : za ka nm jb (3 + q) = ka (3 + q) := by unfold za; rw [if_neg (by omega), if_neg (by omega)]
    show ar 3 q = ka 12 q ∧ ar 2 q = ka 11 q ∧ (ka 12 q = (-1) ∨ ∃ n, n ≤ 40 ∧ ka 12 q = nI n) ∧ (∃ l, l ≤ 2 ∧ ka 11 q = nI l) ∧ ∀ i, i < 40 → ar 4 (40 * q + i) = za ka nm jb (3 + q) i
    rw [ez]
    exact this
  · show f' (0 + q) = _
    rw [g1 _ (by omega)]
    exact mi.1 q hq
  · show f' _ = _
    have := ci.2.2.1.1
    rw [g1 _ (by omega)]
    exact mi.2.2 i hi q hq
theorem kit_O (h : IV j (hM C sc ar P) ks ka kl kr sc ar T n o A) (hj : j < 64) (hC : C.length = 38) (hT : TB ks ka b L) (hTP : TP sc ar b L) {m1 m2 m : Nat} {ps kds bys : Nat → Nat} (hS : SUC b L m1 m2 m ps kds bys) : ∃ (r : Int32) (hp1 : kw_H) (hp2 : kw_H), X11_kitchen_F (hM C sc ar P) 0 = some (r, hp1) ∧ (∃ fs, hp1[38]? = some (.inr (11, fs))) ∧ X12_kitchen_F hp1 38 = some (r, hp2) ∧ Inv (j + 1) hp2 := by
  obtain ⟨h1, h2, h3, h4, h5, h6, ⟨⟨m7, w1', w2', w3', w4'⟩, x1', x2', x3', x4'⟩, h8, h9, h10, h11, h12⟩ := id h
  have hlen := IV_len h3 (by omega)
  have h47 := hM_47 (P := P) (sc := sc) (ar := ar) hC
  obtain ⟨B, ci, mi, ii, hAr⟩ := IV_split h
  have hRe := nT_real hS
  have n1 := hS.1.2.1.1
  have n2 := hS.2.1.2.1.1
  have hm := hS.2.2.1
  obtain ⟨H1, tu, e1, z⟩ := c_rdO hT ⟨h47, by omega⟩ h1 h12 hS
  have kb1 := ZP_KB z ⟨x1', x2', x3', x4'⟩ n1 n2 hm
  obtain ⟨H2, p1, p2, p3, p4⟩ := c13_p1 z.1 (nI 0)
  have kb2 : KB H2 15 (nT b m1 m2 m kds bys) := KB_fr (X := fun q => q = 13) p4 (fun q hq => CV_NT z.1 (by omega)) (fun k hk => by omega) kb1
  obtain ⟨H3, b1, b2', b3, b4⟩ := KB_become (CV_KC p2) kb2 hRe.1.sm (by omega)
  obtain ⟨v3, nm3, jb3, tu3, tm3, k1, k2, -, -⟩ := id b2'
  have cv3 := CV_now p2 k1 b4
  obtain ⟨H4, c1, c2, c3, c4⟩ := c0_p7 cv3 (nI 0)
  obtain ⟨H5, d1, d2, d3, d4⟩ := c0_p8 c2 (nI 0)
  have ev : v3 2 = nI m := by rw [k2.1 2 (by omega), nT_2]
  have eF : X11_forgetActs_F H3 0 = some H5 := by
    unfold X11_forgetActs_F
    rw [c1, Option.bind_some, d1]
    rfl
  have eC : X11_kitchen_F (hM C sc ar P) 0 = some (nI m, H5) := by
    unfold X11_kitchen_F
    rw [c0_r1 h1, Option.bind_some, c13_ob h1, Option.bind_some, e1, Option.bind_some]
    show ((kp_gR H1 0 [10] 1).bind fun v3 => (kp_put H1 v3 [8] 1 (.int (nI 0))).bind fun hp4 => if nI 1 = 0 then _ else (kp_gR hp4 0 [10] 2).bind fun v5 => (kp_gR hp4 0 [10] 1).bind fun v6 => (kp_gR hp4 v6 [8] 2).bind fun v7 => ((kp_ob hp4 v5 2).bind fun _ => X2_become_F hp4 v5 v7).bind fun r8 => ((kp_ob r8 0 10).bind fun _ => X11_forgetActs_F r8 0).bind fun r9 => (kp_gR r9 0 [10] 2).bind fun v10 => (kp_gI r9 v10 [2] 6).bind fun v11 => some (v11, r9)) = _
    rw [c0_r1 z.1, Option.bind_some, p1, Option.bind_some, if_neg e10, c0_r2 p2, Option.bind_some, c0_r1 p2, Option.bind_some, c13_r2 p2, Option.bind_some, c20_ob p2, Option.bind_some, b1, Option.bind_some, c0_ob cv3, Option.bind_some, eF, Option.bind_some, c0_r2 d2, Option.bind_some, c20_g6 d2, Option.bind_some]
    show some (v3 2, H5) = _
    rw [ev]
  have F : ∀ q, ¬ (q = 13 ∨ (15 ≤ q ∧ q < 19) ∨ (hM C sc ar P).length ≤ q) → H2[q]? = (hM C sc ar P)[q]? := fun q hq => by rw [p4 q (by omega), z.2.2.2.1 q (by omega) (by omega)]
  have N2 : ∀ q, (q = 13 ∨ (15 ≤ q ∧ q < 19) ∨ (hM C sc ar P).length ≤ q) → NT (hM C sc ar P) q := fun q hq => by
    by_cases z : q < 38
    · exact CV_NT h1 z
    · intro ci fs e
      rw [List.getElem?_eq_none (by omega)] at e
      cases e
  have tv2 : TV H2 tu := TV_fr (X := fun q => q = 13) p4 (fun q hq => CV_NT z.1 (by omega)) z.2.1
  have ciA := CI_fr2 (X := fun q => q = 13 ∨ (15 ≤ q ∧ q < 19) ∨ (hM C sc ar P).length ≤ q) ci p2 F N2 (fun k hk => by omega) (fun i b hi hb kk hkk => by
    obtain ⟨o1, v3, n3, j3, t3, m3, o2⟩ := ci.2.2.2.2.1.1 i b hi hb
    have := KC_lt o2
    omega) rfl rfl tv2 rfl rfl
  have ciB := CI_now ciA cv3 b2' b4 rfl rfl rfl rfl rfl
  have ciC := CI_cnt (n' := 0) (o' := 0) (A' := A) ciB d2 (fun q hq => by rw [d4 q hq, c4 q hq]) (by omega) (by omega) rfl rfl (fun k hk => absurd hk (Nat.not_lt_zero k))
  have mv2 : MV H5 sc ar := fun q hq => by rw [d4 _ (by omega), c4 _ (by omega), b4 _ (by omega), F _ (by omega)]; exact h2 q hq
  have hl2 : I_len H5 kr (j + 1) := by have := z.2.2.2.2; unfold I_len at *; omega
  obtain ⟨C2, P2, hC2, rfl⟩ := MV_ex mv2
  obtain ⟨n', g2⟩ := m_rdO (C := C2) (P := P2) (f := ar 0) (a := sc 13) (w := sc 14) (n := sc 15) hC2 hTP hS
  rw [← RD_self] at g2
  have gT := fT_town (f := ar 0) (b := b) (kds := kds) (bys := bys) n1 n2 m hm
  have gO : ∀ q, q < 1782 → fT (fW (ar 0) b m1 m2) kds bys m q = ar 0 q := fun q hq => (fT_o hq m).trans (fW_o n1 n2 hq)
  obtain ⟨g, hg⟩ : ∃ g, g = fT (fW (ar 0) b m1 m2) kds bys m := ⟨_, rfl⟩
  rw [← hg] at g2 gT gO
  clear hg
  obtain ⟨f', t1, t2, t3⟩ := m_copyTown (C := C2) (P := P2) (sc := upd (sP sc (nI L) (sc 14) n') 8 (nI 0)) (ar := ar) (f := g) hC2 (a := 1782) (b := 0) (by omega) (by omega) (by omega)
  have f2 : f' 2 = nI m := by
    have := t2 2 (by omega)
    rw [gT 2 (by omega), nT_2] at this
    exact this
  have eM : X12_kitchen_F (hM C2 sc ar P2) 38 = some (nI m, hM C2 (upd (upd (upd (sP sc (nI L) (sc 14) n') 8 (nI 0)) 1 (nI 1)) 2 (nI 0)) (va_up ar 0 f') P2) := by
    unfold X12_kitchen_F
    rw [m_ob hC2, Option.bind_some, g2, Option.bind_some]
    show ((kp_put (hM C2 (sP sc (nI L) (sc 14) n') (va_up ar 0 g) P2) 38 [11] 8 (.int (nI 0))).bind fun hp2 => if nI 1 = 0 then _ else ((kp_ob hp2 38 11).bind fun _ => X12_copyTown_F hp2 38 (nI 1782) (nI 0)).bind fun r3 => (kp_put r3 38 [11] 1 (.int (nI 1))).bind fun hp4 => (kp_put hp4 38 [11] 2 (.int (nI 0))).bind fun hp5 => (kp_gR hp5 38 [11] 0).bind fun v6 => (kp_ldI hp5 v6 (nI 2)).bind fun v7 => some (v7, hp5)) = _
    rw [m_p8 hC2, Option.bind_some, if_neg e10, m_ob hC2, Option.bind_some]
    show ((X12_copyTown_F (hR C2 (upd (sP sc (nI L) (sc 14) n') 8 (nI 0)) ar P2 g) 38 (nI 1782) (nI 0)).bind fun r3 => (kp_put r3 38 [11] 1 (.int (nI 1))).bind fun hp4 => (kp_put hp4 38 [11] 2 (.int (nI 0))).bind fun hp5 => (kp_gR hp5 38 [11] 0).bind fun v6 => (kp_ldI hp5 v6 (nI 2)).bind fun v7 => some (v7, hp5)) = _
    rw [t1, Option.bind_some]
    show ((kp_put (hM C2 (upd (sP sc (nI L) (sc 14) n') 8 (nI 0)) (va_up ar 0 f') P2) 38 [11] 1 (.int (nI 1))).bind fun hp4 => (kp_put hp4 38 [11] 2 (.int (nI 0))).bind fun hp5 => (kp_gR hp5 38 [11] 0).bind fun v6 => (kp_ldI hp5 v6 (nI 2)).bind fun v7 => some (v7, hp5)) = _
    rw [m_p1 hC2, Option.bind_some, m_p2 hC2, Option.bind_some, m_r0 hC2, Option.bind_some, m_ld0 hC2 (by omega), Option.bind_some, up_at, f2]
  refine ⟨nI m, hM C2 sc ar P2, _, eC, hM_38 hC2, eM, ⟨_, _, _, _, _, _, _, _, _, _, IV_join (CI_hM hC2 ciC) (hM_MV hC2) ?_ (fun q hq => ?_) ⟨0, by omega, rfl, rfl, fun k hk => absurd hk (Nat.not_lt_zero k)⟩ ⟨h6.1, h6.2⟩ ⟨⟨m7, w1', w2', w3', w4'⟩, x1', x2', x3', x4'⟩ ⟨fun q hq => ?_, rfl, fun i hi q hq => absurd hi (Nat.not_lt_zero i)⟩ (II_cg ii rfl rfl (fun q h1 h2 => ?_)) (fun k hk => absurd hk (Nat.not_lt_zero k)) (Or.inl ⟨hRe, rfl⟩) (fun _ => rfl)⟩⟩
  · unfold I_len at *
    show (hM C2 _ _ P2).length ≤ _
    rw [hM_len (sc' := sc) (ar' := ar)]
    exact hl2
  · have := h4 q hq
    have ez : (if 3 + q = 21 then nm3 else if 3 + q = 22 then jb3 else if 3 + q = 24 then tm3 else za ka (wR (ka 16) b 0 1 m1) (wR (ka 17) b 0 (2 + m1 + 1) m2) (3 + q)) = ka (3 + q) := by
      unfold za
      rw [if_neg (by omega), if_neg (by omega), if_neg (by omega), if_neg (by omega), if_neg (by omega)]
    show ar 3 q = ka 12 q ∧ ar 2 q = ka 11 q ∧ (ka 12 q = (-1) ∨ ∃ n, n ≤ 40 ∧ ka 12 q = nI n) ∧ (∃ l, l ≤ 2 ∧ ka 11 q = nI l) ∧ ∀ i, i < 40 → ar 4 (40 * q + i) = (if 3 + q = 21 then nm3 else if 3 + q = 22 then jb3 else if 3 + q = 24 then tm3 else za ka (wR (ka 16) b 0 1 m1) (wR (ka 17) b 0 (2 + m1 + 1) m2) (3 + q)) i
    rw [ez]
    exact this
  · show f' (0 + q) = _
    rw [t2 q hq]
    exact gT q hq
  · show f' q = _
    rw [t3 q (by omega)]
    exact gO q h2
end KitE
theorem ag_kitchen : lx_ag_kitchen Inv := by
  intro j hp h hj _
  obtain ⟨ks, ka, kl, kr, sc, ar, T, n, o, A, h⟩ := h
  obtain ⟨C, P, hC, rfl⟩ := MV_ex h.2.1
  obtain ⟨L, t1, t2, t3, t4⟩ := id h.2.2.2.2.1
  obtain ⟨b, hb⟩ : ∃ b : Nat → Nat, ∀ k, k < L → ka 14 k = nI (b k) ∧ b k < 256 := by
    have key : ∀ k, ∃ c, k < L → ka 14 k = nI c ∧ c < 256 := fun k => by
      by_cases e : k < L
      · obtain ⟨-, c, g1, g2⟩ := t4 k e
        exact ⟨c, fun _ => ⟨g2, g1⟩⟩
      · exact ⟨0, fun z => absurd z e⟩
    obtain ⟨b, hb⟩ := Classical.axiomOfChoice key
    exact ⟨b, hb⟩
  have hT : TB ks ka b L := ⟨t1, t2, hb⟩
  have hTP : TP sc ar b L := ⟨t1, t3, fun k hk => ⟨(t4 k hk).1.trans (hb k hk).1, (hb k hk).2⟩⟩
  rcases text_sp b L with ⟨y, w, hF⟩ | ⟨m1, m2, m, ps, kds, bys, hS⟩
  · exact kit_F h hj hC hT hTP hF
  · exact kit_O h hj hC hT hTP hS
