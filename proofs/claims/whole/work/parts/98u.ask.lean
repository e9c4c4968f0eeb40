/-! ===== as, ask ===== -/
def tIs (kd c : Nat) : Bool := decide (c = 0 ∨ c = kd ∨ (c = 1 ∧ (kd = 2 ∨ kd = 3)) ∨ (c = 4 ∧ kd = 5))
theorem c_isOfKind {hp : kw_H} {a kd c : Nat} {fs : List Value} (h : hp[a]? = some (.inr (kcn kd, fs))) (hk : 1 ≤ kd ∧ kd ≤ 5) (hc : c ≤ 5) : X10_isOfKind_F hp a (nI c) = some (nI (b2 (tIs kd c))) := by
  unfold X10_isOfKind_F kp_inst
  rw [h]
  simp (disch := omega) only [q_eq]
  rcases (show kd = 1 ∨ kd = 2 ∨ kd = 3 ∨ kd = 4 ∨ kd = 5 by omega) with rfl | rfl | rfl | rfl | rfl <;> rcases (show c = 0 ∨ c = 1 ∨ c = 2 ∨ c = 3 ∨ c = 4 ∨ c = 5 by omega) with rfl | rfl | rfl | rfl | rfl | rfl <;> rfl
section MAs
variable {C P : kw_H} {sc : Nat → Int32} {ar : Nat → Nat → Int32} {T : Tw}
theorem m_isTurner (hC : C.length = 38) (hA : tA (ar 0) 0 T) (hT : tOk T) {k : Nat} (hk : k < T 2) : X12_isTurner_F (hM C sc ar P) 38 (nI k) = some (nI 1) := by
  have h2 := hT.2.2.1.2
  unfold X12_isTurner_F
  simp only [m_r0 hC, Option.bind_some, m_ld0 hC (show 2 < 1848 by omega), tA0 hA (show 2 < 66 by omega), l_n 0 (by decide), l_in]
  have em : nI (T 2) - nI 1 = eI ((T 2 : Int) - 1) := by rw [eI_n, eI_n, eI_sub]; rfl
  have ek : (nI k).toInt = (k : Int) := by rw [eI_n, eI_toInt (by omega) (by omega)]
  rw [em, w_int _ _ (by decide) (by omega) (by omega), ek, if_pos (by omega)]
  rfl
theorem m_isOf (hC : C.length = 38) (hA : tA (ar 0) 0 T) (hT : tOk T) {k c : Nat} (hk : k < T 2) (hc : c ≤ 5) : X12_isOf_F (hM C sc ar P) 38 (nI k) (nI c) = some (nI (b2 (tIs (T (22 + k)) c))) := by
  have h2 := hT.2.2.1.2
  have g := hT.2.2.2.2.2.2.2.2.1 k hk
  unfold X12_isOf_F X12_isOf_J34
  simp only [m_r0 hC, Option.bind_some, nI_add, m_ld0 hC (show 22 + k < 1848 by omega), tA0 hA (show 22 + k < 66 by omega)]
  generalize T (22 + k) = kd at g
  simp (disch := omega) only [q_eq, q_eq0]
  rcases (show kd = 1 ∨ kd = 2 ∨ kd = 3 ∨ kd = 4 ∨ kd = 5 by omega) with rfl | rfl | rfl | rfl | rfl <;> rcases (show c = 0 ∨ c = 1 ∨ c = 2 ∨ c = 3 ∨ c = 4 ∨ c = 5 by omega) with rfl | rfl | rfl | rfl | rfl | rfl <;> rfl
end MAs
theorem ag_as : lx_ag_as Inv := by
  intro j hp h hj a1 a2
  have hM0 := Inv_M h
  have hS := Inv_S _ _ h
  obtain ⟨ks, ka, kl, kr, sc, ar, T, n, o, A, h⟩ := h
  obtain ⟨C, P, hC, rfl⟩ := MV_ex h.2.1
  obtain ⟨⟨v, nm, jb, tu, tm, k1, k2, k3, k4⟩, hA, hT⟩ := id h.2.2.2.2.2.2.2.1
  rcases turn_sp hC k1 k2 k3 hA (hT.imp (·.1) (·.1)) a1 with ⟨k, a, rfl, hk, hR, b1, b2', b3⟩ | ⟨b1, b3⟩
  case inr =>
    refine ⟨-1000001, _, _, ?_, hM0, ?_, hS⟩
    · unfold X11_as_F
      simp only [c0_r2 h.1, kc_ob k1, Option.bind_some, b1, kp_nu]
    · unfold X12_as_F
      simp only [m_ob hC, Option.bind_some, b3, if_pos e00]
  rcases w_spN a2 (a := 0) (b := 5) (by decide) (by decide) with ⟨c, rfl, -, hc, w1⟩ | w1
  case inr =>
    refine ⟨-1000001, _, _, ?_, hM0, ?_, hS⟩
    · unfold X11_as_F
      simp only [c0_r2 h.1, kc_ob k1, Option.bind_some, b1, kp_nu, w1, if_pos e00]
    · unfold X12_as_F
      simp only [m_ob hC, Option.bind_some, b3, if_neg e10, l_n 0 (by decide), l_n 5 (by decide), l_in, w1, if_pos e00]
  have g := hR.1.2.2.2.2.2.2.2.2.1 k hk
  have ek := c_isOfKind b2' g hc
  cases ht : tIs (T (22 + k)) c with
  | true =>
    rw [ht] at ek
    obtain ⟨hp1, f1, f2, f3, f4⟩ := k_unf h.1 (nI k)
    obtain ⟨C2, P2, hC2, rfl⟩ := MV_ex (MV_f h.2.1 (fun q hq => f4 q (by omega)))
    refine ⟨nI k, hM C2 sc ar P2, hM C2 (upd sc 10 (nI 0)) ar P2, ?_, hM_38 hC2, ?_, IV_find h hC2 f2 f3 f4⟩
    · have en : kp_gI (hM C sc ar P) a [0, 3, 4, 5, 7] 0 = some (nI k) := kp_gI_of b2' kcn_in rfl
      unfold X11_as_F
      simp only [c0_r2 h.1, kc_ob k1, Option.bind_some, b1, kp_nu, w1, if_neg e10, ek, show nI (b2 true) = nI 1 from rfl, en, c0_ob h.1, f1]
    · unfold X12_as_F
      simp only [m_ob hC2, Option.bind_some, m_isTurner hC2 hA hR.1 hk, if_neg e10, l_n 0 (by decide), l_n 5 (by decide), l_in, w1, m_isOf hC2 hA hR.1 hk hc, ht, show nI (b2 true) = nI 1 from rfl, m_well hC2]
  | false =>
    rw [ht] at ek
    obtain ⟨hp1, f1, f2, f3, f4⟩ := k_fin h.1 (nI 3)
    obtain ⟨C2, P2, hC2, rfl⟩ := MV_ex (MV_f h.2.1 (fun q hq => f4 q (by omega)))
    refine ⟨(-1000010) - nI 3, hM C2 sc ar P2, hM C2 (upd sc 10 (nI 3)) ar P2, ?_, hM_38 hC2, ?_, IV_find h hC2 f2 f3 f4⟩
    · unfold X11_as_F
      simp only [c0_r2 h.1, kc_ob k1, Option.bind_some, b1, kp_nu, w1, if_neg e10, ek, show nI (b2 false) = nI 0 from rfl, if_pos e00, c0_ob h.1, f1]
    · unfold X12_as_F
      simp only [m_ob hC2, Option.bind_some, m_isTurner hC2 hA hR.1 hk, if_neg e10, l_n 0 (by decide), l_n 5 (by decide), l_in, w1, m_isOf hC2 hA hR.1 hk hc, ht, show nI (b2 false) = nI 0 from rfl, if_pos e00, m_find hC2]
/-! the trace that grows -/
def trF (f : Nat → Int32) (L : List Nat) : Nat → Int32 := fun k => match L[k]? with
  | some b => nI b
  | none => f k
theorem trF_nil (f : Nat → Int32) : trF f [] = f := by
  funext k
  rfl
theorem trF_snoc (f : Nat → Int32) (L : List Nat) (b : Nat) : upd (trF f L) L.length (nI b) = trF f (L ++ [b]) := by
  funext k
  unfold upd trF
  by_cases e : k = L.length
  · rw [if_pos e, e, List.getElem?_append_right (Nat.le_refl _), Nat.sub_self]
    rfl
  · rw [if_neg e]
    by_cases e2 : k < L.length
    · rw [List.getElem?_append_left e2]
    · rw [List.getElem?_eq_none (by omega), List.getElem?_eq_none (by simp; omega)]
def hTr (hp : kw_H) (f : Nat → Int32) (L : List Nat) : kw_H := (hp.set 34 (.inr (9, [.ref 35, .int (nI L.length)]))).set 35 (.inl (0, 16, .inl (trF f L)))
section CTr
variable {hp : kw_H} {ks ka : Nat → Nat → Int32} {kl : Nat → Nat → Int64} {kr : Nat → Nat → Option Nat} {L : List Nat}
theorem hTr_34 (h : 35 < hp.length) (f : Nat → Int32) : (hTr hp f L)[34]? = some (.inr (9, [.ref 35, .int (nI L.length)])) := by
  unfold hTr
  rw [List.getElem?_set_ne (by omega), List.getElem?_set_self (by omega)]
theorem hTr_35 (h : 35 < hp.length) (f : Nat → Int32) : (hTr hp f L)[35]? = some (.inl (0, 16, .inl (trF f L))) := by
  unfold hTr
  rw [List.getElem?_set_self (by rw [List.length_set]; exact h)]
theorem hTr_o (f : Nat → Int32) {q : Nat} (h1 : q ≠ 34) (h2 : q ≠ 35) : (hTr hp f L)[q]? = hp[q]? := by
  unfold hTr
  rw [List.getElem?_set_ne (Ne.symm h2), List.getElem?_set_ne (Ne.symm h1)]
theorem hTr_len (f : Nat → Int32) : (hTr hp f L).length = hp.length := by
  unfold hTr
  rw [List.length_set, List.length_set]
theorem c_add (h : 35 < hp.length) (f : Nat → Int32) (hL : L.length < 16) (b : Nat) : X9_add_F (hTr hp f L) 34 (nI b) = some (hTr hp f (L ++ [b])) := by
  have g1 : kp_gI (hTr hp f L) 34 [9] 1 = some (nI L.length) := by unfold kp_gI; rw [hTr_34 h]; rfl
  have r0 : kp_gR (hTr hp f L) 34 [9] 0 = some 35 := by unfold kp_gR; rw [hTr_34 h]; rfl
  have s1 := st_at (hTr_35 h f (L := L)) (by decide) hL (nI b)
  have e1 : (hTr hp f L).set 35 (.inl (0, 16, .inl (upd (trF f L) L.length (nI b)))) = (hp.set 34 (.inr (9, [.ref 35, .int (nI L.length)]))).set 35 (.inl (0, 16, .inl (trF f (L ++ [b])))) := by
    unfold hTr
    rw [List.set_set, trF_snoc]
  rw [e1] at s1
  have h34 : ((hp.set 34 (.inr (9, [.ref 35, .int (nI L.length)]))).set 35 (.inl (0, 16, .inl (trF f (L ++ [b])))))[34]? = some (.inr (9, [.ref 35, .int (nI L.length)])) := by
    rw [List.getElem?_set_ne (by omega), List.getElem?_set_self (by omega)]
  have g2 : kp_gI ((hp.set 34 (.inr (9, [.ref 35, .int (nI L.length)]))).set 35 (.inl (0, 16, .inl (trF f (L ++ [b]))))) 34 [9] 1 = some (nI L.length) := by unfold kp_gI; rw [h34]; rfl
  have p2 : kp_put ((hp.set 34 (.inr (9, [.ref 35, .int (nI L.length)]))).set 35 (.inl (0, 16, .inl (trF f (L ++ [b]))))) 34 [9] 1 (.int (nI L.length + nI 1)) = some (hTr hp f (L ++ [b])) := by
    unfold kp_put
    rw [h34]
    show some ((((hp.set 34 (.inr (9, [.ref 35, .int (nI L.length)]))).set 35 (.inl (0, 16, .inl (trF f (L ++ [b]))))).set 34 (.inr (9, [.ref 35, .int (nI L.length + nI 1)])))) = _
    unfold hTr
    rw [List.set_comm _ _ (show (35 : Nat) ≠ 34 by omega), List.set_set, nI_add, List.length_append]
    rfl
  unfold X9_add_F
  simp only [g1, Option.bind_some, q_lt0 (show L.length < 2147483648 by omega), if_false, q_le (show 16 < 2147483648 by omega) (show L.length < 2147483648 by omega), if_neg (show ¬ 16 ≤ L.length by omega), r0, s1, g2, p2]
theorem CV_tr (h : CV hp ks ka kl kr) (h35 : 35 < hp.length) : CV (hTr hp (ka 35) L) (fun q k => if q = 34 then (if k = 1 then nI L.length else ks q k) else ks q k) (fun q => if q = 35 then trF (ka 35) L else ka q) kl kr := by
  intro q hq
  rcases (show q = 0 ∨ q = 1 ∨ q = 2 ∨ q = 3 ∨ q = 4 ∨ q = 5 ∨ q = 6 ∨ q = 7 ∨ q = 8 ∨ q = 9 ∨ q = 10 ∨ q = 11 ∨ q = 12 ∨ q = 13 ∨ q = 14 ∨ q = 15 ∨ q = 16 ∨ q = 17 ∨ q = 18 ∨ q = 19 ∨ q = 20 ∨ q = 21 ∨ q = 22 ∨ q = 23 ∨ q = 24 ∨ q = 25 ∨ q = 26 ∨ q = 27 ∨ q = 28 ∨ q = 29 ∨ q = 30 ∨ q = 31 ∨ q = 32 ∨ q = 33 ∨ q = 34 ∨ q = 35 ∨ q = 36 ∨ q = 37 by omega) with rfl | rfl | rfl | rfl | rfl | rfl | rfl | rfl | rfl | rfl | rfl | rfl | rfl | rfl | rfl | rfl | rfl | rfl | rfl | rfl | rfl | rfl | rfl | rfl | rfl | rfl | rfl | rfl | rfl | rfl | rfl | rfl | rfl | rfl | rfl | rfl | rfl | rfl
  · exact (hTr_o (ka 35) (by omega) (by omega)).trans (h 0 (by omega))
  · exact (hTr_o (ka 35) (by omega) (by omega)).trans (h 1 (by omega))
  · exact (hTr_o (ka 35) (by omega) (by omega)).trans (h 2 (by omega))
  · exact (hTr_o (ka 35) (by omega) (by omega)).trans (h 3 (by omega))
  · exact (hTr_o (ka 35) (by omega) (by omega)).trans (h 4 (by omega))
  · exact (hTr_o (ka 35) (by omega) (by omega)).trans (h 5 (by omega))
  · exact (hTr_o (ka 35) (by omega) (by omega)).trans (h 6 (by omega))
  · exact (hTr_o (ka 35) (by omega) (by omega)).trans (h 7 (by omega))
  · exact (hTr_o (ka 35) (by omega) (by omega)).trans (h 8 (by omega))
  · exact (hTr_o (ka 35) (by omega) (by omega)).trans (h 9 (by omega))
  · exact (hTr_o (ka 35) (by omega) (by omega)).trans (h 10 (by omega))
  · exact (hTr_o (ka 35) (by omega) (by omega)).trans (h 11 (by omega))
  · exact (hTr_o (ka 35) (by omega) (by omega)).trans (h 12 (by omega))
  · exact (hTr_o (ka 35) (by omega) (by omega)).trans (h 13 (by omega))
  · exact (hTr_o (ka 35) (by omega) (by omega)).trans (h 14 (by omega))
  · exact (hTr_o (ka 35) (by omega) (by omega)).trans (h 15 (by omega))
  · exact (hTr_o (ka 35) (by omega) (by omega)).trans (h 16 (by omega))
  · exact (hTr_o (ka 35) (by omega) (by omega)).trans (h 17 (by omega))
  · exact (hTr_o (ka 35) (by omega) (by omega)).trans (h 18 (by omega))
  · exact (hTr_o (ka 35) (by omega) (by omega)).trans (h 19 (by omega))
  · exact (hTr_o (ka 35) (by omega) (by omega)).trans (h 20 (by omega))
  · exact (hTr_o (ka 35) (by omega) (by omega)).trans (h 21 (by omega))
  · exact (hTr_o (ka 35) (by omega) (by omega)).trans (h 22 (by omega))
  · exact (hTr_o (ka 35) (by omega) (by omega)).trans (h 23 (by omega))
  · exact (hTr_o (ka 35) (by omega) (by omega)).trans (h 24 (by omega))
  · exact (hTr_o (ka 35) (by omega) (by omega)).trans (h 25 (by omega))
  · exact (hTr_o (ka 35) (by omega) (by omega)).trans (h 26 (by omega))
  · exact (hTr_o (ka 35) (by omega) (by omega)).trans (h 27 (by omega))
  · exact (hTr_o (ka 35) (by omega) (by omega)).trans (h 28 (by omega))
  · exact (hTr_o (ka 35) (by omega) (by omega)).trans (h 29 (by omega))
  · exact (hTr_o (ka 35) (by omega) (by omega)).trans (h 30 (by omega))
  · exact (hTr_o (ka 35) (by omega) (by omega)).trans (h 31 (by omega))
  · exact (hTr_o (ka 35) (by omega) (by omega)).trans (h 32 (by omega))
  · exact (hTr_o (ka 35) (by omega) (by omega)).trans (h 33 (by omega))
  · exact hTr_34 h35 _
  · exact hTr_35 h35 _
  · exact (hTr_o (ka 35) (by omega) (by omega)).trans (h 36 (by omega))
  · exact (hTr_o (ka 35) (by omega) (by omega)).trans (h 37 (by omega))
end CTr
def aL (w kd : Nat) : List Nat := if w = 0 then (if kd = 1 then [11, 10, 21, 20] else if kd = 2 then [12, 11, 10, 24, 21, 20] else if kd = 3 then [11, 10, 22, 21, 20] else if kd = 4 then [13, 10] else [14, 13, 10]) else (if kd = 1 then [21, 20] else if kd = 2 then [24, 21, 20] else if kd = 3 then [22, 21, 20] else if kd = 4 then [23, 20, 13, 10] else [23, 20, 14, 13, 10])
def aV (w kd b k t : Nat) : Int32 := if w = 0 then (if kd = 1 then nI b + (nI k + nI t) else if kd = 2 then -(nI b + nI 2 * (nI k + nI t)) else if kd = 3 then nI b + (nI k + nI t - nI 1000) else if kd = 4 then nI b - nI 100 else nI 2 * (nI b - nI 100)) else (if kd = 1 then nI k + nI t else if kd = 2 then nI 2 * (nI k + nI t) else if kd = 3 then nI k + nI t - nI 1000 else if kd = 4 then nI k - (nI b - nI 100) else nI k - nI 2 * (nI b - nI 100))
section CAsk
variable {hp : kw_H} {f : Nat → Int32} {a b k t ci : Nat} {L : List Nat} {d : Int32}
def ASK (hp : kw_H) (f : Nat → Int32) (a b k ci : Nat) : Prop := 35 < hp.length ∧ (∀ L, kp_ci (hTr hp f L) a = some ci) ∧ (∀ L, kp_gI (hTr hp f L) a [0, 3, 4, 5, 7] 1 = some (nI b)) ∧ (∀ L, kp_gI (hTr hp f L) a [0, 3, 4, 5, 7] 0 = some (nI k)) ∧ ∀ L, kp_ob (hTr hp f L) 34 9 = some ()
theorem x10s (h : ASK hp f a b k ci) (hL : L.length + 1 ≤ 16) (x : Int32) : X10_size_F (hTr hp f L) a 34 x d = some (nI b, hTr hp f (L ++ [10])) := by
  unfold X10_size_F
  rw [h.2.2.2.2, Option.bind_some, c_add h.1 f (by omega), Option.bind_some, h.2.2.1]
  rfl
theorem x10m (h : ASK hp f a b k ci) (hL : L.length + 1 ≤ 16) (x : Int32) : X10_mark_F (hTr hp f L) a 34 x d = some (nI k, hTr hp f (L ++ [20])) := by
  unfold X10_mark_F
  rw [h.2.2.2.2, Option.bind_some, c_add h.1 f (by omega), Option.bind_some, h.2.2.2.1]
  rfl
theorem x4m (h : ASK hp f a b k ci) (hc : ci ∈ [0, 4, 7]) (hL : L.length + 2 ≤ 16) : X4_mark_F (hTr hp f L) a 34 (nI t) d = some (nI k + nI t, hTr hp f (L ++ [21] ++ [20])) := by
  unfold X4_mark_F X4_mark_S10_f
  rw [h.2.2.2.2, Option.bind_some, c_add h.1 f (by omega), Option.bind_some, h.2.1, Option.bind_some, if_pos hc, x10m h (by simp; omega)]
  rfl
theorem x7m (h : ASK hp f a b k 7) (hL : L.length + 3 ≤ 16) : X7_mark_F (hTr hp f L) a 34 (nI t) d = some (nI 2 * (nI k + nI t), hTr hp f (L ++ [24] ++ [21] ++ [20])) := by
  unfold X7_mark_F X7_mark_S11_f
  rw [h.2.2.2.2, Option.bind_some, c_add h.1 f (by omega), Option.bind_some, h.2.1, Option.bind_some, if_pos (by decide), x4m h (by decide) (by simp; omega)]
  rfl
theorem x0m (h : ASK hp f a b k 0) (hL : L.length + 3 ≤ 16) : X0_mark_F (hTr hp f L) a 34 (nI t) d = some (nI k + nI t - nI 1000, hTr hp f (L ++ [22] ++ [21] ++ [20])) := by
  unfold X0_mark_F X0_mark_S10_f
  rw [h.2.2.2.2, Option.bind_some, c_add h.1 f (by omega), Option.bind_some, h.2.1, Option.bind_some, if_pos (by decide), x4m h (by decide) (by simp; omega)]
  rfl
theorem x4s {V : Int32} {L' : List Nat} (h : ASK hp f a b k ci) (hc : ci ∈ [0, 4, 7]) (hL : L.length + 2 ≤ 16) (hm : X4_size_D29_f (hTr hp f (L ++ [11] ++ [10])) a 34 (nI t) (nI 0 + nI 1) = some (V, hTr hp f L')) : X4_size_F (hTr hp f L) a 34 (nI t) (nI 0) = some (nI b + V, hTr hp f L') := by
  unfold X4_size_F X4_size_S10_f
  rw [h.2.2.2.2, Option.bind_some, c_add h.1 f (by omega), Option.bind_some, h.2.1, Option.bind_some, if_pos hc, x10s h (by simp; omega), Option.bind_some, if_neg (by decide)]
  show ((X4_size_D29_f (hTr hp f (L ++ [11] ++ [10])) a 34 (nI t) (nI 0 + nI 1)).bind fun r3 => some (nI b + r3.1, r3.2)) = _
  rw [hm]
  rfl
theorem x3s (h : ASK hp f a b k ci) (hc : ci ∈ [3, 5]) (hL : L.length + 2 ≤ 16) (x : Int32) : X3_size_F (hTr hp f L) a 34 x d = some (nI b - nI 100, hTr hp f (L ++ [13] ++ [10])) := by
  unfold X3_size_F X3_size_S10_f
  rw [h.2.2.2.2, Option.bind_some, c_add h.1 f (by omega), Option.bind_some, h.2.1, Option.bind_some, if_pos hc, x10s h (by simp; omega)]
  rfl
theorem x5s (h : ASK hp f a b k 5) (hL : L.length + 3 ≤ 16) (x : Int32) : X5_size_F (hTr hp f L) a 34 x d = some (nI 2 * (nI b - nI 100), hTr hp f (L ++ [14] ++ [13] ++ [10])) := by
  unfold X5_size_F X5_size_S11_f
  rw [h.2.2.2.2, Option.bind_some, c_add h.1 f (by omega), Option.bind_some, h.2.1, Option.bind_some, if_pos (by decide), x3s h (by decide) (by simp; omega)]
  rfl
theorem x3m {V : Int32} {L' : List Nat} (h : ASK hp f a b k ci) (hc : ci ∈ [3, 5]) (hL : L.length + 2 ≤ 16) (hm : X3_mark_D29_f (hTr hp f (L ++ [23] ++ [20])) a 34 (nI t) (nI 0 + nI 1) = some (V, hTr hp f L')) : X3_mark_F (hTr hp f L) a 34 (nI t) (nI 0) = some (nI k - V, hTr hp f L') := by
  unfold X3_mark_F X3_mark_S10_f
  rw [h.2.2.2.2, Option.bind_some, c_add h.1 f (by omega), Option.bind_some, h.2.1, Option.bind_some, if_pos hc, x10m h (by simp; omega), Option.bind_some, if_neg (by decide)]
  show ((X3_mark_D29_f (hTr hp f (L ++ [23] ++ [20])) a 34 (nI t) (nI 0 + nI 1)).bind fun r3 => some (nI k - r3.1, r3.2)) = _
  rw [hm]
  rfl
end CAsk
theorem c_askD {hp : kw_H} (h35 : 35 < hp.length) (f : Nat → Int32) {a kd b k : Nat} (h34 : a ≠ 34) (ha35 : a ≠ 35) (ha : hp[a]? = some (.inr (kcn kd, [.int (nI k), .int (nI b)]))) (hk : 1 ≤ kd ∧ kd ≤ 5) (t : Nat) : X11_ask_D50_f (hTr hp f []) a 34 (nI t) (nI 0) = some (aV 0 kd b k t, hTr hp f (aL 0 kd)) ∧ X11_ask_D69_f (hTr hp f []) a 34 (nI t) (nI 0) = some (aV 1 kd b k t, hTr hp f (aL 1 kd)) := by
  have H : ASK hp f a b k (kcn kd) := ⟨h35, fun L => by unfold kp_ci; rw [hTr_o f h34 ha35, ha], fun L => kp_gI_of (by rw [hTr_o f h34 ha35]; exact ha) kcn_in rfl, fun L => kp_gI_of (by rw [hTr_o f h34 ha35]; exact ha) kcn_in rfl, fun L => by unfold kp_ob; rw [hTr_34 h35]; rfl⟩
  unfold X11_ask_D50_f X11_ask_D69_f
  rcases (show kd = 1 ∨ kd = 2 ∨ kd = 3 ∨ kd = 4 ∨ kd = 5 by omega) with rfl | rfl | rfl | rfl | rfl
  · have H : ASK hp f a b k 4 := H
    rw [H.2.1, Option.bind_some, Option.bind_some]
    constructor
    · show X4_size_F _ _ _ _ _ = _
      exact x4s H (by decide) (by decide) (L' := [11, 10, 21, 20]) (V := nI k + nI t) (by
        unfold X4_size_D29_f
        rw [H.2.1, Option.bind_some]
        show X4_mark_F _ _ _ _ _ = _
        exact x4m H (by decide) (by decide))
    · show X4_mark_F _ _ _ _ _ = _
      exact x4m H (by decide) (by decide)
  · have H : ASK hp f a b k 7 := H
    rw [H.2.1, Option.bind_some, Option.bind_some]
    constructor
    · show X7_size_F _ _ _ _ _ = _
      unfold X7_size_F X7_size_S10_f
      rw [H.2.2.2.2, Option.bind_some, c_add H.1 f (by decide), Option.bind_some, H.2.1, Option.bind_some, if_pos (by decide), x4s H (by decide) (by decide) (L' := [12, 11, 10, 24, 21, 20]) (V := nI 2 * (nI k + nI t)) (by
        unfold X4_size_D29_f
        rw [H.2.1, Option.bind_some]
        show X7_mark_F _ _ _ _ _ = _
        exact x7m H (by decide))]
      rfl
    · show X7_mark_F _ _ _ _ _ = _
      exact x7m H (by decide)
  · have H : ASK hp f a b k 0 := H
    rw [H.2.1, Option.bind_some, Option.bind_some]
    constructor
    · show X4_size_F _ _ _ _ _ = _
      exact x4s H (by decide) (by decide) (L' := [11, 10, 22, 21, 20]) (V := nI k + nI t - nI 1000) (by
        unfold X4_size_D29_f
        rw [H.2.1, Option.bind_some]
        show X0_mark_F _ _ _ _ _ = _
        exact x0m H (by decide))
    · show X0_mark_F _ _ _ _ _ = _
      exact x0m H (by decide)
  · have H : ASK hp f a b k 3 := H
    rw [H.2.1, Option.bind_some, Option.bind_some]
    constructor
    · show X3_size_F _ _ _ _ _ = _
      exact x3s H (by decide) (by decide) _
    · show X3_mark_F _ _ _ _ _ = _
      exact x3m H (by decide) (by decide) (L' := [23, 20, 13, 10]) (V := nI b - nI 100) (by
        unfold X3_mark_D29_f
        rw [H.2.1, Option.bind_some]
        show X3_size_F _ _ _ _ _ = _
        exact x3s H (by decide) (by decide) _)
  · have H : ASK hp f a b k 5 := H
    rw [H.2.1, Option.bind_some, Option.bind_some]
    constructor
    · show X5_size_F _ _ _ _ _ = _
      exact x5s H (by decide) _
    · show X3_mark_F _ _ _ _ _ = _
      exact x3m H (by decide) (by decide) (L' := [23, 20, 14, 13, 10]) (V := nI 2 * (nI b - nI 100)) (by
        unfold X3_mark_D29_f
        rw [H.2.1, Option.bind_some]
        show X5_size_F _ _ _ _ _ = _
        exact x5s H (by decide) _)
section MAsk
variable {C P : kw_H} {sc : Nat → Int32} {ar : Nat → Nat → Int32} {T : Tw} {L : List Nat}
def mTr (C : kw_H) (sc : Nat → Int32) (ar : Nat → Nat → Int32) (P : kw_H) (L : List Nat) : kw_H := hM C (upd sc 12 (nI L.length)) (va_up ar 6 (trF (ar 6) L)) P
theorem m_begin (hC : C.length = 38) (hL : L.length < 16) (b : Nat) : X12_begin_F (mTr C sc ar P L) 38 (nI b) = some (mTr C sc ar P (L ++ [b])) := by
  unfold X12_begin_F mTr
  rw [m_g12 hC, Option.bind_some, pk_us, if_neg (fun z => by have := (q_le (show 16 < 2147483648 by omega) (show L.length < 2147483648 by omega)).mp z; omega), m_r11 hC, Option.bind_some, Option.bind_some, m_st6 hC hL, Option.bind_some, m_g12 hC, Option.bind_some, pk_us, m_p12 hC, Option.bind_some, upd_upd, up_up, up_at, trF_snoc, nI_add, List.length_append]
  rfl
def MSK (C : kw_H) (sc : Nat → Int32) (ar : Nat → Nat → Int32) (P : kw_H) (kd b k t : Nat) : Prop := C.length = 38 ∧ (∀ L, kp_gR (mTr C sc ar P L) 38 [11] 0 = some 39) ∧ (∀ L, kp_ob (mTr C sc ar P L) 38 11 = some ()) ∧ (∀ L, kp_ldI (mTr C sc ar P L) 39 (nI 4) = some (nI t)) ∧ (∀ L, kp_ldI (mTr C sc ar P L) 39 (nI 22 + nI k) = some (nI kd)) ∧ ∀ L, kp_ldI (mTr C sc ar P L) 39 (nI 26 + nI k) = some (nI b)
variable {kd b k t : Nat}
theorem y_ls (h : MSK C sc ar P kd b k t) (hL : L.length + 1 ≤ 16) : X12_lentSize_F (mTr C sc ar P L) 38 (nI k) = some (nI b, mTr C sc ar P (L ++ [10])) := by
  unfold X12_lentSize_F
  rw [h.2.2.1, Option.bind_some, m_begin h.1 (by omega), Option.bind_some, h.2.1, Option.bind_some, h.2.2.2.2.2]
  rfl
theorem y_lm (h : MSK C sc ar P kd b k t) (hL : L.length + 1 ≤ 16) : X12_lentMark_F (mTr C sc ar P L) 38 (nI k) = some (nI k, mTr C sc ar P (L ++ [20])) := by
  unfold X12_lentMark_F
  rw [h.2.2.1, Option.bind_some, m_begin h.1 (by omega)]
  rfl
theorem y_om (h : MSK C sc ar P kd b k t) (hL : L.length + 2 ≤ 16) : X12_onesMark_F (mTr C sc ar P L) 38 (nI k) = some (nI k + nI t, mTr C sc ar P (L ++ [21] ++ [20])) := by
  unfold X12_onesMark_F
  rw [h.2.2.1, Option.bind_some, m_begin h.1 (by omega), Option.bind_some, h.2.2.1, Option.bind_some, y_lm h (by simp; omega), Option.bind_some]
  show ((kp_gR (mTr C sc ar P (L ++ [21] ++ [20])) 38 [11] 0).bind fun v3 => (kp_ldI (mTr C sc ar P (L ++ [21] ++ [20])) v3 (nI 4)).bind fun v4 => some (nI k + v4, mTr C sc ar P (L ++ [21] ++ [20]))) = _
  rw [h.2.1, Option.bind_some, h.2.2.2.1]
  rfl
theorem y_m1 (h : MSK C sc ar P 1 b k t) (hL : L.length + 2 ≤ 16) : X12_mark_F (mTr C sc ar P L) 38 (nI k) = some (nI k + nI t, mTr C sc ar P (L ++ [21] ++ [20])) := by
  unfold X12_mark_F
  rw [h.2.1, Option.bind_some, h.2.2.2.2.1, Option.bind_some, if_neg (by decide), if_neg (by decide), h.2.2.1, Option.bind_some, y_om h (by omega)]
  rfl
theorem y_m2 (h : MSK C sc ar P 2 b k t) (hL : L.length + 3 ≤ 16) : X12_mark_F (mTr C sc ar P L) 38 (nI k) = some (nI 2 * (nI k + nI t), mTr C sc ar P (L ++ [24] ++ [21] ++ [20])) := by
  unfold X12_mark_F
  rw [h.2.1, Option.bind_some, h.2.2.2.2.1, Option.bind_some, if_pos rfl, h.2.2.1, Option.bind_some, m_begin h.1 (by omega), Option.bind_some, h.2.2.1, Option.bind_some, y_om h (by simp; omega)]
  rfl
theorem y_m3 (h : MSK C sc ar P 3 b k t) (hL : L.length + 3 ≤ 16) : X12_mark_F (mTr C sc ar P L) 38 (nI k) = some (nI k + nI t - nI 1000, mTr C sc ar P (L ++ [22] ++ [21] ++ [20])) := by
  unfold X12_mark_F
  rw [h.2.1, Option.bind_some, h.2.2.2.2.1, Option.bind_some, if_neg (by decide), if_pos rfl, h.2.2.1, Option.bind_some, m_begin h.1 (by omega), Option.bind_some, h.2.2.1, Option.bind_some, y_om h (by simp; omega)]
  rfl
theorem y_os {V : Int32} {L' : List Nat} (h : MSK C sc ar P kd b k t) (hL : L.length + 2 ≤ 16) (hm : X12_mark_F (mTr C sc ar P (L ++ [11] ++ [10])) 38 (nI k) = some (V, mTr C sc ar P L')) : X12_onesSize_F (mTr C sc ar P L) 38 (nI k) = some (nI b + V, mTr C sc ar P L') := by
  unfold X12_onesSize_F
  rw [h.2.2.1, Option.bind_some, m_begin h.1 (by omega), Option.bind_some, h.2.2.1, Option.bind_some, y_ls h (by simp; omega), Option.bind_some]
  show (((kp_ob (mTr C sc ar P (L ++ [11] ++ [10])) 38 11).bind fun _ => X12_mark_F (mTr C sc ar P (L ++ [11] ++ [10])) 38 (nI k)).bind fun r3 => some (nI b + r3.1, r3.2)) = _
  rw [h.2.2.1, Option.bind_some, hm]
  rfl
theorem y_laws (h : MSK C sc ar P kd b k t) (hL : L.length + 2 ≤ 16) : X12_lawsSize_F (mTr C sc ar P L) 38 (nI k) = some (nI b - nI 100, mTr C sc ar P (L ++ [13] ++ [10])) := by
  unfold X12_lawsSize_F
  rw [h.2.2.1, Option.bind_some, m_begin h.1 (by omega), Option.bind_some, h.2.2.1, Option.bind_some, y_ls h (by simp; omega)]
  rfl
theorem y_s4 (h : MSK C sc ar P 4 b k t) (hL : L.length + 2 ≤ 16) : X12_sizeOf_F (mTr C sc ar P L) 38 (nI k) = some (nI b - nI 100, mTr C sc ar P (L ++ [13] ++ [10])) := by
  unfold X12_sizeOf_F
  rw [h.2.1, Option.bind_some, h.2.2.2.2.1, Option.bind_some, if_neg (by decide), if_neg (by decide), if_pos rfl, h.2.2.1, Option.bind_some, y_laws h (by omega)]
  rfl
theorem y_s5 (h : MSK C sc ar P 5 b k t) (hL : L.length + 3 ≤ 16) : X12_sizeOf_F (mTr C sc ar P L) 38 (nI k) = some (nI 2 * (nI b - nI 100), mTr C sc ar P (L ++ [14] ++ [13] ++ [10])) := by
  unfold X12_sizeOf_F
  rw [h.2.1, Option.bind_some, h.2.2.2.2.1, Option.bind_some, if_neg (by decide), if_neg (by decide), if_neg (by decide), if_pos rfl, h.2.2.1, Option.bind_some, m_begin h.1 (by omega), Option.bind_some, h.2.2.1, Option.bind_some, y_laws h (by simp; omega)]
  rfl
theorem y_law {V : Int32} {L' : List Nat} (h : MSK C sc ar P kd b k t) (hL : L.length + 2 ≤ 16) (hm : X12_sizeOf_F (mTr C sc ar P (L ++ [23] ++ [20])) 38 (nI k) = some (V, mTr C sc ar P L')) : X12_lawsMark_F (mTr C sc ar P L) 38 (nI k) = some (nI k - V, mTr C sc ar P L') := by
  unfold X12_lawsMark_F
  rw [h.2.2.1, Option.bind_some, m_begin h.1 (by omega), Option.bind_some, h.2.2.1, Option.bind_some, y_lm h (by simp; omega), Option.bind_some]
  show (((kp_ob (mTr C sc ar P (L ++ [23] ++ [20])) 38 11).bind fun _ => X12_sizeOf_F (mTr C sc ar P (L ++ [23] ++ [20])) 38 (nI k)).bind fun r3 => some (nI k - r3.1, r3.2)) = _
  rw [h.2.2.1, Option.bind_some, hm]
  rfl
theorem m_askD (hC : C.length = 38) (hA : tA (ar 0) 0 T) (hT : tOk T) {k : Nat} (hk : k < T 2) : X12_sizeOf_F (mTr C sc ar P []) 38 (nI k) = some (aV 0 (T (22 + k)) (T (26 + k)) k (T 4), mTr C sc ar P (aL 0 (T (22 + k)))) ∧ ((T (22 + k) < 4 → X12_mark_F (mTr C sc ar P []) 38 (nI k) = some (aV 1 (T (22 + k)) (T (26 + k)) k (T 4), mTr C sc ar P (aL 1 (T (22 + k))))) ∧ (4 ≤ T (22 + k) → X12_lawsMark_F (mTr C sc ar P []) 38 (nI k) = some (aV 1 (T (22 + k)) (T (26 + k)) k (T 4), mTr C sc ar P (aL 1 (T (22 + k)))))) := by
  have h2 := hT.2.2.1.2
  have g := hT.2.2.2.2.2.2.2.2.1 k hk
  have H : MSK C sc ar P (T (22 + k)) (T (26 + k)) k (T 4) := ⟨hC, fun L => m_r0 hC, fun L => m_ob hC, fun L => (m_ld0 hC (by omega)).trans (congrArg some (tA0 hA (by omega))), fun L => by rw [nI_add]; exact (m_ld0 hC (by omega)).trans (congrArg some (tA0 hA (by omega))), fun L => by rw [nI_add]; exact (m_ld0 hC (by omega)).trans (congrArg some (tA0 hA (by omega)))⟩
  generalize T (22 + k) = kd at *
  generalize T (26 + k) = b at *
  generalize T 4 = t at *
  rcases (show kd = 1 ∨ kd = 2 ∨ kd = 3 ∨ kd = 4 ∨ kd = 5 by omega) with rfl | rfl | rfl | rfl | rfl
  · refine ⟨?_, fun h => y_m1 H (by decide), fun h => by omega⟩
    unfold X12_sizeOf_F X12_sizeOf_J73
    rw [H.2.1, Option.bind_some, H.2.2.2.2.1, Option.bind_some, if_neg (by decide), if_neg (by decide), if_neg (by decide), if_neg (by decide), H.2.2.1, Option.bind_some, y_os H (by decide) (y_m1 H (by decide))]
    rfl
  · refine ⟨?_, fun h => y_m2 H (by decide), fun h => by omega⟩
    unfold X12_sizeOf_F
    rw [H.2.1, Option.bind_some, H.2.2.2.2.1, Option.bind_some, if_pos rfl, H.2.2.1, Option.bind_some, m_begin hC (by decide), Option.bind_some, H.2.2.1, Option.bind_some, y_os H (by decide) (y_m2 H (by decide))]
    rfl
  · refine ⟨?_, fun h => y_m3 H (by decide), fun h => by omega⟩
    unfold X12_sizeOf_F X12_sizeOf_J73
    rw [H.2.1, Option.bind_some, H.2.2.2.2.1, Option.bind_some, if_neg (by decide), if_pos rfl, H.2.2.1, Option.bind_some, y_os H (by decide) (y_m3 H (by decide))]
    rfl
  · exact ⟨y_s4 H (by decide), fun h => by omega, fun h => y_law H (by decide) (y_s4 H (by decide))⟩
  · exact ⟨y_s5 H (by decide), fun h => by omega, fun h => y_law H (by decide) (y_s5 H (by decide))⟩
end MAsk
theorem ag_ask : lx_ag_ask Inv := by
  intro j hp h hj a1 a2
  have hM0 := Inv_M h
  have hS := Inv_S _ _ h
  obtain ⟨ks, ka, kl, kr, sc, ar, T, n, o, A, h⟩ := h
  obtain ⟨C, P, hC, rfl⟩ := MV_ex h.2.1
  obtain ⟨⟨v, nm, jb, tu, tm, k1, k2, k3, k4⟩, hA, hT⟩ := id h.2.2.2.2.2.2.2.1
  rcases turn_sp hC k1 k2 k3 hA (hT.imp (·.1) (·.1)) a1 with ⟨k, a, rfl, hk, hR, b1, b2', b3⟩ | ⟨b1, b3⟩
  case inr =>
    refine ⟨-1000001, _, _, ?_, hM0, ?_, hS⟩
    · unfold X11_ask_F
      simp only [c0_r2 h.1, kc_ob k1, Option.bind_some, b1, kp_nu]
    · unfold X12_ask_F
      simp only [m_ob hC, Option.bind_some, b3, if_pos e00]
  rcases w_spN a2 (a := 0) (b := 1) (by decide) (by decide) with ⟨c, rfl, -, hc, w1⟩ | w1
  case inr =>
    refine ⟨-1000001, _, _, ?_, hM0, ?_, hS⟩
    · unfold X11_ask_F
      simp only [c0_r2 h.1, kc_ob k1, Option.bind_some, b1, kp_nu, w1, if_pos e00]
    · unfold X12_ask_F
      simp only [m_ob hC, Option.bind_some, b3, if_neg e10, l_n 0 (by decide), l_n 1 (by decide), l_in, w1, if_pos e00]
  have g := hR.1.2.2.2.2.2.2.2.2.1 k hk
  have h35 : 35 < (hM C sc ar P).length := by have := hM_47 (P := P) (sc := sc) (ar := ar) hC; omega
  have ha34 : a ≠ 34 := fun e => CV_NT h.1 (show 34 < 38 by omega) _ _ (by rw [← e]; exact b2') kcn_in
  have ha35 : a ≠ 35 := fun e => CV_NT h.1 (show 35 < 38 by omega) _ _ (by rw [← e]; exact b2') kcn_in
  have cT := fun L => CV_tr (L := L) h.1 h35
  have kT : ∀ L, KC (hTr (hM C sc ar P) (ka 35) L) 20 v nm jb tu tm := fun L => KC_fr (X := fun q => q = 34 ∨ q = 35) (fun q hq => hTr_o _ (by omega) (by omega)) (fun k hk => by omega) k1
  obtain ⟨d1, d2⟩ := c_askD h35 (ka 35) ha34 ha35 b2' g (T 4)
  have ep : kp_put (hM C sc ar P) 34 [9] 1 (.int (nI 0)) = some (hTr (hM C sc ar P) (ka 35) []) := by
    unfold kp_put hTr
    rw [cv34 h.1, trF_nil, set_same (c := .inl (0, 16, .inl (ka 35))) (by rw [List.getElem?_set_ne (by omega)]; exact cv35 h.1)]
    rfl
  obtain ⟨C2, P2, hC2, eT⟩ := MV_ex (MV_f (hp' := hTr (hM C sc ar P) (ka 35) (aL c (T (22 + k)))) h.2.1 (fun q hq => hTr_o _ (by omega) (by omega)))
  have cv2 := cT (aL c (T (22 + k)))
  rw [eT] at cv2
  obtain ⟨q1, q2, q3⟩ := m_askD (P := P2) (sc := sc) hC2 hA hR.1 hk
  have ep2 : kp_put (hM C2 sc ar P2) 38 [11] 12 (.int (nI 0)) = some (mTr C2 sc ar P2 []) := by
    rw [m_p12 hC2]
    unfold mTr
    rw [trF_nil]
    congr 2
    funext q
    unfold va_up
    split
    · rename_i e; rw [e]
    · rfl
  have hob : kp_ob (mTr C2 sc ar P2 []) 38 11 = some () := m_ob hC2
  refine ⟨aV c (T (22 + k)) (T (26 + k)) k (T 4), hM C2 sc ar P2, mTr C2 sc ar P2 (aL c (T (22 + k))), ?_, hM_38 hC2, ?_, ⟨_, _, _, _, _, _, _, _, _, _, IV_X h hC2 cv2 (by rw [← eT]; exact hTr_len _) (fun q hq => by rw [← eT]; exact hTr_o _ (by omega) (by omega)) rfl rfl h.2.2.2.2.2.2.2.2.2.2.2 rfl rfl (fun r hr => ?_) h.2.2.2.2.1 h.2.2.2.2.2.1 ⟨⟨(aL c (T (22 + k))).length, ?_, rfl, rfl, fun q hq => ?_⟩, h.2.2.2.2.2.2.1.2⟩ (fun _ _ => rfl) (fun _ _ => rfl) rfl rfl⟩⟩
  · rw [← eT]
    unfold X11_ask_F
    simp only [c0_r2 h.1, kc_ob k1, Option.bind_some, b1, kp_nu, w1, if_neg e10, c0_r4 h.1, ep, c0_r4 (cT []), c0_r2 (cT []), kc_g8 (kT []), k2.1 4 (show 4 < 6 by omega), d1, d2]
    rcases (show c = 0 ∨ c = 1 by omega) with rfl | rfl
    · rw [if_pos e00]
    · rw [if_neg e10]
  · have eo : X12_isOf_F (mTr C2 sc ar P2 []) 38 (nI k) (nI 4) = some (nI (b2 (tIs (T (22 + k)) 4))) := m_isOf (ar := va_up ar 6 (trF (ar 6) [])) hC2 hA hR.1 hk (by omega)
    unfold X12_ask_F
    simp only [m_ob hC2, Option.bind_some, m_isTurner hC2 hA hR.1 hk, if_neg e10, l_n 0 (by decide), l_n 1 (by decide), l_in, w1, ep2, hob, q1, eo]
    rcases (show c = 0 ∨ c = 1 by omega) with rfl | rfl
    · rw [if_pos e00]
    · rw [if_neg e10]
      by_cases e4 : 4 ≤ T (22 + k)
      · have : tIs (T (22 + k)) 4 = true := decide_eq_true (by omega)
        rw [this, if_neg (show ¬ nI (b2 true) = 0 from e10), q3 e4]
        rfl
      · have : tIs (T (22 + k)) 4 = false := decide_eq_false (by omega)
        rw [this, if_pos (show nI (b2 false) = 0 from e00), q2 (by omega)]
        rfl
  · have := h.2.2.2.1 r hr
    show ar 3 r = ka 12 r ∧ ar 2 r = ka 11 r ∧ (ka 12 r = (-1) ∨ ∃ n, n ≤ 40 ∧ ka 12 r = nI n) ∧ (∃ l, l ≤ 2 ∧ ka 11 r = nI l) ∧ ∀ i, i < 40 → ar 4 (40 * r + i) = (if 3 + r = 35 then trF (ka 35) (aL c (T (22 + k))) else ka (3 + r)) i
    rw [if_neg (by omega)]
    exact this
  · unfold aL
    repeat' split
    all_goals decide
  · show trF (ar 6) _ q = trF (ka 35) _ q
    unfold trF
    rw [List.getElem?_eq_getElem hq]
