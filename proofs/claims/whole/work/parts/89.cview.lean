/-! ===== the class's 38 cells behind its constructor: ks numbers, ka arrays of ints, kl of longs, kr of references, by cell ===== -/
def ccells (ks : Nat → Nat → Int32) (ka : Nat → Nat → Int32) (kl : Nat → Nat → Int64) (kr : Nat → Nat → Option Nat) : kw_H := [.inr (10, [.ref 1, .ref 13, .ref 20, .ref 25, .ref 34, .ref 36, .ref 37, .int (ks 0 7), .int (ks 0 8), .int (ks 0 9), .int (ks 0 10)]),
  .inr (6, [.ref 2, .ref 11, .ref 12]),
  .inl (5, 8, .inr (.inr (.inr (.inr (fun i => if i < 8 then some (2 + 1 + i) else none))))),
  .inl (0, 40, .inl (ka 3)),
  .inl (0, 40, .inl (ka 4)),
  .inl (0, 40, .inl (ka 5)),
  .inl (0, 40, .inl (ka 6)),
  .inl (0, 40, .inl (ka 7)),
  .inl (0, 40, .inl (ka 8)),
  .inl (0, 40, .inl (ka 9)),
  .inl (0, 40, .inl (ka 10)),
  .inl (0, 8, .inl (ka 11)),
  .inl (0, 8, .inl (ka 12)),
  .inr (8, [.ref 14, .int (ks 13 1), .ref 15, .int (ks 13 3), .int (ks 13 4)]),
  .inl (0, 80, .inl (ka 14)),
  .inr (2, [.ref 16, .ref 17, .ref 18, .ref 19, .int (ks 15 4), .int (ks 15 5), .int (ks 15 6), .int (ks 15 7), .int (ks 15 8), .int (ks 15 9)]),
  .inl (0, 8, .inl (ka 16)),
  .inl (0, 8, .inl (ka 17)),
  .inl (3, 4, .inr (.inr (.inr (.inr (kr 18))))),
  .inl (0, 36, .inl (ka 19)),
  .inr (2, [.ref 21, .ref 22, .ref 23, .ref 24, .int (ks 20 4), .int (ks 20 5), .int (ks 20 6), .int (ks 20 7), .int (ks 20 8), .int (ks 20 9)]),
  .inl (0, 8, .inl (ka 21)),
  .inl (0, 8, .inl (ka 22)),
  .inl (3, 4, .inr (.inr (.inr (.inr (kr 23))))),
  .inl (0, 36, .inl (ka 24)),
  .inr (1, [.ref 26, .ref 31, .ref 32, .ref 33]),
  .inr (2, [.ref 27, .ref 28, .ref 29, .ref 30, .int (ks 26 4), .int (ks 26 5), .int (ks 26 6), .int (ks 26 7), .int (ks 26 8), .int (ks 26 9)]),
  .inl (0, 8, .inl (ka 27)),
  .inl (0, 8, .inl (ka 28)),
  .inl (3, 4, .inr (.inr (.inr (.inr (kr 29))))),
  .inl (0, 36, .inl (ka 30)),
  .inl (0, 6, .inl (ka 31)),
  .inl (1, 8, .inr (.inl (kl 32))),
  .inl (1, 8, .inr (.inl (kl 33))),
  .inr (9, [.ref 35, .int (ks 34 1)]),
  .inl (0, 16, .inl (ka 35)),
  .inl (4, 24, .inr (.inr (.inr (.inr (kr 36))))),
  .inl (4, 2, .inr (.inr (.inr (.inr (kr 37)))))]
def CV (hp : kw_H) (ks : Nat → Nat → Int32) (ka : Nat → Nat → Int32) (kl : Nat → Nat → Int64) (kr : Nat → Nat → Option Nat) : Prop := ∀ q, q < 38 → hp[q]? = (ccells ks ka kl kr)[q]?
def MV (hp : kw_H) (sc : Nat → Int32) (ar : Nat → Nat → Int32) : Prop := ∀ q, q < 9 → hp[38 + q]? = (mcells sc ar)[q]?
def up2 {α : Type} (f : Nat → Nat → α) (q k : Nat) (x : α) : Nat → Nat → α := fun a b => if a = q ∧ b = k then x else f a b
theorem MV_form {hp : kw_H} {sc : Nat → Int32} {ar : Nat → Nat → Int32} (h : MV hp sc ar) : hp = hM (hp.take 38) sc ar (hp.drop 47) ∧ (hp.take 38).length = 38 := by
  have hl : 47 ≤ hp.length := by
    have h8 := h 8 (by decide)
    have h8 : hp[46]? = some _ := h8
    have := (List.getElem?_eq_some_iff.mp h8).1
    omega
  have hlt : (hp.take 38).length = 38 := by rw [List.length_take]; omega
  refine ⟨List.ext_getElem? fun q => ?_, hlt⟩
  unfold hM
  by_cases h1 : q < 38
  · rw [List.getElem?_append_left (by omega), List.getElem?_take_of_lt h1]
  · rw [List.getElem?_append_right (by omega), hlt]
    by_cases h2 : q < 47
    · rw [List.getElem?_append_left (by simp [mcells]; omega)]
      have := h (q - 38) (by omega)
      rw [show 38 + (q - 38) = q by omega] at this
      exact this
    · rw [List.getElem?_append_right (by simp [mcells]; omega), List.getElem?_drop]
      congr 1
      simp [mcells]
      omega
theorem hM_MV {C P : kw_H} {sc : Nat → Int32} {ar : Nat → Nat → Int32} (hC : C.length = 38) : MV (hM C sc ar P) sc ar := fun q hq => hM_get hC q hq
theorem hM_off {C P : kw_H} {sc sc' : Nat → Int32} {ar ar' : Nat → Nat → Int32} (hC : C.length = 38) {q : Nat} (hq : q < 38 ∨ 47 ≤ q) : (hM C sc ar P)[q]? = (hM C sc' ar' P)[q]? := by
  unfold hM
  rcases hq with h | h
  · rw [List.getElem?_append_left (by omega), List.getElem?_append_left (by omega)]
  · have key : ∀ (sc : Nat → Int32) (ar : Nat → Nat → Int32), (C ++ (mcells sc ar ++ P))[q]? = P[q - 38 - 9]? := fun sc ar => by
      rw [List.getElem?_append_right (by omega), hC, List.getElem?_append_right (by simp [mcells]; omega)]
      rfl
    rw [key, key]
theorem st_at {hp : kw_H} {a n : Nat} {f : Nat → Int32} (h : hp[a]? = some (.inl (0, n, .inl f))) (hn : n ≤ 2147483648) {j : Nat} (hj : j < n) (x : Int32) : kp_stI hp a (nI j) x = some (hp.set a (.inl (0, n, .inl (upd f j x)))) := by
  unfold kp_stI
  rw [h]
  show (if nI j < 0 ∨ n ≤ (nI j).toNatClampNeg then none else some (hp.set a (.inl (0, n, .inl (upd f (nI j).toNatClampNeg x))))) = _
  rw [q_cl (by omega), if_neg (q_in hj hn)]
theorem CV_other {ks : Nat → Nat → Int32} {ka : Nat → Nat → Int32} {kl : Nat → Nat → Int64} {kr : Nat → Nat → Option Nat} {q k r : Nat} {x : Int32} (hr : r < 38) (h : r ≠ q) : (ccells ks ka kl kr)[r]? = (ccells (up2 ks q k x) ka kl kr)[r]? := by
  have e : ∀ k', up2 ks q k x r k' = ks r k' := fun k' => if_neg (fun z => h z.1)
  match r, hr, e with
  | 0, _, e => exact congrArg some (by simp only [e])
  | 1, _, e => rfl
  | 2, _, e => rfl
  | 3, _, e => rfl
  | 4, _, e => rfl
  | 5, _, e => rfl
  | 6, _, e => rfl
  | 7, _, e => rfl
  | 8, _, e => rfl
  | 9, _, e => rfl
  | 10, _, e => rfl
  | 11, _, e => rfl
  | 12, _, e => rfl
  | 13, _, e => exact congrArg some (by simp only [e])
  | 14, _, e => rfl
  | 15, _, e => exact congrArg some (by simp only [e])
  | 16, _, e => rfl
  | 17, _, e => rfl
  | 18, _, e => rfl
  | 19, _, e => rfl
  | 20, _, e => exact congrArg some (by simp only [e])
  | 21, _, e => rfl
  | 22, _, e => rfl
  | 23, _, e => rfl
  | 24, _, e => rfl
  | 25, _, e => rfl
  | 26, _, e => exact congrArg some (by simp only [e])
  | 27, _, e => rfl
  | 28, _, e => rfl
  | 29, _, e => rfl
  | 30, _, e => rfl
  | 31, _, e => rfl
  | 32, _, e => rfl
  | 33, _, e => rfl
  | 34, _, e => exact congrArg some (by simp only [e])
  | 35, _, e => rfl
  | 36, _, e => rfl
  | 37, _, e => rfl
  | r + 38, hr, _ => omega
theorem CV_otherA {ks : Nat → Nat → Int32} {ka : Nat → Nat → Int32} {kl : Nat → Nat → Int64} {kr : Nat → Nat → Option Nat} {q r : Nat} {f : Nat → Int32} (hr : r < 38) (h : r ≠ q) : (ccells ks ka kl kr)[r]? = (ccells ks (va_up ka q f) kl kr)[r]? := by
  have e : va_up ka q f r = ka r := if_neg h
  match r, hr, e with
  | 0, _, e => rfl
  | 1, _, e => rfl
  | 2, _, e => rfl
  | 3, _, e => exact congrArg some (by rw [e])
  | 4, _, e => exact congrArg some (by rw [e])
  | 5, _, e => exact congrArg some (by rw [e])
  | 6, _, e => exact congrArg some (by rw [e])
  | 7, _, e => exact congrArg some (by rw [e])
  | 8, _, e => exact congrArg some (by rw [e])
  | 9, _, e => exact congrArg some (by rw [e])
  | 10, _, e => exact congrArg some (by rw [e])
  | 11, _, e => exact congrArg some (by rw [e])
  | 12, _, e => exact congrArg some (by rw [e])
  | 13, _, e => rfl
  | 14, _, e => exact congrArg some (by rw [e])
  | 15, _, e => rfl
  | 16, _, e => exact congrArg some (by rw [e])
  | 17, _, e => exact congrArg some (by rw [e])
  | 18, _, e => rfl
  | 19, _, e => exact congrArg some (by rw [e])
  | 20, _, e => rfl
  | 21, _, e => exact congrArg some (by rw [e])
  | 22, _, e => exact congrArg some (by rw [e])
  | 23, _, e => rfl
  | 24, _, e => exact congrArg some (by rw [e])
  | 25, _, e => rfl
  | 26, _, e => rfl
  | 27, _, e => exact congrArg some (by rw [e])
  | 28, _, e => exact congrArg some (by rw [e])
  | 29, _, e => rfl
  | 30, _, e => exact congrArg some (by rw [e])
  | 31, _, e => exact congrArg some (by rw [e])
  | 32, _, e => rfl
  | 33, _, e => rfl
  | 34, _, e => rfl
  | 35, _, e => exact congrArg some (by rw [e])
  | 36, _, e => rfl
  | 37, _, e => rfl
  | r + 38, hr, _ => omega
section CView
variable {hp : kw_H} {ks : Nat → Nat → Int32} {ka : Nat → Nat → Int32} {kl : Nat → Nat → Int64} {kr : Nat → Nat → Option Nat}
theorem cv0 (h : CV hp ks ka kl kr) : hp[0]? = some (.inr (10, [.ref 1, .ref 13, .ref 20, .ref 25, .ref 34, .ref 36, .ref 37, .int (ks 0 7), .int (ks 0 8), .int (ks 0 9), .int (ks 0 10)])) := h 0 (by decide)
theorem cv1 (h : CV hp ks ka kl kr) : hp[1]? = some (.inr (6, [.ref 2, .ref 11, .ref 12])) := h 1 (by decide)
theorem cv2 (h : CV hp ks ka kl kr) : hp[2]? = some (.inl (5, 8, .inr (.inr (.inr (.inr (fun i => if i < 8 then some (2 + 1 + i) else none)))))) := h 2 (by decide)
theorem cv3 (h : CV hp ks ka kl kr) : hp[3]? = some (.inl (0, 40, .inl (ka 3))) := h 3 (by decide)
theorem cv4 (h : CV hp ks ka kl kr) : hp[4]? = some (.inl (0, 40, .inl (ka 4))) := h 4 (by decide)
theorem cv5 (h : CV hp ks ka kl kr) : hp[5]? = some (.inl (0, 40, .inl (ka 5))) := h 5 (by decide)
theorem cv6 (h : CV hp ks ka kl kr) : hp[6]? = some (.inl (0, 40, .inl (ka 6))) := h 6 (by decide)
theorem cv7 (h : CV hp ks ka kl kr) : hp[7]? = some (.inl (0, 40, .inl (ka 7))) := h 7 (by decide)
theorem cv8 (h : CV hp ks ka kl kr) : hp[8]? = some (.inl (0, 40, .inl (ka 8))) := h 8 (by decide)
theorem cv9 (h : CV hp ks ka kl kr) : hp[9]? = some (.inl (0, 40, .inl (ka 9))) := h 9 (by decide)
theorem cv10 (h : CV hp ks ka kl kr) : hp[10]? = some (.inl (0, 40, .inl (ka 10))) := h 10 (by decide)
theorem cv11 (h : CV hp ks ka kl kr) : hp[11]? = some (.inl (0, 8, .inl (ka 11))) := h 11 (by decide)
theorem cv12 (h : CV hp ks ka kl kr) : hp[12]? = some (.inl (0, 8, .inl (ka 12))) := h 12 (by decide)
theorem cv13 (h : CV hp ks ka kl kr) : hp[13]? = some (.inr (8, [.ref 14, .int (ks 13 1), .ref 15, .int (ks 13 3), .int (ks 13 4)])) := h 13 (by decide)
theorem cv14 (h : CV hp ks ka kl kr) : hp[14]? = some (.inl (0, 80, .inl (ka 14))) := h 14 (by decide)
theorem cv15 (h : CV hp ks ka kl kr) : hp[15]? = some (.inr (2, [.ref 16, .ref 17, .ref 18, .ref 19, .int (ks 15 4), .int (ks 15 5), .int (ks 15 6), .int (ks 15 7), .int (ks 15 8), .int (ks 15 9)])) := h 15 (by decide)
theorem cv16 (h : CV hp ks ka kl kr) : hp[16]? = some (.inl (0, 8, .inl (ka 16))) := h 16 (by decide)
theorem cv17 (h : CV hp ks ka kl kr) : hp[17]? = some (.inl (0, 8, .inl (ka 17))) := h 17 (by decide)
theorem cv18 (h : CV hp ks ka kl kr) : hp[18]? = some (.inl (3, 4, .inr (.inr (.inr (.inr (kr 18)))))) := h 18 (by decide)
theorem cv19 (h : CV hp ks ka kl kr) : hp[19]? = some (.inl (0, 36, .inl (ka 19))) := h 19 (by decide)
theorem cv20 (h : CV hp ks ka kl kr) : hp[20]? = some (.inr (2, [.ref 21, .ref 22, .ref 23, .ref 24, .int (ks 20 4), .int (ks 20 5), .int (ks 20 6), .int (ks 20 7), .int (ks 20 8), .int (ks 20 9)])) := h 20 (by decide)
theorem cv21 (h : CV hp ks ka kl kr) : hp[21]? = some (.inl (0, 8, .inl (ka 21))) := h 21 (by decide)
theorem cv22 (h : CV hp ks ka kl kr) : hp[22]? = some (.inl (0, 8, .inl (ka 22))) := h 22 (by decide)
theorem cv23 (h : CV hp ks ka kl kr) : hp[23]? = some (.inl (3, 4, .inr (.inr (.inr (.inr (kr 23)))))) := h 23 (by decide)
theorem cv24 (h : CV hp ks ka kl kr) : hp[24]? = some (.inl (0, 36, .inl (ka 24))) := h 24 (by decide)
theorem cv25 (h : CV hp ks ka kl kr) : hp[25]? = some (.inr (1, [.ref 26, .ref 31, .ref 32, .ref 33])) := h 25 (by decide)
theorem cv26 (h : CV hp ks ka kl kr) : hp[26]? = some (.inr (2, [.ref 27, .ref 28, .ref 29, .ref 30, .int (ks 26 4), .int (ks 26 5), .int (ks 26 6), .int (ks 26 7), .int (ks 26 8), .int (ks 26 9)])) := h 26 (by decide)
theorem cv27 (h : CV hp ks ka kl kr) : hp[27]? = some (.inl (0, 8, .inl (ka 27))) := h 27 (by decide)
theorem cv28 (h : CV hp ks ka kl kr) : hp[28]? = some (.inl (0, 8, .inl (ka 28))) := h 28 (by decide)
theorem cv29 (h : CV hp ks ka kl kr) : hp[29]? = some (.inl (3, 4, .inr (.inr (.inr (.inr (kr 29)))))) := h 29 (by decide)
theorem cv30 (h : CV hp ks ka kl kr) : hp[30]? = some (.inl (0, 36, .inl (ka 30))) := h 30 (by decide)
theorem cv31 (h : CV hp ks ka kl kr) : hp[31]? = some (.inl (0, 6, .inl (ka 31))) := h 31 (by decide)
theorem cv32 (h : CV hp ks ka kl kr) : hp[32]? = some (.inl (1, 8, .inr (.inl (kl 32)))) := h 32 (by decide)
theorem cv33 (h : CV hp ks ka kl kr) : hp[33]? = some (.inl (1, 8, .inr (.inl (kl 33)))) := h 33 (by decide)
theorem cv34 (h : CV hp ks ka kl kr) : hp[34]? = some (.inr (9, [.ref 35, .int (ks 34 1)])) := h 34 (by decide)
theorem cv35 (h : CV hp ks ka kl kr) : hp[35]? = some (.inl (0, 16, .inl (ka 35))) := h 35 (by decide)
theorem cv36 (h : CV hp ks ka kl kr) : hp[36]? = some (.inl (4, 24, .inr (.inr (.inr (.inr (kr 36)))))) := h 36 (by decide)
theorem cv37 (h : CV hp ks ka kl kr) : hp[37]? = some (.inl (4, 2, .inr (.inr (.inr (.inr (kr 37)))))) := h 37 (by decide)
theorem c0_ob (h : CV hp ks ka kl kr) : kp_ob hp 0 10 = some () := by
  unfold kp_ob; rw [cv0 h]; rfl
theorem c0_r0 (h : CV hp ks ka kl kr) : kp_gR hp 0 [10] 0 = some 1 := by
  unfold kp_gR; rw [cv0 h]; rfl
theorem c0_r1 (h : CV hp ks ka kl kr) : kp_gR hp 0 [10] 1 = some 13 := by
  unfold kp_gR; rw [cv0 h]; rfl
theorem c0_r2 (h : CV hp ks ka kl kr) : kp_gR hp 0 [10] 2 = some 20 := by
  unfold kp_gR; rw [cv0 h]; rfl
theorem c0_r3 (h : CV hp ks ka kl kr) : kp_gR hp 0 [10] 3 = some 25 := by
  unfold kp_gR; rw [cv0 h]; rfl
theorem c0_r4 (h : CV hp ks ka kl kr) : kp_gR hp 0 [10] 4 = some 34 := by
  unfold kp_gR; rw [cv0 h]; rfl
theorem c0_r5 (h : CV hp ks ka kl kr) : kp_gR hp 0 [10] 5 = some 36 := by
  unfold kp_gR; rw [cv0 h]; rfl
theorem c0_r6 (h : CV hp ks ka kl kr) : kp_gR hp 0 [10] 6 = some 37 := by
  unfold kp_gR; rw [cv0 h]; rfl
theorem c0_g7 (h : CV hp ks ka kl kr) : kp_gI hp 0 [10] 7 = some (ks 0 7) := by
  unfold kp_gI; rw [cv0 h]; rfl
theorem c0_p7 (h : CV hp ks ka kl kr) (x : Int32) : ∃ hp2, kp_put hp 0 [10] 7 (.int x) = some hp2 ∧ CV hp2 (up2 ks 0 7 x) ka kl kr ∧ hp2.length = hp.length ∧ ∀ r, r ≠ 0 → hp2[r]? = hp[r]? := by
  have h0 := cv0 h
  have hl := (List.getElem?_eq_some_iff.mp h0).1
  refine ⟨hp.set 0 (.inr (10, [.ref 1, .ref 13, .ref 20, .ref 25, .ref 34, .ref 36, .ref 37, .int (up2 ks 0 7 x 0 7), .int (up2 ks 0 7 x 0 8), .int (up2 ks 0 7 x 0 9), .int (up2 ks 0 7 x 0 10)])), ?_, fun r hr => ?_, by simp, fun r hr => by rw [List.getElem?_set_ne (Ne.symm hr)]⟩
  · unfold kp_put; rw [h0]; rfl
  · by_cases e : r = 0
    · subst e; rw [List.getElem?_set_self hl]; rfl
    · rw [List.getElem?_set_ne (Ne.symm e), h r hr]
      exact CV_other (by omega) e
theorem c0_g8 (h : CV hp ks ka kl kr) : kp_gI hp 0 [10] 8 = some (ks 0 8) := by
  unfold kp_gI; rw [cv0 h]; rfl
theorem c0_p8 (h : CV hp ks ka kl kr) (x : Int32) : ∃ hp2, kp_put hp 0 [10] 8 (.int x) = some hp2 ∧ CV hp2 (up2 ks 0 8 x) ka kl kr ∧ hp2.length = hp.length ∧ ∀ r, r ≠ 0 → hp2[r]? = hp[r]? := by
  have h0 := cv0 h
  have hl := (List.getElem?_eq_some_iff.mp h0).1
  refine ⟨hp.set 0 (.inr (10, [.ref 1, .ref 13, .ref 20, .ref 25, .ref 34, .ref 36, .ref 37, .int (up2 ks 0 8 x 0 7), .int (up2 ks 0 8 x 0 8), .int (up2 ks 0 8 x 0 9), .int (up2 ks 0 8 x 0 10)])), ?_, fun r hr => ?_, by simp, fun r hr => by rw [List.getElem?_set_ne (Ne.symm hr)]⟩
  · unfold kp_put; rw [h0]; rfl
  · by_cases e : r = 0
    · subst e; rw [List.getElem?_set_self hl]; rfl
    · rw [List.getElem?_set_ne (Ne.symm e), h r hr]
      exact CV_other (by omega) e
theorem c0_g9 (h : CV hp ks ka kl kr) : kp_gI hp 0 [10] 9 = some (ks 0 9) := by
  unfold kp_gI; rw [cv0 h]; rfl
theorem c0_p9 (h : CV hp ks ka kl kr) (x : Int32) : ∃ hp2, kp_put hp 0 [10] 9 (.int x) = some hp2 ∧ CV hp2 (up2 ks 0 9 x) ka kl kr ∧ hp2.length = hp.length ∧ ∀ r, r ≠ 0 → hp2[r]? = hp[r]? := by
  have h0 := cv0 h
  have hl := (List.getElem?_eq_some_iff.mp h0).1
  refine ⟨hp.set 0 (.inr (10, [.ref 1, .ref 13, .ref 20, .ref 25, .ref 34, .ref 36, .ref 37, .int (up2 ks 0 9 x 0 7), .int (up2 ks 0 9 x 0 8), .int (up2 ks 0 9 x 0 9), .int (up2 ks 0 9 x 0 10)])), ?_, fun r hr => ?_, by simp, fun r hr => by rw [List.getElem?_set_ne (Ne.symm hr)]⟩
  · unfold kp_put; rw [h0]; rfl
  · by_cases e : r = 0
    · subst e; rw [List.getElem?_set_self hl]; rfl
    · rw [List.getElem?_set_ne (Ne.symm e), h r hr]
      exact CV_other (by omega) e
theorem c0_g10 (h : CV hp ks ka kl kr) : kp_gI hp 0 [10] 10 = some (ks 0 10) := by
  unfold kp_gI; rw [cv0 h]; rfl
theorem c0_p10 (h : CV hp ks ka kl kr) (x : Int32) : ∃ hp2, kp_put hp 0 [10] 10 (.int x) = some hp2 ∧ CV hp2 (up2 ks 0 10 x) ka kl kr ∧ hp2.length = hp.length ∧ ∀ r, r ≠ 0 → hp2[r]? = hp[r]? := by
  have h0 := cv0 h
  have hl := (List.getElem?_eq_some_iff.mp h0).1
  refine ⟨hp.set 0 (.inr (10, [.ref 1, .ref 13, .ref 20, .ref 25, .ref 34, .ref 36, .ref 37, .int (up2 ks 0 10 x 0 7), .int (up2 ks 0 10 x 0 8), .int (up2 ks 0 10 x 0 9), .int (up2 ks 0 10 x 0 10)])), ?_, fun r hr => ?_, by simp, fun r hr => by rw [List.getElem?_set_ne (Ne.symm hr)]⟩
  · unfold kp_put; rw [h0]; rfl
  · by_cases e : r = 0
    · subst e; rw [List.getElem?_set_self hl]; rfl
    · rw [List.getElem?_set_ne (Ne.symm e), h r hr]
      exact CV_other (by omega) e
theorem c1_ob (h : CV hp ks ka kl kr) : kp_ob hp 1 6 = some () := by
  unfold kp_ob; rw [cv1 h]; rfl
theorem c1_r0 (h : CV hp ks ka kl kr) : kp_gR hp 1 [6] 0 = some 2 := by
  unfold kp_gR; rw [cv1 h]; rfl
theorem c1_r1 (h : CV hp ks ka kl kr) : kp_gR hp 1 [6] 1 = some 11 := by
  unfold kp_gR; rw [cv1 h]; rfl
theorem c1_r2 (h : CV hp ks ka kl kr) : kp_gR hp 1 [6] 2 = some 12 := by
  unfold kp_gR; rw [cv1 h]; rfl
theorem c3_ld (h : CV hp ks ka kl kr) {j : Nat} (hj : j < 40) : kp_ldI hp 3 (nI j) = some (ka 3 j) := ld_at (cv3 h) (by decide) hj
theorem c3_st (h : CV hp ks ka kl kr) {j : Nat} (hj : j < 40) (x : Int32) : ∃ hp2, kp_stI hp 3 (nI j) x = some hp2 ∧ CV hp2 ks (va_up ka 3 (upd (ka 3) j x)) kl kr ∧ hp2.length = hp.length ∧ ∀ r, r ≠ 3 → hp2[r]? = hp[r]? := by
  have h0 := cv3 h
  have hl := (List.getElem?_eq_some_iff.mp h0).1
  refine ⟨hp.set 3 (.inl (0, 40, .inl (upd (ka 3) j x))), st_at h0 (by decide) hj x, fun r hr => ?_, by simp, fun r hr => by rw [List.getElem?_set_ne (Ne.symm hr)]⟩
  by_cases e : r = 3
  · subst e; rw [List.getElem?_set_self hl]; rfl
  · rw [List.getElem?_set_ne (Ne.symm e), h r hr]
    exact CV_otherA (by omega) e
theorem c4_ld (h : CV hp ks ka kl kr) {j : Nat} (hj : j < 40) : kp_ldI hp 4 (nI j) = some (ka 4 j) := ld_at (cv4 h) (by decide) hj
theorem c4_st (h : CV hp ks ka kl kr) {j : Nat} (hj : j < 40) (x : Int32) : ∃ hp2, kp_stI hp 4 (nI j) x = some hp2 ∧ CV hp2 ks (va_up ka 4 (upd (ka 4) j x)) kl kr ∧ hp2.length = hp.length ∧ ∀ r, r ≠ 4 → hp2[r]? = hp[r]? := by
  have h0 := cv4 h
  have hl := (List.getElem?_eq_some_iff.mp h0).1
  refine ⟨hp.set 4 (.inl (0, 40, .inl (upd (ka 4) j x))), st_at h0 (by decide) hj x, fun r hr => ?_, by simp, fun r hr => by rw [List.getElem?_set_ne (Ne.symm hr)]⟩
  by_cases e : r = 4
  · subst e; rw [List.getElem?_set_self hl]; rfl
  · rw [List.getElem?_set_ne (Ne.symm e), h r hr]
    exact CV_otherA (by omega) e
theorem c5_ld (h : CV hp ks ka kl kr) {j : Nat} (hj : j < 40) : kp_ldI hp 5 (nI j) = some (ka 5 j) := ld_at (cv5 h) (by decide) hj
theorem c5_st (h : CV hp ks ka kl kr) {j : Nat} (hj : j < 40) (x : Int32) : ∃ hp2, kp_stI hp 5 (nI j) x = some hp2 ∧ CV hp2 ks (va_up ka 5 (upd (ka 5) j x)) kl kr ∧ hp2.length = hp.length ∧ ∀ r, r ≠ 5 → hp2[r]? = hp[r]? := by
  have h0 := cv5 h
  have hl := (List.getElem?_eq_some_iff.mp h0).1
  refine ⟨hp.set 5 (.inl (0, 40, .inl (upd (ka 5) j x))), st_at h0 (by decide) hj x, fun r hr => ?_, by simp, fun r hr => by rw [List.getElem?_set_ne (Ne.symm hr)]⟩
  by_cases e : r = 5
  · subst e; rw [List.getElem?_set_self hl]; rfl
  · rw [List.getElem?_set_ne (Ne.symm e), h r hr]
    exact CV_otherA (by omega) e
theorem c6_ld (h : CV hp ks ka kl kr) {j : Nat} (hj : j < 40) : kp_ldI hp 6 (nI j) = some (ka 6 j) := ld_at (cv6 h) (by decide) hj
theorem c6_st (h : CV hp ks ka kl kr) {j : Nat} (hj : j < 40) (x : Int32) : ∃ hp2, kp_stI hp 6 (nI j) x = some hp2 ∧ CV hp2 ks (va_up ka 6 (upd (ka 6) j x)) kl kr ∧ hp2.length = hp.length ∧ ∀ r, r ≠ 6 → hp2[r]? = hp[r]? := by
  have h0 := cv6 h
  have hl := (List.getElem?_eq_some_iff.mp h0).1
  refine ⟨hp.set 6 (.inl (0, 40, .inl (upd (ka 6) j x))), st_at h0 (by decide) hj x, fun r hr => ?_, by simp, fun r hr => by rw [List.getElem?_set_ne (Ne.symm hr)]⟩
  by_cases e : r = 6
  · subst e; rw [List.getElem?_set_self hl]; rfl
  · rw [List.getElem?_set_ne (Ne.symm e), h r hr]
    exact CV_otherA (by omega) e
theorem c7_ld (h : CV hp ks ka kl kr) {j : Nat} (hj : j < 40) : kp_ldI hp 7 (nI j) = some (ka 7 j) := ld_at (cv7 h) (by decide) hj
theorem c7_st (h : CV hp ks ka kl kr) {j : Nat} (hj : j < 40) (x : Int32) : ∃ hp2, kp_stI hp 7 (nI j) x = some hp2 ∧ CV hp2 ks (va_up ka 7 (upd (ka 7) j x)) kl kr ∧ hp2.length = hp.length ∧ ∀ r, r ≠ 7 → hp2[r]? = hp[r]? := by
  have h0 := cv7 h
  have hl := (List.getElem?_eq_some_iff.mp h0).1
  refine ⟨hp.set 7 (.inl (0, 40, .inl (upd (ka 7) j x))), st_at h0 (by decide) hj x, fun r hr => ?_, by simp, fun r hr => by rw [List.getElem?_set_ne (Ne.symm hr)]⟩
  by_cases e : r = 7
  · subst e; rw [List.getElem?_set_self hl]; rfl
  · rw [List.getElem?_set_ne (Ne.symm e), h r hr]
    exact CV_otherA (by omega) e
theorem c8_ld (h : CV hp ks ka kl kr) {j : Nat} (hj : j < 40) : kp_ldI hp 8 (nI j) = some (ka 8 j) := ld_at (cv8 h) (by decide) hj
theorem c8_st (h : CV hp ks ka kl kr) {j : Nat} (hj : j < 40) (x : Int32) : ∃ hp2, kp_stI hp 8 (nI j) x = some hp2 ∧ CV hp2 ks (va_up ka 8 (upd (ka 8) j x)) kl kr ∧ hp2.length = hp.length ∧ ∀ r, r ≠ 8 → hp2[r]? = hp[r]? := by
  have h0 := cv8 h
  have hl := (List.getElem?_eq_some_iff.mp h0).1
  refine ⟨hp.set 8 (.inl (0, 40, .inl (upd (ka 8) j x))), st_at h0 (by decide) hj x, fun r hr => ?_, by simp, fun r hr => by rw [List.getElem?_set_ne (Ne.symm hr)]⟩
  by_cases e : r = 8
  · subst e; rw [List.getElem?_set_self hl]; rfl
  · rw [List.getElem?_set_ne (Ne.symm e), h r hr]
    exact CV_otherA (by omega) e
theorem c9_ld (h : CV hp ks ka kl kr) {j : Nat} (hj : j < 40) : kp_ldI hp 9 (nI j) = some (ka 9 j) := ld_at (cv9 h) (by decide) hj
theorem c9_st (h : CV hp ks ka kl kr) {j : Nat} (hj : j < 40) (x : Int32) : ∃ hp2, kp_stI hp 9 (nI j) x = some hp2 ∧ CV hp2 ks (va_up ka 9 (upd (ka 9) j x)) kl kr ∧ hp2.length = hp.length ∧ ∀ r, r ≠ 9 → hp2[r]? = hp[r]? := by
  have h0 := cv9 h
  have hl := (List.getElem?_eq_some_iff.mp h0).1
  refine ⟨hp.set 9 (.inl (0, 40, .inl (upd (ka 9) j x))), st_at h0 (by decide) hj x, fun r hr => ?_, by simp, fun r hr => by rw [List.getElem?_set_ne (Ne.symm hr)]⟩
  by_cases e : r = 9
  · subst e; rw [List.getElem?_set_self hl]; rfl
  · rw [List.getElem?_set_ne (Ne.symm e), h r hr]
    exact CV_otherA (by omega) e
theorem c10_ld (h : CV hp ks ka kl kr) {j : Nat} (hj : j < 40) : kp_ldI hp 10 (nI j) = some (ka 10 j) := ld_at (cv10 h) (by decide) hj
theorem c10_st (h : CV hp ks ka kl kr) {j : Nat} (hj : j < 40) (x : Int32) : ∃ hp2, kp_stI hp 10 (nI j) x = some hp2 ∧ CV hp2 ks (va_up ka 10 (upd (ka 10) j x)) kl kr ∧ hp2.length = hp.length ∧ ∀ r, r ≠ 10 → hp2[r]? = hp[r]? := by
  have h0 := cv10 h
  have hl := (List.getElem?_eq_some_iff.mp h0).1
  refine ⟨hp.set 10 (.inl (0, 40, .inl (upd (ka 10) j x))), st_at h0 (by decide) hj x, fun r hr => ?_, by simp, fun r hr => by rw [List.getElem?_set_ne (Ne.symm hr)]⟩
  by_cases e : r = 10
  · subst e; rw [List.getElem?_set_self hl]; rfl
  · rw [List.getElem?_set_ne (Ne.symm e), h r hr]
    exact CV_otherA (by omega) e
theorem c11_ld (h : CV hp ks ka kl kr) {j : Nat} (hj : j < 8) : kp_ldI hp 11 (nI j) = some (ka 11 j) := ld_at (cv11 h) (by decide) hj
theorem c11_st (h : CV hp ks ka kl kr) {j : Nat} (hj : j < 8) (x : Int32) : ∃ hp2, kp_stI hp 11 (nI j) x = some hp2 ∧ CV hp2 ks (va_up ka 11 (upd (ka 11) j x)) kl kr ∧ hp2.length = hp.length ∧ ∀ r, r ≠ 11 → hp2[r]? = hp[r]? := by
  have h0 := cv11 h
  have hl := (List.getElem?_eq_some_iff.mp h0).1
  refine ⟨hp.set 11 (.inl (0, 8, .inl (upd (ka 11) j x))), st_at h0 (by decide) hj x, fun r hr => ?_, by simp, fun r hr => by rw [List.getElem?_set_ne (Ne.symm hr)]⟩
  by_cases e : r = 11
  · subst e; rw [List.getElem?_set_self hl]; rfl
  · rw [List.getElem?_set_ne (Ne.symm e), h r hr]
    exact CV_otherA (by omega) e
theorem c12_ld (h : CV hp ks ka kl kr) {j : Nat} (hj : j < 8) : kp_ldI hp 12 (nI j) = some (ka 12 j) := ld_at (cv12 h) (by decide) hj
theorem c12_st (h : CV hp ks ka kl kr) {j : Nat} (hj : j < 8) (x : Int32) : ∃ hp2, kp_stI hp 12 (nI j) x = some hp2 ∧ CV hp2 ks (va_up ka 12 (upd (ka 12) j x)) kl kr ∧ hp2.length = hp.length ∧ ∀ r, r ≠ 12 → hp2[r]? = hp[r]? := by
  have h0 := cv12 h
  have hl := (List.getElem?_eq_some_iff.mp h0).1
  refine ⟨hp.set 12 (.inl (0, 8, .inl (upd (ka 12) j x))), st_at h0 (by decide) hj x, fun r hr => ?_, by simp, fun r hr => by rw [List.getElem?_set_ne (Ne.symm hr)]⟩
  by_cases e : r = 12
  · subst e; rw [List.getElem?_set_self hl]; rfl
  · rw [List.getElem?_set_ne (Ne.symm e), h r hr]
    exact CV_otherA (by omega) e
theorem c13_ob (h : CV hp ks ka kl kr) : kp_ob hp 13 8 = some () := by
  unfold kp_ob; rw [cv13 h]; rfl
theorem c13_r0 (h : CV hp ks ka kl kr) : kp_gR hp 13 [8] 0 = some 14 := by
  unfold kp_gR; rw [cv13 h]; rfl
theorem c13_g1 (h : CV hp ks ka kl kr) : kp_gI hp 13 [8] 1 = some (ks 13 1) := by
  unfold kp_gI; rw [cv13 h]; rfl
theorem c13_p1 (h : CV hp ks ka kl kr) (x : Int32) : ∃ hp2, kp_put hp 13 [8] 1 (.int x) = some hp2 ∧ CV hp2 (up2 ks 13 1 x) ka kl kr ∧ hp2.length = hp.length ∧ ∀ r, r ≠ 13 → hp2[r]? = hp[r]? := by
  have h0 := cv13 h
  have hl := (List.getElem?_eq_some_iff.mp h0).1
  refine ⟨hp.set 13 (.inr (8, [.ref 14, .int (up2 ks 13 1 x 13 1), .ref 15, .int (up2 ks 13 1 x 13 3), .int (up2 ks 13 1 x 13 4)])), ?_, fun r hr => ?_, by simp, fun r hr => by rw [List.getElem?_set_ne (Ne.symm hr)]⟩
  · unfold kp_put; rw [h0]; rfl
  · by_cases e : r = 13
    · subst e; rw [List.getElem?_set_self hl]; rfl
    · rw [List.getElem?_set_ne (Ne.symm e), h r hr]
      exact CV_other (by omega) e
theorem c13_r2 (h : CV hp ks ka kl kr) : kp_gR hp 13 [8] 2 = some 15 := by
  unfold kp_gR; rw [cv13 h]; rfl
theorem c13_g3 (h : CV hp ks ka kl kr) : kp_gI hp 13 [8] 3 = some (ks 13 3) := by
  unfold kp_gI; rw [cv13 h]; rfl
theorem c13_p3 (h : CV hp ks ka kl kr) (x : Int32) : ∃ hp2, kp_put hp 13 [8] 3 (.int x) = some hp2 ∧ CV hp2 (up2 ks 13 3 x) ka kl kr ∧ hp2.length = hp.length ∧ ∀ r, r ≠ 13 → hp2[r]? = hp[r]? := by
  have h0 := cv13 h
  have hl := (List.getElem?_eq_some_iff.mp h0).1
  refine ⟨hp.set 13 (.inr (8, [.ref 14, .int (up2 ks 13 3 x 13 1), .ref 15, .int (up2 ks 13 3 x 13 3), .int (up2 ks 13 3 x 13 4)])), ?_, fun r hr => ?_, by simp, fun r hr => by rw [List.getElem?_set_ne (Ne.symm hr)]⟩
  · unfold kp_put; rw [h0]; rfl
  · by_cases e : r = 13
    · subst e; rw [List.getElem?_set_self hl]; rfl
    · rw [List.getElem?_set_ne (Ne.symm e), h r hr]
      exact CV_other (by omega) e
theorem c13_g4 (h : CV hp ks ka kl kr) : kp_gI hp 13 [8] 4 = some (ks 13 4) := by
  unfold kp_gI; rw [cv13 h]; rfl
theorem c13_p4 (h : CV hp ks ka kl kr) (x : Int32) : ∃ hp2, kp_put hp 13 [8] 4 (.int x) = some hp2 ∧ CV hp2 (up2 ks 13 4 x) ka kl kr ∧ hp2.length = hp.length ∧ ∀ r, r ≠ 13 → hp2[r]? = hp[r]? := by
  have h0 := cv13 h
  have hl := (List.getElem?_eq_some_iff.mp h0).1
  refine ⟨hp.set 13 (.inr (8, [.ref 14, .int (up2 ks 13 4 x 13 1), .ref 15, .int (up2 ks 13 4 x 13 3), .int (up2 ks 13 4 x 13 4)])), ?_, fun r hr => ?_, by simp, fun r hr => by rw [List.getElem?_set_ne (Ne.symm hr)]⟩
  · unfold kp_put; rw [h0]; rfl
  · by_cases e : r = 13
    · subst e; rw [List.getElem?_set_self hl]; rfl
    · rw [List.getElem?_set_ne (Ne.symm e), h r hr]
      exact CV_other (by omega) e
theorem c14_ld (h : CV hp ks ka kl kr) {j : Nat} (hj : j < 80) : kp_ldI hp 14 (nI j) = some (ka 14 j) := ld_at (cv14 h) (by decide) hj
theorem c14_st (h : CV hp ks ka kl kr) {j : Nat} (hj : j < 80) (x : Int32) : ∃ hp2, kp_stI hp 14 (nI j) x = some hp2 ∧ CV hp2 ks (va_up ka 14 (upd (ka 14) j x)) kl kr ∧ hp2.length = hp.length ∧ ∀ r, r ≠ 14 → hp2[r]? = hp[r]? := by
  have h0 := cv14 h
  have hl := (List.getElem?_eq_some_iff.mp h0).1
  refine ⟨hp.set 14 (.inl (0, 80, .inl (upd (ka 14) j x))), st_at h0 (by decide) hj x, fun r hr => ?_, by simp, fun r hr => by rw [List.getElem?_set_ne (Ne.symm hr)]⟩
  by_cases e : r = 14
  · subst e; rw [List.getElem?_set_self hl]; rfl
  · rw [List.getElem?_set_ne (Ne.symm e), h r hr]
    exact CV_otherA (by omega) e
theorem c15_ob (h : CV hp ks ka kl kr) : kp_ob hp 15 2 = some () := by
  unfold kp_ob; rw [cv15 h]; rfl
theorem c15_r0 (h : CV hp ks ka kl kr) : kp_gR hp 15 [2] 0 = some 16 := by
  unfold kp_gR; rw [cv15 h]; rfl
theorem c15_r1 (h : CV hp ks ka kl kr) : kp_gR hp 15 [2] 1 = some 17 := by
  unfold kp_gR; rw [cv15 h]; rfl
theorem c15_r2 (h : CV hp ks ka kl kr) : kp_gR hp 15 [2] 2 = some 18 := by
  unfold kp_gR; rw [cv15 h]; rfl
theorem c15_r3 (h : CV hp ks ka kl kr) : kp_gR hp 15 [2] 3 = some 19 := by
  unfold kp_gR; rw [cv15 h]; rfl
theorem c15_g4 (h : CV hp ks ka kl kr) : kp_gI hp 15 [2] 4 = some (ks 15 4) := by
  unfold kp_gI; rw [cv15 h]; rfl
theorem c15_p4 (h : CV hp ks ka kl kr) (x : Int32) : ∃ hp2, kp_put hp 15 [2] 4 (.int x) = some hp2 ∧ CV hp2 (up2 ks 15 4 x) ka kl kr ∧ hp2.length = hp.length ∧ ∀ r, r ≠ 15 → hp2[r]? = hp[r]? := by
  have h0 := cv15 h
  have hl := (List.getElem?_eq_some_iff.mp h0).1
  refine ⟨hp.set 15 (.inr (2, [.ref 16, .ref 17, .ref 18, .ref 19, .int (up2 ks 15 4 x 15 4), .int (up2 ks 15 4 x 15 5), .int (up2 ks 15 4 x 15 6), .int (up2 ks 15 4 x 15 7), .int (up2 ks 15 4 x 15 8), .int (up2 ks 15 4 x 15 9)])), ?_, fun r hr => ?_, by simp, fun r hr => by rw [List.getElem?_set_ne (Ne.symm hr)]⟩
  · unfold kp_put; rw [h0]; rfl
  · by_cases e : r = 15
    · subst e; rw [List.getElem?_set_self hl]; rfl
    · rw [List.getElem?_set_ne (Ne.symm e), h r hr]
      exact CV_other (by omega) e
theorem c15_g5 (h : CV hp ks ka kl kr) : kp_gI hp 15 [2] 5 = some (ks 15 5) := by
  unfold kp_gI; rw [cv15 h]; rfl
theorem c15_p5 (h : CV hp ks ka kl kr) (x : Int32) : ∃ hp2, kp_put hp 15 [2] 5 (.int x) = some hp2 ∧ CV hp2 (up2 ks 15 5 x) ka kl kr ∧ hp2.length = hp.length ∧ ∀ r, r ≠ 15 → hp2[r]? = hp[r]? := by
  have h0 := cv15 h
  have hl := (List.getElem?_eq_some_iff.mp h0).1
  refine ⟨hp.set 15 (.inr (2, [.ref 16, .ref 17, .ref 18, .ref 19, .int (up2 ks 15 5 x 15 4), .int (up2 ks 15 5 x 15 5), .int (up2 ks 15 5 x 15 6), .int (up2 ks 15 5 x 15 7), .int (up2 ks 15 5 x 15 8), .int (up2 ks 15 5 x 15 9)])), ?_, fun r hr => ?_, by simp, fun r hr => by rw [List.getElem?_set_ne (Ne.symm hr)]⟩
  · unfold kp_put; rw [h0]; rfl
  · by_cases e : r = 15
    · subst e; rw [List.getElem?_set_self hl]; rfl
    · rw [List.getElem?_set_ne (Ne.symm e), h r hr]
      exact CV_other (by omega) e
theorem c15_g6 (h : CV hp ks ka kl kr) : kp_gI hp 15 [2] 6 = some (ks 15 6) := by
  unfold kp_gI; rw [cv15 h]; rfl
theorem c15_p6 (h : CV hp ks ka kl kr) (x : Int32) : ∃ hp2, kp_put hp 15 [2] 6 (.int x) = some hp2 ∧ CV hp2 (up2 ks 15 6 x) ka kl kr ∧ hp2.length = hp.length ∧ ∀ r, r ≠ 15 → hp2[r]? = hp[r]? := by
  have h0 := cv15 h
  have hl := (List.getElem?_eq_some_iff.mp h0).1
  refine ⟨hp.set 15 (.inr (2, [.ref 16, .ref 17, .ref 18, .ref 19, .int (up2 ks 15 6 x 15 4), .int (up2 ks 15 6 x 15 5), .int (up2 ks 15 6 x 15 6), .int (up2 ks 15 6 x 15 7), .int (up2 ks 15 6 x 15 8), .int (up2 ks 15 6 x 15 9)])), ?_, fun r hr => ?_, by simp, fun r hr => by rw [List.getElem?_set_ne (Ne.symm hr)]⟩
  · unfold kp_put; rw [h0]; rfl
  · by_cases e : r = 15
    · subst e; rw [List.getElem?_set_self hl]; rfl
    · rw [List.getElem?_set_ne (Ne.symm e), h r hr]
      exact CV_other (by omega) e
theorem c15_g7 (h : CV hp ks ka kl kr) : kp_gI hp 15 [2] 7 = some (ks 15 7) := by
  unfold kp_gI; rw [cv15 h]; rfl
theorem c15_p7 (h : CV hp ks ka kl kr) (x : Int32) : ∃ hp2, kp_put hp 15 [2] 7 (.int x) = some hp2 ∧ CV hp2 (up2 ks 15 7 x) ka kl kr ∧ hp2.length = hp.length ∧ ∀ r, r ≠ 15 → hp2[r]? = hp[r]? := by
  have h0 := cv15 h
  have hl := (List.getElem?_eq_some_iff.mp h0).1
  refine ⟨hp.set 15 (.inr (2, [.ref 16, .ref 17, .ref 18, .ref 19, .int (up2 ks 15 7 x 15 4), .int (up2 ks 15 7 x 15 5), .int (up2 ks 15 7 x 15 6), .int (up2 ks 15 7 x 15 7), .int (up2 ks 15 7 x 15 8), .int (up2 ks 15 7 x 15 9)])), ?_, fun r hr => ?_, by simp, fun r hr => by rw [List.getElem?_set_ne (Ne.symm hr)]⟩
  · unfold kp_put; rw [h0]; rfl
  · by_cases e : r = 15
    · subst e; rw [List.getElem?_set_self hl]; rfl
    · rw [List.getElem?_set_ne (Ne.symm e), h r hr]
      exact CV_other (by omega) e
theorem c15_g8 (h : CV hp ks ka kl kr) : kp_gI hp 15 [2] 8 = some (ks 15 8) := by
  unfold kp_gI; rw [cv15 h]; rfl
theorem c15_p8 (h : CV hp ks ka kl kr) (x : Int32) : ∃ hp2, kp_put hp 15 [2] 8 (.int x) = some hp2 ∧ CV hp2 (up2 ks 15 8 x) ka kl kr ∧ hp2.length = hp.length ∧ ∀ r, r ≠ 15 → hp2[r]? = hp[r]? := by
  have h0 := cv15 h
  have hl := (List.getElem?_eq_some_iff.mp h0).1
  refine ⟨hp.set 15 (.inr (2, [.ref 16, .ref 17, .ref 18, .ref 19, .int (up2 ks 15 8 x 15 4), .int (up2 ks 15 8 x 15 5), .int (up2 ks 15 8 x 15 6), .int (up2 ks 15 8 x 15 7), .int (up2 ks 15 8 x 15 8), .int (up2 ks 15 8 x 15 9)])), ?_, fun r hr => ?_, by simp, fun r hr => by rw [List.getElem?_set_ne (Ne.symm hr)]⟩
  · unfold kp_put; rw [h0]; rfl
  · by_cases e : r = 15
    · subst e; rw [List.getElem?_set_self hl]; rfl
    · rw [List.getElem?_set_ne (Ne.symm e), h r hr]
      exact CV_other (by omega) e
theorem c15_g9 (h : CV hp ks ka kl kr) : kp_gI hp 15 [2] 9 = some (ks 15 9) := by
  unfold kp_gI; rw [cv15 h]; rfl
theorem c15_p9 (h : CV hp ks ka kl kr) (x : Int32) : ∃ hp2, kp_put hp 15 [2] 9 (.int x) = some hp2 ∧ CV hp2 (up2 ks 15 9 x) ka kl kr ∧ hp2.length = hp.length ∧ ∀ r, r ≠ 15 → hp2[r]? = hp[r]? := by
  have h0 := cv15 h
  have hl := (List.getElem?_eq_some_iff.mp h0).1
  refine ⟨hp.set 15 (.inr (2, [.ref 16, .ref 17, .ref 18, .ref 19, .int (up2 ks 15 9 x 15 4), .int (up2 ks 15 9 x 15 5), .int (up2 ks 15 9 x 15 6), .int (up2 ks 15 9 x 15 7), .int (up2 ks 15 9 x 15 8), .int (up2 ks 15 9 x 15 9)])), ?_, fun r hr => ?_, by simp, fun r hr => by rw [List.getElem?_set_ne (Ne.symm hr)]⟩
  · unfold kp_put; rw [h0]; rfl
  · by_cases e : r = 15
    · subst e; rw [List.getElem?_set_self hl]; rfl
    · rw [List.getElem?_set_ne (Ne.symm e), h r hr]
      exact CV_other (by omega) e
theorem c16_ld (h : CV hp ks ka kl kr) {j : Nat} (hj : j < 8) : kp_ldI hp 16 (nI j) = some (ka 16 j) := ld_at (cv16 h) (by decide) hj
theorem c16_st (h : CV hp ks ka kl kr) {j : Nat} (hj : j < 8) (x : Int32) : ∃ hp2, kp_stI hp 16 (nI j) x = some hp2 ∧ CV hp2 ks (va_up ka 16 (upd (ka 16) j x)) kl kr ∧ hp2.length = hp.length ∧ ∀ r, r ≠ 16 → hp2[r]? = hp[r]? := by
  have h0 := cv16 h
  have hl := (List.getElem?_eq_some_iff.mp h0).1
  refine ⟨hp.set 16 (.inl (0, 8, .inl (upd (ka 16) j x))), st_at h0 (by decide) hj x, fun r hr => ?_, by simp, fun r hr => by rw [List.getElem?_set_ne (Ne.symm hr)]⟩
  by_cases e : r = 16
  · subst e; rw [List.getElem?_set_self hl]; rfl
  · rw [List.getElem?_set_ne (Ne.symm e), h r hr]
    exact CV_otherA (by omega) e
theorem c17_ld (h : CV hp ks ka kl kr) {j : Nat} (hj : j < 8) : kp_ldI hp 17 (nI j) = some (ka 17 j) := ld_at (cv17 h) (by decide) hj
theorem c17_st (h : CV hp ks ka kl kr) {j : Nat} (hj : j < 8) (x : Int32) : ∃ hp2, kp_stI hp 17 (nI j) x = some hp2 ∧ CV hp2 ks (va_up ka 17 (upd (ka 17) j x)) kl kr ∧ hp2.length = hp.length ∧ ∀ r, r ≠ 17 → hp2[r]? = hp[r]? := by
  have h0 := cv17 h
  have hl := (List.getElem?_eq_some_iff.mp h0).1
  refine ⟨hp.set 17 (.inl (0, 8, .inl (upd (ka 17) j x))), st_at h0 (by decide) hj x, fun r hr => ?_, by simp, fun r hr => by rw [List.getElem?_set_ne (Ne.symm hr)]⟩
  by_cases e : r = 17
  · subst e; rw [List.getElem?_set_self hl]; rfl
  · rw [List.getElem?_set_ne (Ne.symm e), h r hr]
    exact CV_otherA (by omega) e
theorem c19_ld (h : CV hp ks ka kl kr) {j : Nat} (hj : j < 36) : kp_ldI hp 19 (nI j) = some (ka 19 j) := ld_at (cv19 h) (by decide) hj
theorem c19_st (h : CV hp ks ka kl kr) {j : Nat} (hj : j < 36) (x : Int32) : ∃ hp2, kp_stI hp 19 (nI j) x = some hp2 ∧ CV hp2 ks (va_up ka 19 (upd (ka 19) j x)) kl kr ∧ hp2.length = hp.length ∧ ∀ r, r ≠ 19 → hp2[r]? = hp[r]? := by
  have h0 := cv19 h
  have hl := (List.getElem?_eq_some_iff.mp h0).1
  refine ⟨hp.set 19 (.inl (0, 36, .inl (upd (ka 19) j x))), st_at h0 (by decide) hj x, fun r hr => ?_, by simp, fun r hr => by rw [List.getElem?_set_ne (Ne.symm hr)]⟩
  by_cases e : r = 19
  · subst e; rw [List.getElem?_set_self hl]; rfl
  · rw [List.getElem?_set_ne (Ne.symm e), h r hr]
    exact CV_otherA (by omega) e
theorem c20_ob (h : CV hp ks ka kl kr) : kp_ob hp 20 2 = some () := by
  unfold kp_ob; rw [cv20 h]; rfl
theorem c20_r0 (h : CV hp ks ka kl kr) : kp_gR hp 20 [2] 0 = some 21 := by
  unfold kp_gR; rw [cv20 h]; rfl
theorem c20_r1 (h : CV hp ks ka kl kr) : kp_gR hp 20 [2] 1 = some 22 := by
  unfold kp_gR; rw [cv20 h]; rfl
theorem c20_r2 (h : CV hp ks ka kl kr) : kp_gR hp 20 [2] 2 = some 23 := by
  unfold kp_gR; rw [cv20 h]; rfl
theorem c20_r3 (h : CV hp ks ka kl kr) : kp_gR hp 20 [2] 3 = some 24 := by
  unfold kp_gR; rw [cv20 h]; rfl
theorem c20_g4 (h : CV hp ks ka kl kr) : kp_gI hp 20 [2] 4 = some (ks 20 4) := by
  unfold kp_gI; rw [cv20 h]; rfl
theorem c20_p4 (h : CV hp ks ka kl kr) (x : Int32) : ∃ hp2, kp_put hp 20 [2] 4 (.int x) = some hp2 ∧ CV hp2 (up2 ks 20 4 x) ka kl kr ∧ hp2.length = hp.length ∧ ∀ r, r ≠ 20 → hp2[r]? = hp[r]? := by
  have h0 := cv20 h
  have hl := (List.getElem?_eq_some_iff.mp h0).1
  refine ⟨hp.set 20 (.inr (2, [.ref 21, .ref 22, .ref 23, .ref 24, .int (up2 ks 20 4 x 20 4), .int (up2 ks 20 4 x 20 5), .int (up2 ks 20 4 x 20 6), .int (up2 ks 20 4 x 20 7), .int (up2 ks 20 4 x 20 8), .int (up2 ks 20 4 x 20 9)])), ?_, fun r hr => ?_, by simp, fun r hr => by rw [List.getElem?_set_ne (Ne.symm hr)]⟩
  · unfold kp_put; rw [h0]; rfl
  · by_cases e : r = 20
    · subst e; rw [List.getElem?_set_self hl]; rfl
    · rw [List.getElem?_set_ne (Ne.symm e), h r hr]
      exact CV_other (by omega) e
theorem c20_g5 (h : CV hp ks ka kl kr) : kp_gI hp 20 [2] 5 = some (ks 20 5) := by
  unfold kp_gI; rw [cv20 h]; rfl
theorem c20_p5 (h : CV hp ks ka kl kr) (x : Int32) : ∃ hp2, kp_put hp 20 [2] 5 (.int x) = some hp2 ∧ CV hp2 (up2 ks 20 5 x) ka kl kr ∧ hp2.length = hp.length ∧ ∀ r, r ≠ 20 → hp2[r]? = hp[r]? := by
  have h0 := cv20 h
  have hl := (List.getElem?_eq_some_iff.mp h0).1
  refine ⟨hp.set 20 (.inr (2, [.ref 21, .ref 22, .ref 23, .ref 24, .int (up2 ks 20 5 x 20 4), .int (up2 ks 20 5 x 20 5), .int (up2 ks 20 5 x 20 6), .int (up2 ks 20 5 x 20 7), .int (up2 ks 20 5 x 20 8), .int (up2 ks 20 5 x 20 9)])), ?_, fun r hr => ?_, by simp, fun r hr => by rw [List.getElem?_set_ne (Ne.symm hr)]⟩
  · unfold kp_put; rw [h0]; rfl
  · by_cases e : r = 20
    · subst e; rw [List.getElem?_set_self hl]; rfl
    · rw [List.getElem?_set_ne (Ne.symm e), h r hr]
      exact CV_other (by omega) e
theorem c20_g6 (h : CV hp ks ka kl kr) : kp_gI hp 20 [2] 6 = some (ks 20 6) := by
  unfold kp_gI; rw [cv20 h]; rfl
theorem c20_p6 (h : CV hp ks ka kl kr) (x : Int32) : ∃ hp2, kp_put hp 20 [2] 6 (.int x) = some hp2 ∧ CV hp2 (up2 ks 20 6 x) ka kl kr ∧ hp2.length = hp.length ∧ ∀ r, r ≠ 20 → hp2[r]? = hp[r]? := by
  have h0 := cv20 h
  have hl := (List.getElem?_eq_some_iff.mp h0).1
  refine ⟨hp.set 20 (.inr (2, [.ref 21, .ref 22, .ref 23, .ref 24, .int (up2 ks 20 6 x 20 4), .int (up2 ks 20 6 x 20 5), .int (up2 ks 20 6 x 20 6), .int (up2 ks 20 6 x 20 7), .int (up2 ks 20 6 x 20 8), .int (up2 ks 20 6 x 20 9)])), ?_, fun r hr => ?_, by simp, fun r hr => by rw [List.getElem?_set_ne (Ne.symm hr)]⟩
  · unfold kp_put; rw [h0]; rfl
  · by_cases e : r = 20
    · subst e; rw [List.getElem?_set_self hl]; rfl
    · rw [List.getElem?_set_ne (Ne.symm e), h r hr]
      exact CV_other (by omega) e
theorem c20_g7 (h : CV hp ks ka kl kr) : kp_gI hp 20 [2] 7 = some (ks 20 7) := by
  unfold kp_gI; rw [cv20 h]; rfl
theorem c20_p7 (h : CV hp ks ka kl kr) (x : Int32) : ∃ hp2, kp_put hp 20 [2] 7 (.int x) = some hp2 ∧ CV hp2 (up2 ks 20 7 x) ka kl kr ∧ hp2.length = hp.length ∧ ∀ r, r ≠ 20 → hp2[r]? = hp[r]? := by
  have h0 := cv20 h
  have hl := (List.getElem?_eq_some_iff.mp h0).1
  refine ⟨hp.set 20 (.inr (2, [.ref 21, .ref 22, .ref 23, .ref 24, .int (up2 ks 20 7 x 20 4), .int (up2 ks 20 7 x 20 5), .int (up2 ks 20 7 x 20 6), .int (up2 ks 20 7 x 20 7), .int (up2 ks 20 7 x 20 8), .int (up2 ks 20 7 x 20 9)])), ?_, fun r hr => ?_, by simp, fun r hr => by rw [List.getElem?_set_ne (Ne.symm hr)]⟩
  · unfold kp_put; rw [h0]; rfl
  · by_cases e : r = 20
    · subst e; rw [List.getElem?_set_self hl]; rfl
    · rw [List.getElem?_set_ne (Ne.symm e), h r hr]
      exact CV_other (by omega) e
theorem c20_g8 (h : CV hp ks ka kl kr) : kp_gI hp 20 [2] 8 = some (ks 20 8) := by
  unfold kp_gI; rw [cv20 h]; rfl
theorem c20_p8 (h : CV hp ks ka kl kr) (x : Int32) : ∃ hp2, kp_put hp 20 [2] 8 (.int x) = some hp2 ∧ CV hp2 (up2 ks 20 8 x) ka kl kr ∧ hp2.length = hp.length ∧ ∀ r, r ≠ 20 → hp2[r]? = hp[r]? := by
  have h0 := cv20 h
  have hl := (List.getElem?_eq_some_iff.mp h0).1
  refine ⟨hp.set 20 (.inr (2, [.ref 21, .ref 22, .ref 23, .ref 24, .int (up2 ks 20 8 x 20 4), .int (up2 ks 20 8 x 20 5), .int (up2 ks 20 8 x 20 6), .int (up2 ks 20 8 x 20 7), .int (up2 ks 20 8 x 20 8), .int (up2 ks 20 8 x 20 9)])), ?_, fun r hr => ?_, by simp, fun r hr => by rw [List.getElem?_set_ne (Ne.symm hr)]⟩
  · unfold kp_put; rw [h0]; rfl
  · by_cases e : r = 20
    · subst e; rw [List.getElem?_set_self hl]; rfl
    · rw [List.getElem?_set_ne (Ne.symm e), h r hr]
      exact CV_other (by omega) e
theorem c20_g9 (h : CV hp ks ka kl kr) : kp_gI hp 20 [2] 9 = some (ks 20 9) := by
  unfold kp_gI; rw [cv20 h]; rfl
theorem c20_p9 (h : CV hp ks ka kl kr) (x : Int32) : ∃ hp2, kp_put hp 20 [2] 9 (.int x) = some hp2 ∧ CV hp2 (up2 ks 20 9 x) ka kl kr ∧ hp2.length = hp.length ∧ ∀ r, r ≠ 20 → hp2[r]? = hp[r]? := by
  have h0 := cv20 h
  have hl := (List.getElem?_eq_some_iff.mp h0).1
  refine ⟨hp.set 20 (.inr (2, [.ref 21, .ref 22, .ref 23, .ref 24, .int (up2 ks 20 9 x 20 4), .int (up2 ks 20 9 x 20 5), .int (up2 ks 20 9 x 20 6), .int (up2 ks 20 9 x 20 7), .int (up2 ks 20 9 x 20 8), .int (up2 ks 20 9 x 20 9)])), ?_, fun r hr => ?_, by simp, fun r hr => by rw [List.getElem?_set_ne (Ne.symm hr)]⟩
  · unfold kp_put; rw [h0]; rfl
  · by_cases e : r = 20
    · subst e; rw [List.getElem?_set_self hl]; rfl
    · rw [List.getElem?_set_ne (Ne.symm e), h r hr]
      exact CV_other (by omega) e
theorem c21_ld (h : CV hp ks ka kl kr) {j : Nat} (hj : j < 8) : kp_ldI hp 21 (nI j) = some (ka 21 j) := ld_at (cv21 h) (by decide) hj
theorem c21_st (h : CV hp ks ka kl kr) {j : Nat} (hj : j < 8) (x : Int32) : ∃ hp2, kp_stI hp 21 (nI j) x = some hp2 ∧ CV hp2 ks (va_up ka 21 (upd (ka 21) j x)) kl kr ∧ hp2.length = hp.length ∧ ∀ r, r ≠ 21 → hp2[r]? = hp[r]? := by
  have h0 := cv21 h
  have hl := (List.getElem?_eq_some_iff.mp h0).1
  refine ⟨hp.set 21 (.inl (0, 8, .inl (upd (ka 21) j x))), st_at h0 (by decide) hj x, fun r hr => ?_, by simp, fun r hr => by rw [List.getElem?_set_ne (Ne.symm hr)]⟩
  by_cases e : r = 21
  · subst e; rw [List.getElem?_set_self hl]; rfl
  · rw [List.getElem?_set_ne (Ne.symm e), h r hr]
    exact CV_otherA (by omega) e
theorem c22_ld (h : CV hp ks ka kl kr) {j : Nat} (hj : j < 8) : kp_ldI hp 22 (nI j) = some (ka 22 j) := ld_at (cv22 h) (by decide) hj
theorem c22_st (h : CV hp ks ka kl kr) {j : Nat} (hj : j < 8) (x : Int32) : ∃ hp2, kp_stI hp 22 (nI j) x = some hp2 ∧ CV hp2 ks (va_up ka 22 (upd (ka 22) j x)) kl kr ∧ hp2.length = hp.length ∧ ∀ r, r ≠ 22 → hp2[r]? = hp[r]? := by
  have h0 := cv22 h
  have hl := (List.getElem?_eq_some_iff.mp h0).1
  refine ⟨hp.set 22 (.inl (0, 8, .inl (upd (ka 22) j x))), st_at h0 (by decide) hj x, fun r hr => ?_, by simp, fun r hr => by rw [List.getElem?_set_ne (Ne.symm hr)]⟩
  by_cases e : r = 22
  · subst e; rw [List.getElem?_set_self hl]; rfl
  · rw [List.getElem?_set_ne (Ne.symm e), h r hr]
    exact CV_otherA (by omega) e
theorem c24_ld (h : CV hp ks ka kl kr) {j : Nat} (hj : j < 36) : kp_ldI hp 24 (nI j) = some (ka 24 j) := ld_at (cv24 h) (by decide) hj
theorem c24_st (h : CV hp ks ka kl kr) {j : Nat} (hj : j < 36) (x : Int32) : ∃ hp2, kp_stI hp 24 (nI j) x = some hp2 ∧ CV hp2 ks (va_up ka 24 (upd (ka 24) j x)) kl kr ∧ hp2.length = hp.length ∧ ∀ r, r ≠ 24 → hp2[r]? = hp[r]? := by
  have h0 := cv24 h
  have hl := (List.getElem?_eq_some_iff.mp h0).1
  refine ⟨hp.set 24 (.inl (0, 36, .inl (upd (ka 24) j x))), st_at h0 (by decide) hj x, fun r hr => ?_, by simp, fun r hr => by rw [List.getElem?_set_ne (Ne.symm hr)]⟩
  by_cases e : r = 24
  · subst e; rw [List.getElem?_set_self hl]; rfl
  · rw [List.getElem?_set_ne (Ne.symm e), h r hr]
    exact CV_otherA (by omega) e
theorem c25_ob (h : CV hp ks ka kl kr) : kp_ob hp 25 1 = some () := by
  unfold kp_ob; rw [cv25 h]; rfl
theorem c25_r0 (h : CV hp ks ka kl kr) : kp_gR hp 25 [1] 0 = some 26 := by
  unfold kp_gR; rw [cv25 h]; rfl
theorem c25_r1 (h : CV hp ks ka kl kr) : kp_gR hp 25 [1] 1 = some 31 := by
  unfold kp_gR; rw [cv25 h]; rfl
theorem c25_r2 (h : CV hp ks ka kl kr) : kp_gR hp 25 [1] 2 = some 32 := by
  unfold kp_gR; rw [cv25 h]; rfl
theorem c25_r3 (h : CV hp ks ka kl kr) : kp_gR hp 25 [1] 3 = some 33 := by
  unfold kp_gR; rw [cv25 h]; rfl
theorem c26_ob (h : CV hp ks ka kl kr) : kp_ob hp 26 2 = some () := by
  unfold kp_ob; rw [cv26 h]; rfl
theorem c26_r0 (h : CV hp ks ka kl kr) : kp_gR hp 26 [2] 0 = some 27 := by
  unfold kp_gR; rw [cv26 h]; rfl
theorem c26_r1 (h : CV hp ks ka kl kr) : kp_gR hp 26 [2] 1 = some 28 := by
  unfold kp_gR; rw [cv26 h]; rfl
theorem c26_r2 (h : CV hp ks ka kl kr) : kp_gR hp 26 [2] 2 = some 29 := by
  unfold kp_gR; rw [cv26 h]; rfl
theorem c26_r3 (h : CV hp ks ka kl kr) : kp_gR hp 26 [2] 3 = some 30 := by
  unfold kp_gR; rw [cv26 h]; rfl
theorem c26_g4 (h : CV hp ks ka kl kr) : kp_gI hp 26 [2] 4 = some (ks 26 4) := by
  unfold kp_gI; rw [cv26 h]; rfl
theorem c26_p4 (h : CV hp ks ka kl kr) (x : Int32) : ∃ hp2, kp_put hp 26 [2] 4 (.int x) = some hp2 ∧ CV hp2 (up2 ks 26 4 x) ka kl kr ∧ hp2.length = hp.length ∧ ∀ r, r ≠ 26 → hp2[r]? = hp[r]? := by
  have h0 := cv26 h
  have hl := (List.getElem?_eq_some_iff.mp h0).1
  refine ⟨hp.set 26 (.inr (2, [.ref 27, .ref 28, .ref 29, .ref 30, .int (up2 ks 26 4 x 26 4), .int (up2 ks 26 4 x 26 5), .int (up2 ks 26 4 x 26 6), .int (up2 ks 26 4 x 26 7), .int (up2 ks 26 4 x 26 8), .int (up2 ks 26 4 x 26 9)])), ?_, fun r hr => ?_, by simp, fun r hr => by rw [List.getElem?_set_ne (Ne.symm hr)]⟩
  · unfold kp_put; rw [h0]; rfl
  · by_cases e : r = 26
    · subst e; rw [List.getElem?_set_self hl]; rfl
    · rw [List.getElem?_set_ne (Ne.symm e), h r hr]
      exact CV_other (by omega) e
theorem c26_g5 (h : CV hp ks ka kl kr) : kp_gI hp 26 [2] 5 = some (ks 26 5) := by
  unfold kp_gI; rw [cv26 h]; rfl
theorem c26_p5 (h : CV hp ks ka kl kr) (x : Int32) : ∃ hp2, kp_put hp 26 [2] 5 (.int x) = some hp2 ∧ CV hp2 (up2 ks 26 5 x) ka kl kr ∧ hp2.length = hp.length ∧ ∀ r, r ≠ 26 → hp2[r]? = hp[r]? := by
  have h0 := cv26 h
  have hl := (List.getElem?_eq_some_iff.mp h0).1
  refine ⟨hp.set 26 (.inr (2, [.ref 27, .ref 28, .ref 29, .ref 30, .int (up2 ks 26 5 x 26 4), .int (up2 ks 26 5 x 26 5), .int (up2 ks 26 5 x 26 6), .int (up2 ks 26 5 x 26 7), .int (up2 ks 26 5 x 26 8), .int (up2 ks 26 5 x 26 9)])), ?_, fun r hr => ?_, by simp, fun r hr => by rw [List.getElem?_set_ne (Ne.symm hr)]⟩
  · unfold kp_put; rw [h0]; rfl
  · by_cases e : r = 26
    · subst e; rw [List.getElem?_set_self hl]; rfl
    · rw [List.getElem?_set_ne (Ne.symm e), h r hr]
      exact CV_other (by omega) e
theorem c26_g6 (h : CV hp ks ka kl kr) : kp_gI hp 26 [2] 6 = some (ks 26 6) := by
  unfold kp_gI; rw [cv26 h]; rfl
theorem c26_p6 (h : CV hp ks ka kl kr) (x : Int32) : ∃ hp2, kp_put hp 26 [2] 6 (.int x) = some hp2 ∧ CV hp2 (up2 ks 26 6 x) ka kl kr ∧ hp2.length = hp.length ∧ ∀ r, r ≠ 26 → hp2[r]? = hp[r]? := by
  have h0 := cv26 h
  have hl := (List.getElem?_eq_some_iff.mp h0).1
  refine ⟨hp.set 26 (.inr (2, [.ref 27, .ref 28, .ref 29, .ref 30, .int (up2 ks 26 6 x 26 4), .int (up2 ks 26 6 x 26 5), .int (up2 ks 26 6 x 26 6), .int (up2 ks 26 6 x 26 7), .int (up2 ks 26 6 x 26 8), .int (up2 ks 26 6 x 26 9)])), ?_, fun r hr => ?_, by simp, fun r hr => by rw [List.getElem?_set_ne (Ne.symm hr)]⟩
  · unfold kp_put; rw [h0]; rfl
  · by_cases e : r = 26
    · subst e; rw [List.getElem?_set_self hl]; rfl
    · rw [List.getElem?_set_ne (Ne.symm e), h r hr]
      exact CV_other (by omega) e
theorem c26_g7 (h : CV hp ks ka kl kr) : kp_gI hp 26 [2] 7 = some (ks 26 7) := by
  unfold kp_gI; rw [cv26 h]; rfl
theorem c26_p7 (h : CV hp ks ka kl kr) (x : Int32) : ∃ hp2, kp_put hp 26 [2] 7 (.int x) = some hp2 ∧ CV hp2 (up2 ks 26 7 x) ka kl kr ∧ hp2.length = hp.length ∧ ∀ r, r ≠ 26 → hp2[r]? = hp[r]? := by
  have h0 := cv26 h
  have hl := (List.getElem?_eq_some_iff.mp h0).1
  refine ⟨hp.set 26 (.inr (2, [.ref 27, .ref 28, .ref 29, .ref 30, .int (up2 ks 26 7 x 26 4), .int (up2 ks 26 7 x 26 5), .int (up2 ks 26 7 x 26 6), .int (up2 ks 26 7 x 26 7), .int (up2 ks 26 7 x 26 8), .int (up2 ks 26 7 x 26 9)])), ?_, fun r hr => ?_, by simp, fun r hr => by rw [List.getElem?_set_ne (Ne.symm hr)]⟩
  · unfold kp_put; rw [h0]; rfl
  · by_cases e : r = 26
    · subst e; rw [List.getElem?_set_self hl]; rfl
    · rw [List.getElem?_set_ne (Ne.symm e), h r hr]
      exact CV_other (by omega) e
theorem c26_g8 (h : CV hp ks ka kl kr) : kp_gI hp 26 [2] 8 = some (ks 26 8) := by
  unfold kp_gI; rw [cv26 h]; rfl
theorem c26_p8 (h : CV hp ks ka kl kr) (x : Int32) : ∃ hp2, kp_put hp 26 [2] 8 (.int x) = some hp2 ∧ CV hp2 (up2 ks 26 8 x) ka kl kr ∧ hp2.length = hp.length ∧ ∀ r, r ≠ 26 → hp2[r]? = hp[r]? := by
  have h0 := cv26 h
  have hl := (List.getElem?_eq_some_iff.mp h0).1
  refine ⟨hp.set 26 (.inr (2, [.ref 27, .ref 28, .ref 29, .ref 30, .int (up2 ks 26 8 x 26 4), .int (up2 ks 26 8 x 26 5), .int (up2 ks 26 8 x 26 6), .int (up2 ks 26 8 x 26 7), .int (up2 ks 26 8 x 26 8), .int (up2 ks 26 8 x 26 9)])), ?_, fun r hr => ?_, by simp, fun r hr => by rw [List.getElem?_set_ne (Ne.symm hr)]⟩
  · unfold kp_put; rw [h0]; rfl
  · by_cases e : r = 26
    · subst e; rw [List.getElem?_set_self hl]; rfl
    · rw [List.getElem?_set_ne (Ne.symm e), h r hr]
      exact CV_other (by omega) e
theorem c26_g9 (h : CV hp ks ka kl kr) : kp_gI hp 26 [2] 9 = some (ks 26 9) := by
  unfold kp_gI; rw [cv26 h]; rfl
theorem c26_p9 (h : CV hp ks ka kl kr) (x : Int32) : ∃ hp2, kp_put hp 26 [2] 9 (.int x) = some hp2 ∧ CV hp2 (up2 ks 26 9 x) ka kl kr ∧ hp2.length = hp.length ∧ ∀ r, r ≠ 26 → hp2[r]? = hp[r]? := by
  have h0 := cv26 h
  have hl := (List.getElem?_eq_some_iff.mp h0).1
  refine ⟨hp.set 26 (.inr (2, [.ref 27, .ref 28, .ref 29, .ref 30, .int (up2 ks 26 9 x 26 4), .int (up2 ks 26 9 x 26 5), .int (up2 ks 26 9 x 26 6), .int (up2 ks 26 9 x 26 7), .int (up2 ks 26 9 x 26 8), .int (up2 ks 26 9 x 26 9)])), ?_, fun r hr => ?_, by simp, fun r hr => by rw [List.getElem?_set_ne (Ne.symm hr)]⟩
  · unfold kp_put; rw [h0]; rfl
  · by_cases e : r = 26
    · subst e; rw [List.getElem?_set_self hl]; rfl
    · rw [List.getElem?_set_ne (Ne.symm e), h r hr]
      exact CV_other (by omega) e
theorem c27_ld (h : CV hp ks ka kl kr) {j : Nat} (hj : j < 8) : kp_ldI hp 27 (nI j) = some (ka 27 j) := ld_at (cv27 h) (by decide) hj
theorem c27_st (h : CV hp ks ka kl kr) {j : Nat} (hj : j < 8) (x : Int32) : ∃ hp2, kp_stI hp 27 (nI j) x = some hp2 ∧ CV hp2 ks (va_up ka 27 (upd (ka 27) j x)) kl kr ∧ hp2.length = hp.length ∧ ∀ r, r ≠ 27 → hp2[r]? = hp[r]? := by
  have h0 := cv27 h
  have hl := (List.getElem?_eq_some_iff.mp h0).1
  refine ⟨hp.set 27 (.inl (0, 8, .inl (upd (ka 27) j x))), st_at h0 (by decide) hj x, fun r hr => ?_, by simp, fun r hr => by rw [List.getElem?_set_ne (Ne.symm hr)]⟩
  by_cases e : r = 27
  · subst e; rw [List.getElem?_set_self hl]; rfl
  · rw [List.getElem?_set_ne (Ne.symm e), h r hr]
    exact CV_otherA (by omega) e
theorem c28_ld (h : CV hp ks ka kl kr) {j : Nat} (hj : j < 8) : kp_ldI hp 28 (nI j) = some (ka 28 j) := ld_at (cv28 h) (by decide) hj
theorem c28_st (h : CV hp ks ka kl kr) {j : Nat} (hj : j < 8) (x : Int32) : ∃ hp2, kp_stI hp 28 (nI j) x = some hp2 ∧ CV hp2 ks (va_up ka 28 (upd (ka 28) j x)) kl kr ∧ hp2.length = hp.length ∧ ∀ r, r ≠ 28 → hp2[r]? = hp[r]? := by
  have h0 := cv28 h
  have hl := (List.getElem?_eq_some_iff.mp h0).1
  refine ⟨hp.set 28 (.inl (0, 8, .inl (upd (ka 28) j x))), st_at h0 (by decide) hj x, fun r hr => ?_, by simp, fun r hr => by rw [List.getElem?_set_ne (Ne.symm hr)]⟩
  by_cases e : r = 28
  · subst e; rw [List.getElem?_set_self hl]; rfl
  · rw [List.getElem?_set_ne (Ne.symm e), h r hr]
    exact CV_otherA (by omega) e
theorem c30_ld (h : CV hp ks ka kl kr) {j : Nat} (hj : j < 36) : kp_ldI hp 30 (nI j) = some (ka 30 j) := ld_at (cv30 h) (by decide) hj
theorem c30_st (h : CV hp ks ka kl kr) {j : Nat} (hj : j < 36) (x : Int32) : ∃ hp2, kp_stI hp 30 (nI j) x = some hp2 ∧ CV hp2 ks (va_up ka 30 (upd (ka 30) j x)) kl kr ∧ hp2.length = hp.length ∧ ∀ r, r ≠ 30 → hp2[r]? = hp[r]? := by
  have h0 := cv30 h
  have hl := (List.getElem?_eq_some_iff.mp h0).1
  refine ⟨hp.set 30 (.inl (0, 36, .inl (upd (ka 30) j x))), st_at h0 (by decide) hj x, fun r hr => ?_, by simp, fun r hr => by rw [List.getElem?_set_ne (Ne.symm hr)]⟩
  by_cases e : r = 30
  · subst e; rw [List.getElem?_set_self hl]; rfl
  · rw [List.getElem?_set_ne (Ne.symm e), h r hr]
    exact CV_otherA (by omega) e
theorem c31_ld (h : CV hp ks ka kl kr) {j : Nat} (hj : j < 6) : kp_ldI hp 31 (nI j) = some (ka 31 j) := ld_at (cv31 h) (by decide) hj
theorem c31_st (h : CV hp ks ka kl kr) {j : Nat} (hj : j < 6) (x : Int32) : ∃ hp2, kp_stI hp 31 (nI j) x = some hp2 ∧ CV hp2 ks (va_up ka 31 (upd (ka 31) j x)) kl kr ∧ hp2.length = hp.length ∧ ∀ r, r ≠ 31 → hp2[r]? = hp[r]? := by
  have h0 := cv31 h
  have hl := (List.getElem?_eq_some_iff.mp h0).1
  refine ⟨hp.set 31 (.inl (0, 6, .inl (upd (ka 31) j x))), st_at h0 (by decide) hj x, fun r hr => ?_, by simp, fun r hr => by rw [List.getElem?_set_ne (Ne.symm hr)]⟩
  by_cases e : r = 31
  · subst e; rw [List.getElem?_set_self hl]; rfl
  · rw [List.getElem?_set_ne (Ne.symm e), h r hr]
    exact CV_otherA (by omega) e
theorem c34_ob (h : CV hp ks ka kl kr) : kp_ob hp 34 9 = some () := by
  unfold kp_ob; rw [cv34 h]; rfl
theorem c34_r0 (h : CV hp ks ka kl kr) : kp_gR hp 34 [9] 0 = some 35 := by
  unfold kp_gR; rw [cv34 h]; rfl
theorem c34_g1 (h : CV hp ks ka kl kr) : kp_gI hp 34 [9] 1 = some (ks 34 1) := by
  unfold kp_gI; rw [cv34 h]; rfl
theorem c34_p1 (h : CV hp ks ka kl kr) (x : Int32) : ∃ hp2, kp_put hp 34 [9] 1 (.int x) = some hp2 ∧ CV hp2 (up2 ks 34 1 x) ka kl kr ∧ hp2.length = hp.length ∧ ∀ r, r ≠ 34 → hp2[r]? = hp[r]? := by
  have h0 := cv34 h
  have hl := (List.getElem?_eq_some_iff.mp h0).1
  refine ⟨hp.set 34 (.inr (9, [.ref 35, .int (up2 ks 34 1 x 34 1)])), ?_, fun r hr => ?_, by simp, fun r hr => by rw [List.getElem?_set_ne (Ne.symm hr)]⟩
  · unfold kp_put; rw [h0]; rfl
  · by_cases e : r = 34
    · subst e; rw [List.getElem?_set_self hl]; rfl
    · rw [List.getElem?_set_ne (Ne.symm e), h r hr]
      exact CV_other (by omega) e
theorem c35_ld (h : CV hp ks ka kl kr) {j : Nat} (hj : j < 16) : kp_ldI hp 35 (nI j) = some (ka 35 j) := ld_at (cv35 h) (by decide) hj
theorem c35_st (h : CV hp ks ka kl kr) {j : Nat} (hj : j < 16) (x : Int32) : ∃ hp2, kp_stI hp 35 (nI j) x = some hp2 ∧ CV hp2 ks (va_up ka 35 (upd (ka 35) j x)) kl kr ∧ hp2.length = hp.length ∧ ∀ r, r ≠ 35 → hp2[r]? = hp[r]? := by
  have h0 := cv35 h
  have hl := (List.getElem?_eq_some_iff.mp h0).1
  refine ⟨hp.set 35 (.inl (0, 16, .inl (upd (ka 35) j x))), st_at h0 (by decide) hj x, fun r hr => ?_, by simp, fun r hr => by rw [List.getElem?_set_ne (Ne.symm hr)]⟩
  by_cases e : r = 35
  · subst e; rw [List.getElem?_set_self hl]; rfl
  · rw [List.getElem?_set_ne (Ne.symm e), h r hr]
    exact CV_otherA (by omega) e
end CView
