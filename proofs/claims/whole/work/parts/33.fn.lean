/-! KitchenWheels$Law.ownKind()I -/
def X3_ownKind_F (hp : kw_H) (x0 : Nat) : Option (Int32) :=
  some (nI 4)
set_option maxRecDepth 100000 in
set_option maxHeartbeats 4000000 in
theorem X3_ownKind_c (G : kw_G) (hp : kw_H) (x0 : Nat) (r : Int32) (h : X3_ownKind_F hp x0 = some r) : kw_Met G mX3_ownKind [.ref x0] hp (fun v h2 => v = some (.int r) ∧ h2 = hp) := by
  refine kw_met (L := [some (.ref x0)]) (r := 0) (by decide +kernel) (Nat.le_of_ble_eq_true rfl) rfl ?_
  unfold X3_ownKind_F at h
  obtain ⟨Q, hQ⟩ : ∃ Q : Option Value → kw_H → Prop, Q = (fun v h2 => v = some (.int r) ∧ h2 = hp) := ⟨_, rfl⟩
  have hK : Q (some (.int r)) hp := by rw [hQ]; exact ⟨rfl, rfl⟩
  rw [← hQ]
  clear hQ
  refine kw_iconst (v := nI 4) dX3_ownKind_0 (by decide) ?_
  have h := Option.some.inj h
  subst h
  exact kw_iret rfl dX3_ownKind_1 hK
/-! KitchenWheels$Turner.size(LKitchenWheels$Trace;II)I -/
def X10_size_F (hp : kw_H) (x0 : Nat) (x1 : Nat) (x2 : Int32) (x3 : Int32) : Option (Int32 × kw_H) :=
  ((kp_ob hp x1 9).bind fun _ => X9_add_F hp x1 (nI 10)).bind fun r1 =>
  (kp_gI r1 x0 [0, 3, 4, 5, 7] 1).bind fun v2 =>
  some ((v2, r1))
set_option maxRecDepth 100000 in
set_option maxHeartbeats 4000000 in
theorem X10_size_c (G : kw_G) (hp : kw_H) (x0 : Nat) (x1 : Nat) (x2 : Int32) (x3 : Int32) (r : Int32 × kw_H) (h : X10_size_F hp x0 x1 x2 x3 = some r) : kw_Met G mX10_size [.ref x0, .ref x1, .int x2, .int x3] hp (fun v h2 => v = some (.int r.1) ∧ h2 = r.2) := by
  refine kw_met (L := [some (.ref x0), some (.ref x1), some (.int x2), some (.int x3)]) (r := 0) (by decide +kernel) (Nat.le_of_ble_eq_true rfl) rfl ?_
  unfold X10_size_F at h
  obtain ⟨Q, hQ⟩ : ∃ Q : Option Value → kw_H → Prop, Q = (fun v h2 => v = some (.int r.1) ∧ h2 = r.2) := ⟨_, rfl⟩
  have hK : Q (some (.int r.1)) r.2 := by rw [hQ]; exact ⟨rfl, rfl⟩
  rw [← hQ]
  clear hQ
  refine kw_aload_n dX10_size_0 rfl ?_
  refine kw_bipush (v := nI 10) dX10_size_1 (by decide) ?_
  obtain ⟨r1, er1, h⟩ := Option.bind_eq_some_iff.mp h
  obtain ⟨ur1, eur1, er1⟩ := Option.bind_eq_some_iff.mp er1
  obtain ⟨fsr1, hor1⟩ := kp_ob_inv eur1
  refine kw_callV (As := [.int (nI 10)]) (S := []) kcX9 cbX10_size_X9_add lkX10_33 imX9_add seX9_X9_add_X9_add rfl rfl (Nat.le_of_ble_eq_true rfl) dX10_size_3 hor1 (X9_add_c G hp x1 (nI 10) _ er1) (fun vv hh hq => ?_)
  rw [hq.1, hq.2]
  show kw_V G mX10_size 6 [some (.ref x0), some (.ref x1), some (.int x2), some (.int x3)] [] r1 Q
  refine kw_aload_n dX10_size_6 rfl ?_
  obtain ⟨v2, ev2, h⟩ := Option.bind_eq_some_iff.mp h
  refine kv_gI gfX10_13 dX10_size_7 ev2 ?_
  have h := Option.some.inj h
  subst h
  exact kw_iret rfl dX10_size_10 hK
/-! KitchenWheels$Law.size(LKitchenWheels$Trace;II)I -/
def X3_size_S10_f (hp : kw_H) (o : Nat) (y0 : Nat) (y1 : Int32) (y2 : Int32) : Option (Int32 × kw_H) :=
  (kp_ci hp o).bind fun ci => if ci ∈ [3, 5] then X10_size_F hp o y0 y1 y2 else none
set_option maxRecDepth 100000 in
set_option maxHeartbeats 4000000 in
theorem X3_size_S10_v (G : kw_G) (Q : Option Value → kw_H → Prop) (L : List (Option Value)) (hp : kw_H) (o : Nat) (y0 : Nat) (y1 : Int32) (y2 : Int32) (r : Int32 × kw_H) {S : List Value} (hr : (S.map fun v => v.category).sum ≤ 8) (h : X3_size_S10_f hp o y0 y1 y2 = some r) (kk : kw_V G mX3_size 13 L (.int r.1 :: S) r.2 Q) : kw_V G mX3_size 10 L (.int y2 :: .int y1 :: .ref y0 :: .ref o :: S) hp Q := by
  unfold X3_size_S10_f at h
  obtain ⟨ci, e1, h⟩ := Option.bind_eq_some_iff.mp h
  obtain ⟨fs, ho⟩ := kp_ci_inv e1
  by_cases hc : ci ∈ [3, 5]
  · have h := (if_pos hc).symm.trans h
    simp only [List.mem_cons, List.not_mem_nil, or_false] at hc
    rcases hc with rfl | rfl
    · exact kw_callSU (As := [.ref y0, .int y1, .int y2]) (S := S) kcX3 cbX3_size_X10_size lkX3_19 smX10_size suX3_X10 imX10_size (by decide) rfl rfl hr dX3_size_10 ho (X10_size_c G hp o y0 y1 y2 _ h) (fun vv hh hq => by obtain ⟨rfl, rfl⟩ := hq; exact kk)
    · exact kw_callSU (As := [.ref y0, .int y1, .int y2]) (S := S) kcX5 cbX3_size_X10_size lkX3_19 smX10_size suX3_X10 imX10_size (by decide) rfl rfl hr dX3_size_10 ho (X10_size_c G hp o y0 y1 y2 _ h) (fun vv hh hq => by obtain ⟨rfl, rfl⟩ := hq; exact kk)
  · have h := (if_neg hc).symm.trans h
    cases h
def X3_size_F (hp : kw_H) (x0 : Nat) (x1 : Nat) (x2 : Int32) (x3 : Int32) : Option (Int32 × kw_H) :=
  ((kp_ob hp x1 9).bind fun _ => X9_add_F hp x1 (nI 13)).bind fun r1 =>
  (X3_size_S10_f r1 x0 x1 x2 x3).bind fun r2 =>
  some ((r2.1 - (nI 100), r2.2))
set_option maxRecDepth 100000 in
set_option maxHeartbeats 4000000 in
theorem X3_size_c (G : kw_G) (hp : kw_H) (x0 : Nat) (x1 : Nat) (x2 : Int32) (x3 : Int32) (r : Int32 × kw_H) (h : X3_size_F hp x0 x1 x2 x3 = some r) : kw_Met G mX3_size [.ref x0, .ref x1, .int x2, .int x3] hp (fun v h2 => v = some (.int r.1) ∧ h2 = r.2) := by
  refine kw_met (L := [some (.ref x0), some (.ref x1), some (.int x2), some (.int x3)]) (r := 0) (by decide +kernel) (Nat.le_of_ble_eq_true rfl) rfl ?_
  unfold X3_size_F at h
  obtain ⟨Q, hQ⟩ : ∃ Q : Option Value → kw_H → Prop, Q = (fun v h2 => v = some (.int r.1) ∧ h2 = r.2) := ⟨_, rfl⟩
  have hK : Q (some (.int r.1)) r.2 := by rw [hQ]; exact ⟨rfl, rfl⟩
  rw [← hQ]
  clear hQ
  refine kw_aload_n dX3_size_0 rfl ?_
  refine kw_bipush (v := nI 13) dX3_size_1 (by decide) ?_
  obtain ⟨r1, er1, h⟩ := Option.bind_eq_some_iff.mp h
  obtain ⟨ur1, eur1, er1⟩ := Option.bind_eq_some_iff.mp er1
  obtain ⟨fsr1, hor1⟩ := kp_ob_inv eur1
  refine kw_callV (As := [.int (nI 13)]) (S := []) kcX9 cbX3_size_X9_add lkX3_13 imX9_add seX9_X9_add_X9_add rfl rfl (Nat.le_of_ble_eq_true rfl) dX3_size_3 hor1 (X9_add_c G hp x1 (nI 13) _ er1) (fun vv hh hq => ?_)
  rw [hq.1, hq.2]
  show kw_V G mX3_size 6 [some (.ref x0), some (.ref x1), some (.int x2), some (.int x3)] [] r1 Q
  refine kw_aload_n dX3_size_6 rfl ?_
  refine kw_aload_n dX3_size_7 rfl ?_
  refine kw_iload_n dX3_size_8 rfl ?_
  refine kw_iload_n dX3_size_9 rfl ?_
  obtain ⟨r2, er2, h⟩ := Option.bind_eq_some_iff.mp h
  refine X3_size_S10_v G Q [some (.ref x0), some (.ref x1), some (.int x2), some (.int x3)] r1 x0 x1 x2 x3 _ (Nat.le_of_ble_eq_true rfl) er2 (S := []) ?_
  show kw_V G mX3_size 13 [some (.ref x0), some (.ref x1), some (.int x2), some (.int x3)] [.int r2.1] r2.2 Q
  refine kw_bipush (v := nI 100) dX3_size_13 (by decide) ?_
  refine kw_isub dX3_size_15 ?_
  have h := Option.some.inj h
  subst h
  exact kw_iret rfl dX3_size_16 hK
/-! KitchenWheels$Righter.size(LKitchenWheels$Trace;II)I -/
def X5_size_S11_f (hp : kw_H) (o : Nat) (y0 : Nat) (y1 : Int32) (y2 : Int32) : Option (Int32 × kw_H) :=
  (kp_ci hp o).bind fun ci => if ci ∈ [5] then X3_size_F hp o y0 y1 y2 else none
set_option maxRecDepth 100000 in
set_option maxHeartbeats 4000000 in
theorem X5_size_S11_v (G : kw_G) (Q : Option Value → kw_H → Prop) (L : List (Option Value)) (hp : kw_H) (o : Nat) (y0 : Nat) (y1 : Int32) (y2 : Int32) (r : Int32 × kw_H) {S : List Value} (hr : (S.map fun v => v.category).sum ≤ 8) (h : X5_size_S11_f hp o y0 y1 y2 = some r) (kk : kw_V G mX5_size 14 L (.int r.1 :: S) r.2 Q) : kw_V G mX5_size 11 L (.int y2 :: .int y1 :: .ref y0 :: .ref o :: S) hp Q := by
  unfold X5_size_S11_f at h
  obtain ⟨ci, e1, h⟩ := Option.bind_eq_some_iff.mp h
  obtain ⟨fs, ho⟩ := kp_ci_inv e1
  by_cases hc : ci ∈ [5]
  · have h := (if_pos hc).symm.trans h
    simp only [List.mem_cons, List.not_mem_nil, or_false] at hc
    subst hc
    exact kw_callSU (As := [.ref y0, .int y1, .int y2]) (S := S) kcX5 cbX5_size_X3_size lkX5_23 smX3_size suX5_X3 imX3_size (by decide) rfl rfl hr dX5_size_11 ho (X3_size_c G hp o y0 y1 y2 _ h) (fun vv hh hq => by obtain ⟨rfl, rfl⟩ := hq; exact kk)
  · have h := (if_neg hc).symm.trans h
    cases h
def X5_size_F (hp : kw_H) (x0 : Nat) (x1 : Nat) (x2 : Int32) (x3 : Int32) : Option (Int32 × kw_H) :=
  ((kp_ob hp x1 9).bind fun _ => X9_add_F hp x1 (nI 14)).bind fun r1 =>
  (X5_size_S11_f r1 x0 x1 x2 x3).bind fun r2 =>
  some (((nI 2) * r2.1, r2.2))
set_option maxRecDepth 100000 in
set_option maxHeartbeats 4000000 in
theorem X5_size_c (G : kw_G) (hp : kw_H) (x0 : Nat) (x1 : Nat) (x2 : Int32) (x3 : Int32) (r : Int32 × kw_H) (h : X5_size_F hp x0 x1 x2 x3 = some r) : kw_Met G mX5_size [.ref x0, .ref x1, .int x2, .int x3] hp (fun v h2 => v = some (.int r.1) ∧ h2 = r.2) := by
  refine kw_met (L := [some (.ref x0), some (.ref x1), some (.int x2), some (.int x3)]) (r := 0) (by decide +kernel) (Nat.le_of_ble_eq_true rfl) rfl ?_
  unfold X5_size_F at h
  obtain ⟨Q, hQ⟩ : ∃ Q : Option Value → kw_H → Prop, Q = (fun v h2 => v = some (.int r.1) ∧ h2 = r.2) := ⟨_, rfl⟩
  have hK : Q (some (.int r.1)) r.2 := by rw [hQ]; exact ⟨rfl, rfl⟩
  rw [← hQ]
  clear hQ
  refine kw_aload_n dX5_size_0 rfl ?_
  refine kw_bipush (v := nI 14) dX5_size_1 (by decide) ?_
  obtain ⟨r1, er1, h⟩ := Option.bind_eq_some_iff.mp h
  obtain ⟨ur1, eur1, er1⟩ := Option.bind_eq_some_iff.mp er1
  obtain ⟨fsr1, hor1⟩ := kp_ob_inv eur1
  refine kw_callV (As := [.int (nI 14)]) (S := []) kcX9 cbX5_size_X9_add lkX5_17 imX9_add seX9_X9_add_X9_add rfl rfl (Nat.le_of_ble_eq_true rfl) dX5_size_3 hor1 (X9_add_c G hp x1 (nI 14) _ er1) (fun vv hh hq => ?_)
  rw [hq.1, hq.2]
  show kw_V G mX5_size 6 [some (.ref x0), some (.ref x1), some (.int x2), some (.int x3)] [] r1 Q
  refine kw_iconst (v := nI 2) dX5_size_6 (by decide) ?_
  refine kw_aload_n dX5_size_7 rfl ?_
  refine kw_aload_n dX5_size_8 rfl ?_
  refine kw_iload_n dX5_size_9 rfl ?_
  refine kw_iload_n dX5_size_10 rfl ?_
  obtain ⟨r2, er2, h⟩ := Option.bind_eq_some_iff.mp h
  refine X5_size_S11_v G Q [some (.ref x0), some (.ref x1), some (.int x2), some (.int x3)] r1 x0 x1 x2 x3 _ (Nat.le_of_ble_eq_true rfl) er2 (S := [.int (nI 2)]) ?_
  show kw_V G mX5_size 14 [some (.ref x0), some (.ref x1), some (.int x2), some (.int x3)] [.int r2.1, .int (nI 2)] r2.2 Q
  refine kw_imul dX5_size_14 ?_
  have h := Option.some.inj h
  subst h
  exact kw_iret rfl dX5_size_15 hK
/-! KitchenWheels$Law.mark(LKitchenWheels$Trace;II)I -/
def X3_mark_S10_f (hp : kw_H) (o : Nat) (y0 : Nat) (y1 : Int32) (y2 : Int32) : Option (Int32 × kw_H) :=
  (kp_ci hp o).bind fun ci => if ci ∈ [3, 5] then X10_mark_F hp o y0 y1 y2 else none
set_option maxRecDepth 100000 in
set_option maxHeartbeats 4000000 in
theorem X3_mark_S10_v (G : kw_G) (Q : Option Value → kw_H → Prop) (L : List (Option Value)) (hp : kw_H) (o : Nat) (y0 : Nat) (y1 : Int32) (y2 : Int32) (r : Int32 × kw_H) {S : List Value} (hr : (S.map fun v => v.category).sum ≤ 8) (h : X3_mark_S10_f hp o y0 y1 y2 = some r) (kk : kw_V G mX3_mark 13 L (.int r.1 :: S) r.2 Q) : kw_V G mX3_mark 10 L (.int y2 :: .int y1 :: .ref y0 :: .ref o :: S) hp Q := by
  unfold X3_mark_S10_f at h
  obtain ⟨ci, e1, h⟩ := Option.bind_eq_some_iff.mp h
  obtain ⟨fs, ho⟩ := kp_ci_inv e1
  by_cases hc : ci ∈ [3, 5]
  · have h := (if_pos hc).symm.trans h
    simp only [List.mem_cons, List.not_mem_nil, or_false] at hc
    rcases hc with rfl | rfl
    · exact kw_callSU (As := [.ref y0, .int y1, .int y2]) (S := S) kcX3 cbX3_mark_X10_mark lkX3_23 smX10_mark suX3_X10 imX10_mark (by decide) rfl rfl hr dX3_mark_10 ho (X10_mark_c G hp o y0 y1 y2 _ h) (fun vv hh hq => by obtain ⟨rfl, rfl⟩ := hq; exact kk)
    · exact kw_callSU (As := [.ref y0, .int y1, .int y2]) (S := S) kcX5 cbX3_mark_X10_mark lkX3_23 smX10_mark suX3_X10 imX10_mark (by decide) rfl rfl hr dX3_mark_10 ho (X10_mark_c G hp o y0 y1 y2 _ h) (fun vv hh hq => by obtain ⟨rfl, rfl⟩ := hq; exact kk)
  · have h := (if_neg hc).symm.trans h
    cases h
def X3_mark_D29_f (hp : kw_H) (o : Nat) (y0 : Nat) (y1 : Int32) (y2 : Int32) : Option (Int32 × kw_H) :=
  (kp_ci hp o).bind fun ci =>
  if ci = 3 then X3_size_F hp o y0 y1 y2 else if ci = 5 then X5_size_F hp o y0 y1 y2 else none
set_option maxRecDepth 100000 in
set_option maxHeartbeats 4000000 in
theorem X3_mark_D29_v (G : kw_G) (Q : Option Value → kw_H → Prop) (L : List (Option Value)) (hp : kw_H) (o : Nat) (y0 : Nat) (y1 : Int32) (y2 : Int32) (r : Int32 × kw_H) {S : List Value} (hr : (S.map fun v => v.category).sum ≤ 8) (h : X3_mark_D29_f hp o y0 y1 y2 = some r) (kk : kw_V G mX3_mark 32 L (.int r.1 :: S) r.2 Q) : kw_V G mX3_mark 29 L (.int y2 :: .int y1 :: .ref y0 :: .ref o :: S) hp Q := by
  unfold X3_mark_D29_f at h
  obtain ⟨ci, e1, h⟩ := Option.bind_eq_some_iff.mp h
  obtain ⟨fs, ho⟩ := kp_ci_inv e1
  by_cases c3 : ci = 3
  · have h := (if_pos c3).symm.trans h
    subst c3
    exact kw_callU (x := yX3_size) (owner := "KitchenWheels$Law") (As := [.ref y0, .int y1, .int y2]) (S := S) kcX3 cbX3_mark_X3_size lkX3_26 sMX3_26 (Or.inr ⟨imX3_size, _, _, _, cdX3_size⟩) ⟨by decide, by decide, by decide +kernel⟩ imX3_size seX3_X3_size_X3_size rfl rfl hr dX3_mark_29 ho (X3_size_c G hp o y0 y1 y2 _ h) (fun vv hh hq => by obtain ⟨rfl, rfl⟩ := hq; exact kk)
  · have h := (if_neg c3).symm.trans h
    by_cases c5 : ci = 5
    · have h := (if_pos c5).symm.trans h
      subst c5
      exact kw_callU (x := yX3_size) (owner := "KitchenWheels$Law") (As := [.ref y0, .int y1, .int y2]) (S := S) kcX5 cbX3_mark_X5_size lkX3_26 sMX3_26 (Or.inr ⟨imX3_size, _, _, _, cdX3_size⟩) ⟨by decide, by decide, by decide +kernel⟩ imX5_size seX5_X3_size_X5_size rfl rfl hr dX3_mark_29 ho (X5_size_c G hp o y0 y1 y2 _ h) (fun vv hh hq => by obtain ⟨rfl, rfl⟩ := hq; exact kk)
    · have h := (if_neg c5).symm.trans h
      cases h
def X3_mark_F (hp : kw_H) (x0 : Nat) (x1 : Nat) (x2 : Int32) (x3 : Int32) : Option (Int32 × kw_H) :=
  ((kp_ob hp x1 9).bind fun _ => X9_add_F hp x1 (nI 23)).bind fun r1 =>
  (X3_mark_S10_f r1 x0 x1 x2 x3).bind fun r2 =>
  (if (nI 8) ≤ x3 then
  some ((r2.1, r2.2))
else
  (X3_mark_D29_f r2.2 x0 x1 x2 (x3 + (nI 1))).bind fun r3 =>
  some ((r2.1 - r3.1, r3.2)))
set_option maxRecDepth 100000 in
set_option maxHeartbeats 4000000 in
theorem X3_mark_c (G : kw_G) (hp : kw_H) (x0 : Nat) (x1 : Nat) (x2 : Int32) (x3 : Int32) (r : Int32 × kw_H) (h : X3_mark_F hp x0 x1 x2 x3 = some r) : kw_Met G mX3_mark [.ref x0, .ref x1, .int x2, .int x3] hp (fun v h2 => v = some (.int r.1) ∧ h2 = r.2) := by
  refine kw_met (L := [some (.ref x0), some (.ref x1), some (.int x2), some (.int x3), none]) (r := 1) (by decide +kernel) (Nat.le_of_ble_eq_true rfl) rfl ?_
  unfold X3_mark_F at h
  obtain ⟨Q, hQ⟩ : ∃ Q : Option Value → kw_H → Prop, Q = (fun v h2 => v = some (.int r.1) ∧ h2 = r.2) := ⟨_, rfl⟩
  have hK : Q (some (.int r.1)) r.2 := by rw [hQ]; exact ⟨rfl, rfl⟩
  rw [← hQ]
  clear hQ
  refine kw_aload_n dX3_mark_0 rfl ?_
  refine kw_bipush (v := nI 23) dX3_mark_1 (by decide) ?_
  obtain ⟨r1, er1, h⟩ := Option.bind_eq_some_iff.mp h
  obtain ⟨ur1, eur1, er1⟩ := Option.bind_eq_some_iff.mp er1
  obtain ⟨fsr1, hor1⟩ := kp_ob_inv eur1
  refine kw_callV (As := [.int (nI 23)]) (S := []) kcX9 cbX3_mark_X9_add lkX3_13 imX9_add seX9_X9_add_X9_add rfl rfl (Nat.le_of_ble_eq_true rfl) dX3_mark_3 hor1 (X9_add_c G hp x1 (nI 23) _ er1) (fun vv hh hq => ?_)
  rw [hq.1, hq.2]
  show kw_V G mX3_mark 6 [some (.ref x0), some (.ref x1), some (.int x2), some (.int x3), none] [] r1 Q
  refine kw_aload_n dX3_mark_6 rfl ?_
  refine kw_aload_n dX3_mark_7 rfl ?_
  refine kw_iload_n dX3_mark_8 rfl ?_
  refine kw_iload_n dX3_mark_9 rfl ?_
  obtain ⟨r2, er2, h⟩ := Option.bind_eq_some_iff.mp h
  refine X3_mark_S10_v G Q [some (.ref x0), some (.ref x1), some (.int x2), some (.int x3), none] r1 x0 x1 x2 x3 _ (Nat.le_of_ble_eq_true rfl) er2 (S := []) ?_
  show kw_V G mX3_mark 13 [some (.ref x0), some (.ref x1), some (.int x2), some (.int x3), none] [.int r2.1] r2.2 Q
  refine kw_istore (L' := [some (.ref x0), some (.ref x1), some (.int x2), some (.int x3), some (.int r2.1)]) dX3_mark_13 (by decide) rfl ?_
  refine kw_iload_n dX3_mark_15 rfl ?_
  refine kw_bipush (v := nI 8) dX3_mark_16 (by decide) ?_
  refine kw_icmp_ge 36 dX3_mark_18 (by decide) (fun c4 => ?_) (fun c4 => ?_)
  · have h := (if_pos c4).symm.trans h
    refine kw_iload dX3_mark_36 rfl ?_
    have h := Option.some.inj h
    subst h
    exact kw_iret rfl dX3_mark_38 hK
  · have h := (if_neg c4).symm.trans h
    refine kw_iload dX3_mark_21 rfl ?_
    refine kw_aload_n dX3_mark_23 rfl ?_
    refine kw_aload_n dX3_mark_24 rfl ?_
    refine kw_iload_n dX3_mark_25 rfl ?_
    refine kw_iload_n dX3_mark_26 rfl ?_
    refine kw_iconst (v := nI 1) dX3_mark_27 (by decide) ?_
    refine kw_iadd dX3_mark_28 ?_
    obtain ⟨r3, er3, h⟩ := Option.bind_eq_some_iff.mp h
    refine X3_mark_D29_v G Q [some (.ref x0), some (.ref x1), some (.int x2), some (.int x3), some (.int r2.1)] r2.2 x0 x1 x2 (x3 + (nI 1)) _ (Nat.le_of_ble_eq_true rfl) er3 (S := [.int r2.1]) ?_
    show kw_V G mX3_mark 32 [some (.ref x0), some (.ref x1), some (.int x2), some (.int x3), some (.int r2.1)] [.int r3.1, .int r2.1] r3.2 Q
    refine kw_isub dX3_mark_32 ?_
    refine kw_goto 38 dX3_mark_33 (by decide) ?_
    have h := Option.some.inj h
    subst h
    exact kw_iret rfl dX3_mark_38 hK
/-! KitchenWheels$One.ownKind()I -/
def X4_ownKind_F (hp : kw_H) (x0 : Nat) : Option (Int32) :=
  some (nI 1)
set_option maxRecDepth 100000 in
set_option maxHeartbeats 4000000 in
theorem X4_ownKind_c (G : kw_G) (hp : kw_H) (x0 : Nat) (r : Int32) (h : X4_ownKind_F hp x0 = some r) : kw_Met G mX4_ownKind [.ref x0] hp (fun v h2 => v = some (.int r) ∧ h2 = hp) := by
  refine kw_met (L := [some (.ref x0)]) (r := 0) (by decide +kernel) (Nat.le_of_ble_eq_true rfl) rfl ?_
  unfold X4_ownKind_F at h
  obtain ⟨Q, hQ⟩ : ∃ Q : Option Value → kw_H → Prop, Q = (fun v h2 => v = some (.int r) ∧ h2 = hp) := ⟨_, rfl⟩
  have hK : Q (some (.int r)) hp := by rw [hQ]; exact ⟨rfl, rfl⟩
  rw [← hQ]
  clear hQ
  refine kw_iconst (v := nI 1) dX4_ownKind_0 (by decide) ?_
  have h := Option.some.inj h
  subst h
  exact kw_iret rfl dX4_ownKind_1 hK
/-! KitchenWheels$Step.mark(LKitchenWheels$Trace;II)I -/
def X7_mark_S11_f (hp : kw_H) (o : Nat) (y0 : Nat) (y1 : Int32) (y2 : Int32) : Option (Int32 × kw_H) :=
  (kp_ci hp o).bind fun ci => if ci ∈ [7] then X4_mark_F hp o y0 y1 y2 else none
set_option maxRecDepth 100000 in
set_option maxHeartbeats 4000000 in
theorem X7_mark_S11_v (G : kw_G) (Q : Option Value → kw_H → Prop) (L : List (Option Value)) (hp : kw_H) (o : Nat) (y0 : Nat) (y1 : Int32) (y2 : Int32) (r : Int32 × kw_H) {S : List Value} (hr : (S.map fun v => v.category).sum ≤ 8) (h : X7_mark_S11_f hp o y0 y1 y2 = some r) (kk : kw_V G mX7_mark 14 L (.int r.1 :: S) r.2 Q) : kw_V G mX7_mark 11 L (.int y2 :: .int y1 :: .ref y0 :: .ref o :: S) hp Q := by
  unfold X7_mark_S11_f at h
  obtain ⟨ci, e1, h⟩ := Option.bind_eq_some_iff.mp h
  obtain ⟨fs, ho⟩ := kp_ci_inv e1
  by_cases hc : ci ∈ [7]
  · have h := (if_pos hc).symm.trans h
    simp only [List.mem_cons, List.not_mem_nil, or_false] at hc
    subst hc
    exact kw_callSU (As := [.ref y0, .int y1, .int y2]) (S := S) kcX7 cbX7_mark_X4_mark lkX7_23 smX4_mark suX7_X4 imX4_mark (by decide) rfl rfl hr dX7_mark_11 ho (X4_mark_c G hp o y0 y1 y2 _ h) (fun vv hh hq => by obtain ⟨rfl, rfl⟩ := hq; exact kk)
  · have h := (if_neg hc).symm.trans h
    cases h
def X7_mark_F (hp : kw_H) (x0 : Nat) (x1 : Nat) (x2 : Int32) (x3 : Int32) : Option (Int32 × kw_H) :=
  ((kp_ob hp x1 9).bind fun _ => X9_add_F hp x1 (nI 24)).bind fun r1 =>
  (X7_mark_S11_f r1 x0 x1 x2 x3).bind fun r2 =>
  some (((nI 2) * r2.1, r2.2))
set_option maxRecDepth 100000 in
set_option maxHeartbeats 4000000 in
theorem X7_mark_c (G : kw_G) (hp : kw_H) (x0 : Nat) (x1 : Nat) (x2 : Int32) (x3 : Int32) (r : Int32 × kw_H) (h : X7_mark_F hp x0 x1 x2 x3 = some r) : kw_Met G mX7_mark [.ref x0, .ref x1, .int x2, .int x3] hp (fun v h2 => v = some (.int r.1) ∧ h2 = r.2) := by
  refine kw_met (L := [some (.ref x0), some (.ref x1), some (.int x2), some (.int x3)]) (r := 0) (by decide +kernel) (Nat.le_of_ble_eq_true rfl) rfl ?_
  unfold X7_mark_F at h
  obtain ⟨Q, hQ⟩ : ∃ Q : Option Value → kw_H → Prop, Q = (fun v h2 => v = some (.int r.1) ∧ h2 = r.2) := ⟨_, rfl⟩
  have hK : Q (some (.int r.1)) r.2 := by rw [hQ]; exact ⟨rfl, rfl⟩
  rw [← hQ]
  clear hQ
  refine kw_aload_n dX7_mark_0 rfl ?_
  refine kw_bipush (v := nI 24) dX7_mark_1 (by decide) ?_
  obtain ⟨r1, er1, h⟩ := Option.bind_eq_some_iff.mp h
  obtain ⟨ur1, eur1, er1⟩ := Option.bind_eq_some_iff.mp er1
  obtain ⟨fsr1, hor1⟩ := kp_ob_inv eur1
  refine kw_callV (As := [.int (nI 24)]) (S := []) kcX9 cbX7_mark_X9_add lkX7_13 imX9_add seX9_X9_add_X9_add rfl rfl (Nat.le_of_ble_eq_true rfl) dX7_mark_3 hor1 (X9_add_c G hp x1 (nI 24) _ er1) (fun vv hh hq => ?_)
  rw [hq.1, hq.2]
  show kw_V G mX7_mark 6 [some (.ref x0), some (.ref x1), some (.int x2), some (.int x3)] [] r1 Q
  refine kw_iconst (v := nI 2) dX7_mark_6 (by decide) ?_
  refine kw_aload_n dX7_mark_7 rfl ?_
  refine kw_aload_n dX7_mark_8 rfl ?_
  refine kw_iload_n dX7_mark_9 rfl ?_
  refine kw_iload_n dX7_mark_10 rfl ?_
  obtain ⟨r2, er2, h⟩ := Option.bind_eq_some_iff.mp h
  refine X7_mark_S11_v G Q [some (.ref x0), some (.ref x1), some (.int x2), some (.int x3)] r1 x0 x1 x2 x3 _ (Nat.le_of_ble_eq_true rfl) er2 (S := [.int (nI 2)]) ?_
  show kw_V G mX7_mark 14 [some (.ref x0), some (.ref x1), some (.int x2), some (.int x3)] [.int r2.1, .int (nI 2)] r2.2 Q
  refine kw_imul dX7_mark_14 ?_
  have h := Option.some.inj h
  subst h
  exact kw_iret rfl dX7_mark_15 hK
/-! KitchenWheels$One.size(LKitchenWheels$Trace;II)I -/
def X4_size_S10_f (hp : kw_H) (o : Nat) (y0 : Nat) (y1 : Int32) (y2 : Int32) : Option (Int32 × kw_H) :=
  (kp_ci hp o).bind fun ci => if ci ∈ [0, 4, 7] then X10_size_F hp o y0 y1 y2 else none
set_option maxRecDepth 100000 in
set_option maxHeartbeats 4000000 in
theorem X4_size_S10_v (G : kw_G) (Q : Option Value → kw_H → Prop) (L : List (Option Value)) (hp : kw_H) (o : Nat) (y0 : Nat) (y1 : Int32) (y2 : Int32) (r : Int32 × kw_H) {S : List Value} (hr : (S.map fun v => v.category).sum ≤ 8) (h : X4_size_S10_f hp o y0 y1 y2 = some r) (kk : kw_V G mX4_size 13 L (.int r.1 :: S) r.2 Q) : kw_V G mX4_size 10 L (.int y2 :: .int y1 :: .ref y0 :: .ref o :: S) hp Q := by
  unfold X4_size_S10_f at h
  obtain ⟨ci, e1, h⟩ := Option.bind_eq_some_iff.mp h
  obtain ⟨fs, ho⟩ := kp_ci_inv e1
  by_cases hc : ci ∈ [0, 4, 7]
  · have h := (if_pos hc).symm.trans h
    simp only [List.mem_cons, List.not_mem_nil, or_false] at hc
    rcases hc with rfl | rfl | rfl
    · exact kw_callSU (As := [.ref y0, .int y1, .int y2]) (S := S) kcX0 cbX4_size_X10_size lkX4_13 smX10_size suX4_X10 imX10_size (by decide) rfl rfl hr dX4_size_10 ho (X10_size_c G hp o y0 y1 y2 _ h) (fun vv hh hq => by obtain ⟨rfl, rfl⟩ := hq; exact kk)
    · exact kw_callSU (As := [.ref y0, .int y1, .int y2]) (S := S) kcX4 cbX4_size_X10_size lkX4_13 smX10_size suX4_X10 imX10_size (by decide) rfl rfl hr dX4_size_10 ho (X10_size_c G hp o y0 y1 y2 _ h) (fun vv hh hq => by obtain ⟨rfl, rfl⟩ := hq; exact kk)
    · exact kw_callSU (As := [.ref y0, .int y1, .int y2]) (S := S) kcX7 cbX4_size_X10_size lkX4_13 smX10_size suX4_X10 imX10_size (by decide) rfl rfl hr dX4_size_10 ho (X10_size_c G hp o y0 y1 y2 _ h) (fun vv hh hq => by obtain ⟨rfl, rfl⟩ := hq; exact kk)
  · have h := (if_neg hc).symm.trans h
    cases h
def X4_size_D29_f (hp : kw_H) (o : Nat) (y0 : Nat) (y1 : Int32) (y2 : Int32) : Option (Int32 × kw_H) :=
  (kp_ci hp o).bind fun ci =>
  if ci = 0 then X0_mark_F hp o y0 y1 y2 else if ci = 4 then X4_mark_F hp o y0 y1 y2 else if ci = 7 then X7_mark_F hp o y0 y1 y2 else none
set_option maxRecDepth 100000 in
set_option maxHeartbeats 4000000 in
theorem X4_size_D29_v (G : kw_G) (Q : Option Value → kw_H → Prop) (L : List (Option Value)) (hp : kw_H) (o : Nat) (y0 : Nat) (y1 : Int32) (y2 : Int32) (r : Int32 × kw_H) {S : List Value} (hr : (S.map fun v => v.category).sum ≤ 8) (h : X4_size_D29_f hp o y0 y1 y2 = some r) (kk : kw_V G mX4_size 32 L (.int r.1 :: S) r.2 Q) : kw_V G mX4_size 29 L (.int y2 :: .int y1 :: .ref y0 :: .ref o :: S) hp Q := by
  unfold X4_size_D29_f at h
  obtain ⟨ci, e1, h⟩ := Option.bind_eq_some_iff.mp h
  obtain ⟨fs, ho⟩ := kp_ci_inv e1
  by_cases c0 : ci = 0
  · have h := (if_pos c0).symm.trans h
    subst c0
    exact kw_callU (x := yX4_mark) (owner := "KitchenWheels$One") (As := [.ref y0, .int y1, .int y2]) (S := S) kcX0 cbX4_size_X0_mark lkX4_17 sMX4_17 (Or.inr ⟨imX4_mark, _, _, _, cdX4_mark⟩) ⟨by decide, by decide, by decide +kernel⟩ imX0_mark seX0_X4_mark_X0_mark rfl rfl hr dX4_size_29 ho (X0_mark_c G hp o y0 y1 y2 _ h) (fun vv hh hq => by obtain ⟨rfl, rfl⟩ := hq; exact kk)
  · have h := (if_neg c0).symm.trans h
    by_cases c4 : ci = 4
    · have h := (if_pos c4).symm.trans h
      subst c4
      exact kw_callU (x := yX4_mark) (owner := "KitchenWheels$One") (As := [.ref y0, .int y1, .int y2]) (S := S) kcX4 cbX4_size_X4_mark lkX4_17 sMX4_17 (Or.inr ⟨imX4_mark, _, _, _, cdX4_mark⟩) ⟨by decide, by decide, by decide +kernel⟩ imX4_mark seX4_X4_mark_X4_mark rfl rfl hr dX4_size_29 ho (X4_mark_c G hp o y0 y1 y2 _ h) (fun vv hh hq => by obtain ⟨rfl, rfl⟩ := hq; exact kk)
    · have h := (if_neg c4).symm.trans h
      by_cases c7 : ci = 7
      · have h := (if_pos c7).symm.trans h
        subst c7
        exact kw_callU (x := yX4_mark) (owner := "KitchenWheels$One") (As := [.ref y0, .int y1, .int y2]) (S := S) kcX7 cbX4_size_X7_mark lkX4_17 sMX4_17 (Or.inr ⟨imX4_mark, _, _, _, cdX4_mark⟩) ⟨by decide, by decide, by decide +kernel⟩ imX7_mark seX7_X4_mark_X7_mark rfl rfl hr dX4_size_29 ho (X7_mark_c G hp o y0 y1 y2 _ h) (fun vv hh hq => by obtain ⟨rfl, rfl⟩ := hq; exact kk)
      · have h := (if_neg c7).symm.trans h
        cases h
def X4_size_F (hp : kw_H) (x0 : Nat) (x1 : Nat) (x2 : Int32) (x3 : Int32) : Option (Int32 × kw_H) :=
  ((kp_ob hp x1 9).bind fun _ => X9_add_F hp x1 (nI 11)).bind fun r1 =>
  (X4_size_S10_f r1 x0 x1 x2 x3).bind fun r2 =>
  (if (nI 8) ≤ x3 then
  some ((r2.1, r2.2))
else
  (X4_size_D29_f r2.2 x0 x1 x2 (x3 + (nI 1))).bind fun r3 =>
  some ((r2.1 + r3.1, r3.2)))
set_option maxRecDepth 100000 in
set_option maxHeartbeats 4000000 in
theorem X4_size_c (G : kw_G) (hp : kw_H) (x0 : Nat) (x1 : Nat) (x2 : Int32) (x3 : Int32) (r : Int32 × kw_H) (h : X4_size_F hp x0 x1 x2 x3 = some r) : kw_Met G mX4_size [.ref x0, .ref x1, .int x2, .int x3] hp (fun v h2 => v = some (.int r.1) ∧ h2 = r.2) := by
  refine kw_met (L := [some (.ref x0), some (.ref x1), some (.int x2), some (.int x3), none]) (r := 1) (by decide +kernel) (Nat.le_of_ble_eq_true rfl) rfl ?_
  unfold X4_size_F at h
  obtain ⟨Q, hQ⟩ : ∃ Q : Option Value → kw_H → Prop, Q = (fun v h2 => v = some (.int r.1) ∧ h2 = r.2) := ⟨_, rfl⟩
  have hK : Q (some (.int r.1)) r.2 := by rw [hQ]; exact ⟨rfl, rfl⟩
  rw [← hQ]
  clear hQ
  refine kw_aload_n dX4_size_0 rfl ?_
  refine kw_bipush (v := nI 11) dX4_size_1 (by decide) ?_
  obtain ⟨r1, er1, h⟩ := Option.bind_eq_some_iff.mp h
  obtain ⟨ur1, eur1, er1⟩ := Option.bind_eq_some_iff.mp er1
  obtain ⟨fsr1, hor1⟩ := kp_ob_inv eur1
  refine kw_callV (As := [.int (nI 11)]) (S := []) kcX9 cbX4_size_X9_add lkX4_7 imX9_add seX9_X9_add_X9_add rfl rfl (Nat.le_of_ble_eq_true rfl) dX4_size_3 hor1 (X9_add_c G hp x1 (nI 11) _ er1) (fun vv hh hq => ?_)
  rw [hq.1, hq.2]
  show kw_V G mX4_size 6 [some (.ref x0), some (.ref x1), some (.int x2), some (.int x3), none] [] r1 Q
  refine kw_aload_n dX4_size_6 rfl ?_
  refine kw_aload_n dX4_size_7 rfl ?_
  refine kw_iload_n dX4_size_8 rfl ?_
  refine kw_iload_n dX4_size_9 rfl ?_
  obtain ⟨r2, er2, h⟩ := Option.bind_eq_some_iff.mp h
  refine X4_size_S10_v G Q [some (.ref x0), some (.ref x1), some (.int x2), some (.int x3), none] r1 x0 x1 x2 x3 _ (Nat.le_of_ble_eq_true rfl) er2 (S := []) ?_
  show kw_V G mX4_size 13 [some (.ref x0), some (.ref x1), some (.int x2), some (.int x3), none] [.int r2.1] r2.2 Q
  refine kw_istore (L' := [some (.ref x0), some (.ref x1), some (.int x2), some (.int x3), some (.int r2.1)]) dX4_size_13 (by decide) rfl ?_
  refine kw_iload_n dX4_size_15 rfl ?_
  refine kw_bipush (v := nI 8) dX4_size_16 (by decide) ?_
  refine kw_icmp_ge 36 dX4_size_18 (by decide) (fun c4 => ?_) (fun c4 => ?_)
  · have h := (if_pos c4).symm.trans h
    refine kw_iload dX4_size_36 rfl ?_
    have h := Option.some.inj h
    subst h
    exact kw_iret rfl dX4_size_38 hK
  · have h := (if_neg c4).symm.trans h
    refine kw_iload dX4_size_21 rfl ?_
    refine kw_aload_n dX4_size_23 rfl ?_
    refine kw_aload_n dX4_size_24 rfl ?_
    refine kw_iload_n dX4_size_25 rfl ?_
    refine kw_iload_n dX4_size_26 rfl ?_
    refine kw_iconst (v := nI 1) dX4_size_27 (by decide) ?_
    refine kw_iadd dX4_size_28 ?_
    obtain ⟨r3, er3, h⟩ := Option.bind_eq_some_iff.mp h
    refine X4_size_D29_v G Q [some (.ref x0), some (.ref x1), some (.int x2), some (.int x3), some (.int r2.1)] r2.2 x0 x1 x2 (x3 + (nI 1)) _ (Nat.le_of_ble_eq_true rfl) er3 (S := [.int r2.1]) ?_
    show kw_V G mX4_size 32 [some (.ref x0), some (.ref x1), some (.int x2), some (.int x3), some (.int r2.1)] [.int r3.1, .int r2.1] r3.2 Q
    refine kw_iadd dX4_size_32 ?_
    refine kw_goto 38 dX4_size_33 (by decide) ?_
    have h := Option.some.inj h
    subst h
    exact kw_iret rfl dX4_size_38 hK
/-! KitchenWheels$Righter.ownKind()I -/
def X5_ownKind_F (hp : kw_H) (x0 : Nat) : Option (Int32) :=
  some (nI 5)
set_option maxRecDepth 100000 in
set_option maxHeartbeats 4000000 in
theorem X5_ownKind_c (G : kw_G) (hp : kw_H) (x0 : Nat) (r : Int32) (h : X5_ownKind_F hp x0 = some r) : kw_Met G mX5_ownKind [.ref x0] hp (fun v h2 => v = some (.int r) ∧ h2 = hp) := by
  refine kw_met (L := [some (.ref x0)]) (r := 0) (by decide +kernel) (Nat.le_of_ble_eq_true rfl) rfl ?_
  unfold X5_ownKind_F at h
  obtain ⟨Q, hQ⟩ : ∃ Q : Option Value → kw_H → Prop, Q = (fun v h2 => v = some (.int r) ∧ h2 = hp) := ⟨_, rfl⟩
  have hK : Q (some (.int r)) hp := by rw [hQ]; exact ⟨rfl, rfl⟩
  rw [← hQ]
  clear hQ
  refine kw_iconst (v := nI 5) dX5_ownKind_0 (by decide) ?_
  have h := Option.some.inj h
  subst h
  exact kw_iret rfl dX5_ownKind_1 hK
/-! KitchenWheels$Rows.<init>()V -/
def X6_init_F (hp : kw_H) (x0 : Nat) : Option (kw_H) :=
  (kp_al hp (kw_mna (List.length hp) 8 40)).bind fun hp1 =>
  (kp_put hp1 x0 [6] 0 (.ref (List.length hp))).bind fun hp2 =>
  (kp_al hp2 [.inl (0, 8, .inl (fun _ => 0))]).bind fun hp3 =>
  (kp_put hp3 x0 [6] 1 (.ref (List.length hp2))).bind fun hp4 =>
  (kp_al hp4 [.inl (0, 8, .inl (fun _ => 0))]).bind fun hp5 =>
  (kp_put hp5 x0 [6] 2 (.ref (List.length hp4))).bind fun hp6 =>
  (kp_gR hp6 x0 [6] 2).bind fun v7 =>
  (J7_fill_53178_F hp6 v7 ((-1))).bind fun r8 =>
  some (r8)
set_option maxRecDepth 100000 in
set_option maxHeartbeats 4000000 in
theorem X6_init_c (G : kw_G) (hp : kw_H) (x0 : Nat) (r : kw_H) (h : X6_init_F hp x0 = some r) : kw_Met G mX6_init [.ref x0] hp (fun v h2 => v = none ∧ h2 = r) := by
  refine kw_met (L := [some (.ref x0)]) (r := 0) (by decide +kernel) (Nat.le_of_ble_eq_true rfl) rfl ?_
  unfold X6_init_F at h
  obtain ⟨Q, hQ⟩ : ∃ Q : Option Value → kw_H → Prop, Q = (fun v h2 => v = none ∧ h2 = r) := ⟨_, rfl⟩
  have hK : Q none r := by rw [hQ]; exact ⟨rfl, rfl⟩
  rw [← hQ]
  clear hQ
  refine kw_aload_n dX6_init_0 rfl ?_
  refine kw_obj lkX6_3 im_obj cd_obj (by decide) (by decide) (Nat.le_of_ble_eq_true rfl) dX6_init_1 ?_
  refine kw_aload_n dX6_init_4 rfl ?_
  refine kw_bipush (v := nI 8) dX6_init_5 (by decide) ?_
  refine kw_bipush (v := nI 40) dX6_init_7 (by decide) ?_
  obtain ⟨hp1, ehp1, h⟩ := Option.bind_eq_some_iff.mp h
  refine kv_multi (N := 8) (K := 40) (i0 := 97) (kw_in 96 (by decide +kernel) rfl) (by decide +kernel) acint (by decide) (by decide) (by decide) (by decide) (by decide) dX6_init_9 ehp1 ?_
  obtain ⟨hp2, ehp2, h⟩ := Option.bind_eq_some_iff.mp h
  refine kv_put pfX6_init_11 (fun _ => ⟨rfl, rfl⟩) dX6_init_13 ehp2 ?_
  refine kw_aload_n dX6_init_16 rfl ?_
  refine kw_bipush (v := nI 8) dX6_init_17 (by decide) ?_
  obtain ⟨hp3, ehp3, h⟩ := Option.bind_eq_some_iff.mp h
  refine kv_newa_int (N := 8) acint (by decide) (by decide) (by decide) dX6_init_19 ehp3 ?_
  obtain ⟨hp4, ehp4, h⟩ := Option.bind_eq_some_iff.mp h
  refine kv_put pfX6_init_16 (fun _ => ⟨rfl, rfl⟩) dX6_init_21 ehp4 ?_
  refine kw_aload_n dX6_init_24 rfl ?_
  refine kw_bipush (v := nI 8) dX6_init_25 (by decide) ?_
  obtain ⟨hp5, ehp5, h⟩ := Option.bind_eq_some_iff.mp h
  refine kv_newa_int (N := 8) acint (by decide) (by decide) (by decide) dX6_init_27 ehp5 ?_
  obtain ⟨hp6, ehp6, h⟩ := Option.bind_eq_some_iff.mp h
  refine kv_put pfX6_init_20 (fun _ => ⟨rfl, rfl⟩) dX6_init_29 ehp6 ?_
  refine kw_aload_n dX6_init_32 rfl ?_
  obtain ⟨v7, ev7, h⟩ := Option.bind_eq_some_iff.mp h
  refine kv_gR gfX6_20 dX6_init_33 ev7 ?_
  refine kw_iconst (v := (-1)) dX6_init_36 (by decide) ?_
  obtain ⟨r8, er8, h⟩ := Option.bind_eq_some_iff.mp h
  refine kw_callS (As := [.ref v7, .int ((-1))]) (S := []) cbX6_init_J7_fill_53178 lkX6_23 stJ7_fill_53178 rfl rfl (Nat.le_of_ble_eq_true rfl) dX6_init_37 (J7_fill_53178_c G hp6 v7 ((-1)) _ er8) (fun vv hh hq => ?_)
  rw [hq.1, hq.2]
  show kw_V G mX6_init 40 [some (.ref x0)] [] r8 Q
  have h := Option.some.inj h
  subst h
  exact kw_vret rfl dX6_init_40 hK
/-! KitchenWheels$Rows.laneOf(I)I -/
def X6_laneOf_F (hp : kw_H) (x0 : Nat) (x1 : Int32) : Option (Int32) :=
  (X6_isRow_F hp x1).bind fun r1 =>
  (if r1 = 0 then
  some ((-1))
else
  (kp_gR hp x0 [6] 1).bind fun v2 =>
  (kp_ldI hp v2 x1).bind fun v3 =>
  some (v3))
set_option maxRecDepth 100000 in
set_option maxHeartbeats 4000000 in
theorem X6_laneOf_c (G : kw_G) (hp : kw_H) (x0 : Nat) (x1 : Int32) (r : Int32) (h : X6_laneOf_F hp x0 x1 = some r) : kw_Met G mX6_laneOf [.ref x0, .int x1] hp (fun v h2 => v = some (.int r) ∧ h2 = hp) := by
  refine kw_met (L := [some (.ref x0), some (.int x1)]) (r := 0) (by decide +kernel) (Nat.le_of_ble_eq_true rfl) rfl ?_
  unfold X6_laneOf_F at h
  obtain ⟨Q, hQ⟩ : ∃ Q : Option Value → kw_H → Prop, Q = (fun v h2 => v = some (.int r) ∧ h2 = hp) := ⟨_, rfl⟩
  have hK : Q (some (.int r)) hp := by rw [hQ]; exact ⟨rfl, rfl⟩
  rw [← hQ]
  clear hQ
  refine kw_iload_n dX6_laneOf_0 rfl ?_
  obtain ⟨r1, er1, h⟩ := Option.bind_eq_some_iff.mp h
  refine kw_callS (As := [.int x1]) (S := []) cbX6_laneOf_X6_isRow lkX6_33 stX6_isRow rfl rfl (Nat.le_of_ble_eq_true rfl) dX6_laneOf_1 (X6_isRow_c G hp x1 _ er1) (fun vv hh hq => ?_)
  rw [hq.1, hq.2]
  show kw_V G mX6_laneOf 4 [some (.ref x0), some (.int x1)] [.int r1] hp Q
  refine kw_if_eq 16 dX6_laneOf_4 (by decide) (fun c4 => ?_) (fun c4 => ?_)
  · have h := (if_pos c4).symm.trans h
    refine kw_iconst (v := (-1)) dX6_laneOf_16 (by decide) ?_
    have h := Option.some.inj h
    subst h
    exact kw_iret rfl dX6_laneOf_17 hK
  · have h := (if_neg c4).symm.trans h
    refine kw_aload_n dX6_laneOf_7 rfl ?_
    obtain ⟨v2, ev2, h⟩ := Option.bind_eq_some_iff.mp h
    refine kv_gR gfX6_16 dX6_laneOf_8 ev2 ?_
    refine kw_iload_n dX6_laneOf_11 rfl ?_
    obtain ⟨v3, ev3, h⟩ := Option.bind_eq_some_iff.mp h
    refine kv_ldI dX6_laneOf_12 ev3 ?_
    refine kw_goto 17 dX6_laneOf_13 (by decide) ?_
    have h := Option.some.inj h
    subst h
    exact kw_iret rfl dX6_laneOf_17 hK
/-! KitchenWheels$Rows.lay(III)V -/
def X6_lay_F (hp : kw_H) (x0 : Nat) (x1 : Int32) (x2 : Int32) (x3 : Int32) : Option (kw_H) :=
  (X6_isRow_F hp x1).bind fun r1 =>
  (if r1 = 0 then
  some (hp)
else
  (X11_within_F hp x3 (nI 0) (nI 40)).bind fun r2 =>
  (if r2 = 0 then
  some (hp)
else
  (kp_gR hp x0 [6] 0).bind fun v3 =>
  (kp_ldR hp 5 v3 x1).bind fun o4 =>
  kp_nu o4 (none) (fun b5 =>
  (J7_fill_53178_F hp b5 (nI 0)).bind fun r6 =>
  (kp_gR r6 x0 [6] 1).bind fun v7 =>
  (kp_stI r6 v7 x1 x2).bind fun hp8 =>
  (kp_gR hp8 x0 [6] 2).bind fun v9 =>
  (kp_stI hp8 v9 x1 x3).bind fun hp10 =>
  some (hp10))))
set_option maxRecDepth 100000 in
set_option maxHeartbeats 4000000 in
theorem X6_lay_c (G : kw_G) (hp : kw_H) (x0 : Nat) (x1 : Int32) (x2 : Int32) (x3 : Int32) (r : kw_H) (h : X6_lay_F hp x0 x1 x2 x3 = some r) : kw_Met G mX6_lay [.ref x0, .int x1, .int x2, .int x3] hp (fun v h2 => v = none ∧ h2 = r) := by
  refine kw_met (L := [some (.ref x0), some (.int x1), some (.int x2), some (.int x3)]) (r := 0) (by decide +kernel) (Nat.le_of_ble_eq_true rfl) rfl ?_
  unfold X6_lay_F at h
  obtain ⟨Q, hQ⟩ : ∃ Q : Option Value → kw_H → Prop, Q = (fun v h2 => v = none ∧ h2 = r) := ⟨_, rfl⟩
  have hK : Q none r := by rw [hQ]; exact ⟨rfl, rfl⟩
  rw [← hQ]
  clear hQ
  refine kw_iload_n dX6_lay_0 rfl ?_
  obtain ⟨r1, er1, h⟩ := Option.bind_eq_some_iff.mp h
  refine kw_callS (As := [.int x1]) (S := []) cbX6_lay_X6_isRow lkX6_33 stX6_isRow rfl rfl (Nat.le_of_ble_eq_true rfl) dX6_lay_1 (X6_isRow_c G hp x1 _ er1) (fun vv hh hq => ?_)
  rw [hq.1, hq.2]
  show kw_V G mX6_lay 4 [some (.ref x0), some (.int x1), some (.int x2), some (.int x3)] [.int r1] hp Q
  refine kw_if_eq 17 dX6_lay_4 (by decide) (fun c12 => ?_) (fun c12 => ?_)
  · have h := (if_pos c12).symm.trans h
    have h := Option.some.inj h
    subst h
    exact kw_vret rfl dX6_lay_17 hK
  · have h := (if_neg c12).symm.trans h
    refine kw_iload_n dX6_lay_7 rfl ?_
    refine kw_iconst (v := nI 0) dX6_lay_8 (by decide) ?_
    refine kw_bipush (v := nI 40) dX6_lay_9 (by decide) ?_
    obtain ⟨r2, er2, h⟩ := Option.bind_eq_some_iff.mp h
    refine kw_callSN (As := [.int x3, .int (nI 0), .int (nI 40)]) (S := []) cbX6_lay_X11_within lnX6_29 stX11_within rfl rfl (Nat.le_of_ble_eq_true rfl) dX6_lay_11 (X11_within_c G hp x3 (nI 0) (nI 40) _ er2) (fun vv hh hq => ?_)
    rw [hq.1, hq.2]
    show kw_V G mX6_lay 14 [some (.ref x0), some (.int x1), some (.int x2), some (.int x3)] [.int r2] hp Q
    refine kw_if_ne 18 dX6_lay_14 (by decide) (fun c11 => ?_) (fun c11 => ?_)
    · have h := (if_neg c11).symm.trans h
      refine kw_aload_n dX6_lay_18 rfl ?_
      obtain ⟨v3, ev3, h⟩ := Option.bind_eq_some_iff.mp h
      refine kv_gR gfX6_11 dX6_lay_19 ev3 ?_
      refine kw_iload_n dX6_lay_22 rfl ?_
      obtain ⟨o4, eo4, h⟩ := Option.bind_eq_some_iff.mp h
      refine kv_ldR (by decide) dX6_lay_23 eo4 ?_
      cases o4 with
      | none =>
        dsimp only [kp_nu, va_rf] at h ⊢
        refine kw_iconst (v := nI 0) dX6_lay_24 (by decide) ?_
        cases h
      | some b5 =>
        dsimp only [kp_nu, va_rf] at h ⊢
        refine kw_iconst (v := nI 0) dX6_lay_24 (by decide) ?_
        obtain ⟨r6, er6, h⟩ := Option.bind_eq_some_iff.mp h
        refine kw_callS (As := [.ref b5, .int (nI 0)]) (S := []) cbX6_lay_J7_fill_53178 lkX6_23 stJ7_fill_53178 rfl rfl (Nat.le_of_ble_eq_true rfl) dX6_lay_25 (J7_fill_53178_c G hp b5 (nI 0) _ er6) (fun vv hh hq => ?_)
        rw [hq.1, hq.2]
        show kw_V G mX6_lay 28 [some (.ref x0), some (.int x1), some (.int x2), some (.int x3)] [] r6 Q
        refine kw_aload_n dX6_lay_28 rfl ?_
        obtain ⟨v7, ev7, h⟩ := Option.bind_eq_some_iff.mp h
        refine kv_gR gfX6_16 dX6_lay_29 ev7 ?_
        refine kw_iload_n dX6_lay_32 rfl ?_
        refine kw_iload_n dX6_lay_33 rfl ?_
        obtain ⟨hp8, ehp8, h⟩ := Option.bind_eq_some_iff.mp h
        refine kv_stI dX6_lay_34 ehp8 ?_
        refine kw_aload_n dX6_lay_35 rfl ?_
        obtain ⟨v9, ev9, h⟩ := Option.bind_eq_some_iff.mp h
        refine kv_gR gfX6_20 dX6_lay_36 ev9 ?_
        refine kw_iload_n dX6_lay_39 rfl ?_
        refine kw_iload_n dX6_lay_40 rfl ?_
        obtain ⟨hp10, ehp10, h⟩ := Option.bind_eq_some_iff.mp h
        refine kv_stI dX6_lay_41 ehp10 ?_
        have h := Option.some.inj h
        subst h
        exact kw_vret rfl dX6_lay_42 hK
    · have h := (if_pos c11).symm.trans h
      have h := Option.some.inj h
      subst h
      exact kw_vret rfl dX6_lay_17 hK
/-! KitchenWheels$Rows.put(III)I -/
def X6_put_J42 (hp : kw_H) (x0 : Nat) (x1 : Int32) (x2 : Int32) (s0 : Int32) : Option (Int32 × kw_H) :=
  (kp_gR hp x0 [6] 0).bind fun v6 =>
  (kp_ldR hp 5 v6 x1).bind fun o7 =>
  kp_nu o7 (none) (fun b8 =>
  (kp_stI hp b8 x2 s0).bind fun hp9 =>
  some ((s0, hp9)))
set_option maxRecDepth 100000 in
set_option maxHeartbeats 4000000 in
theorem X6_put_J42_t (G : kw_G) (Q : Option Value → kw_H → Prop) (hp : kw_H) (x0 : Nat) (x1 : Int32) (x2 : Int32) (s0 : Int32) (r : Int32 × kw_H) (h : X6_put_J42 hp x0 x1 x2 s0 = some r) (hK : Q (some (.int r.1)) r.2) : kw_V G mX6_put 42 [some (.ref x0), some (.int x1), some (.int x2), none, none] [.int s0] hp Q := by
  unfold X6_put_J42 at h
  refine kw_istore (L' := [some (.ref x0), some (.int x1), some (.int x2), none, some (.int s0)]) dX6_put_42 (by decide) rfl ?_
  refine kw_aload_n dX6_put_44 rfl ?_
  obtain ⟨v6, ev6, h⟩ := Option.bind_eq_some_iff.mp h
  refine kv_gR gfX6_11 dX6_put_45 ev6 ?_
  refine kw_iload_n dX6_put_48 rfl ?_
  obtain ⟨o7, eo7, h⟩ := Option.bind_eq_some_iff.mp h
  refine kv_ldR (by decide) dX6_put_49 eo7 ?_
  cases o7 with
  | none =>
    dsimp only [kp_nu, va_rf] at h ⊢
    refine kw_iload_n dX6_put_50 rfl ?_
    refine kw_iload dX6_put_51 rfl ?_
    cases h
  | some b8 =>
    dsimp only [kp_nu, va_rf] at h ⊢
    refine kw_iload_n dX6_put_50 rfl ?_
    refine kw_iload dX6_put_51 rfl ?_
    obtain ⟨hp9, ehp9, h⟩ := Option.bind_eq_some_iff.mp h
    refine kv_stI dX6_put_53 ehp9 ?_
    refine kw_iload dX6_put_54 rfl ?_
    have h := Option.some.inj h
    subst h
    exact kw_iret rfl dX6_put_56 hK
def X6_put_F (hp : kw_H) (x0 : Nat) (x1 : Int32) (x2 : Int32) (x3 : Int32) : Option (Int32 × kw_H) :=
  ((kp_ob hp x0 6).bind fun _ => X6_findingAt_F hp x0 x1 x2 (nI 1)).bind fun r1 =>
  (if r1 = 0 then
  (kp_gR hp x0 [6] 1).bind fun v2 =>
  (kp_ldI hp v2 x1).bind fun v3 =>
  (if v3 = 0 then
  X6_put_J42 hp x0 x1 x2 (Int8.toInt32 (Int32.toInt8 x3))
else
  (kp_gR hp x0 [6] 1).bind fun v4 =>
  (kp_ldI hp v4 x1).bind fun v5 =>
  (if v5 = (nI 1) then
  X6_put_J42 hp x0 x1 x2 (Int16.toInt32 (Int32.toInt16 x3))
else
  X6_put_J42 hp x0 x1 x2 x3))
else
  some ((nI 0, hp)))
set_option maxRecDepth 100000 in
set_option maxHeartbeats 4000000 in
theorem X6_put_c (G : kw_G) (hp : kw_H) (x0 : Nat) (x1 : Int32) (x2 : Int32) (x3 : Int32) (r : Int32 × kw_H) (h : X6_put_F hp x0 x1 x2 x3 = some r) : kw_Met G mX6_put [.ref x0, .int x1, .int x2, .int x3] hp (fun v h2 => v = some (.int r.1) ∧ h2 = r.2) := by
  refine kw_met (L := [some (.ref x0), some (.int x1), some (.int x2), some (.int x3), none]) (r := 1) (by decide +kernel) (Nat.le_of_ble_eq_true rfl) rfl ?_
  unfold X6_put_F at h
  obtain ⟨Q, hQ⟩ : ∃ Q : Option Value → kw_H → Prop, Q = (fun v h2 => v = some (.int r.1) ∧ h2 = r.2) := ⟨_, rfl⟩
  have hK : Q (some (.int r.1)) r.2 := by rw [hQ]; exact ⟨rfl, rfl⟩
  rw [← hQ]
  clear hQ
  refine kw_aload_n dX6_put_0 rfl ?_
  refine kw_iload_n dX6_put_1 rfl ?_
  refine kw_iload_n dX6_put_2 rfl ?_
  refine kw_iconst (v := nI 1) dX6_put_3 (by decide) ?_
  obtain ⟨r1, er1, h⟩ := Option.bind_eq_some_iff.mp h
  obtain ⟨ur1, eur1, er1⟩ := Option.bind_eq_some_iff.mp er1
  obtain ⟨fsr1, hor1⟩ := kp_ob_inv eur1
  refine kw_callV (As := [.int x1, .int x2, .int (nI 1)]) (S := []) kcX6 cbX6_put_X6_findingAt lkX6_46 imX6_findingAt seX6_X6_findingAt_X6_findingAt rfl rfl (Nat.le_of_ble_eq_true rfl) dX6_put_4 hor1 (X6_findingAt_c G hp x0 x1 x2 (nI 1) _ er1) (fun vv hh hq => ?_)
  rw [hq.1, hq.2]
  show kw_V G mX6_put 7 [some (.ref x0), some (.int x1), some (.int x2), some (.int x3), none] [.int r1] hp Q
  refine kw_if_eq 12 dX6_put_7 (by decide) (fun c12 => ?_) (fun c12 => ?_)
  · have h := (if_pos c12).symm.trans h
    refine kw_aload_n dX6_put_12 rfl ?_
    obtain ⟨v2, ev2, h⟩ := Option.bind_eq_some_iff.mp h
    refine kv_gR gfX6_16 dX6_put_13 ev2 ?_
    refine kw_iload_n dX6_put_16 rfl ?_
    obtain ⟨v3, ev3, h⟩ := Option.bind_eq_some_iff.mp h
    refine kv_ldI dX6_put_17 ev3 ?_
    refine kw_if_ne 26 dX6_put_18 (by decide) (fun c11 => ?_) (fun c11 => ?_)
    · have h := (if_neg c11).symm.trans h
      refine kw_aload_n dX6_put_26 rfl ?_
      obtain ⟨v4, ev4, h⟩ := Option.bind_eq_some_iff.mp h
      refine kv_gR gfX6_16 dX6_put_27 ev4 ?_
      refine kw_iload_n dX6_put_30 rfl ?_
      obtain ⟨v5, ev5, h⟩ := Option.bind_eq_some_iff.mp h
      refine kv_ldI dX6_put_31 ev5 ?_
      refine kw_iconst (v := nI 1) dX6_put_32 (by decide) ?_
      refine kw_icmp_ne 41 dX6_put_33 (by decide) (fun c10 => ?_) (fun c10 => ?_)
      · have h := (if_neg c10).symm.trans h
        refine kw_iload_n dX6_put_41 rfl ?_
        refine kw_mask [true, true, true, false, true] (L' := [some (.ref x0), some (.int x1), some (.int x2), none, none]) rfl ?_
        exact X6_put_J42_t G Q hp x0 x1 x2 x3 _ h hK
      · have h := (if_pos c10).symm.trans h
        refine kw_iload_n dX6_put_36 rfl ?_
        refine kw_i2s dX6_put_37 ?_
        refine kw_goto 42 dX6_put_38 (by decide) ?_
        refine kw_mask [true, true, true, false, true] (L' := [some (.ref x0), some (.int x1), some (.int x2), none, none]) rfl ?_
        exact X6_put_J42_t G Q hp x0 x1 x2 (Int16.toInt32 (Int32.toInt16 x3)) _ h hK
    · have h := (if_pos c11).symm.trans h
      refine kw_iload_n dX6_put_21 rfl ?_
      refine kw_i2b dX6_put_22 ?_
      refine kw_goto 42 dX6_put_23 (by decide) ?_
      refine kw_mask [true, true, true, false, true] (L' := [some (.ref x0), some (.int x1), some (.int x2), none, none]) rfl ?_
      exact X6_put_J42_t G Q hp x0 x1 x2 (Int8.toInt32 (Int32.toInt8 x3)) _ h hK
  · have h := (if_neg c12).symm.trans h
    refine kw_iconst (v := nI 0) dX6_put_10 (by decide) ?_
    have h := Option.some.inj h
    subst h
    exact kw_iret rfl dX6_put_11 hK
/-! KitchenWheels$Rows.move(IIIII)V -/
def X6_move_F (hp : kw_H) (x0 : Nat) (x1 : Int32) (x2 : Int32) (x3 : Int32) (x4 : Int32) (x5 : Int32) : Option (kw_H) :=
  ((kp_ob hp x0 6).bind fun _ => X6_findingAt_F hp x0 x1 x2 x5).bind fun r1 =>
  (if r1 = 0 then
  ((kp_ob hp x0 6).bind fun _ => X6_findingAt_F hp x0 x3 x4 x5).bind fun r2 =>
  (if r2 = 0 then
  (kp_gR hp x0 [6] 0).bind fun v3 =>
  (kp_ldR hp 5 v3 x1).bind fun o4 =>
  kp_nu o4 ((kp_gR hp x0 [6] 0).bind fun v6 =>
  (kp_ldR hp 5 v6 x3).bind fun o7 =>
  kp_nu o7 (none) (fun b8 =>
  none)) (fun b5 =>
  (kp_gR hp x0 [6] 0).bind fun v9 =>
  (kp_ldR hp 5 v9 x3).bind fun o10 =>
  kp_nu o10 (none) (fun b11 =>
  (kp_cpI hp b5 x2 b11 x4 x5).bind fun hp12 =>
  some (hp12)))
else
  some (hp))
else
  some (hp))
set_option maxRecDepth 100000 in
set_option maxHeartbeats 4000000 in
theorem X6_move_c (G : kw_G) (hp : kw_H) (x0 : Nat) (x1 : Int32) (x2 : Int32) (x3 : Int32) (x4 : Int32) (x5 : Int32) (r : kw_H) (h : X6_move_F hp x0 x1 x2 x3 x4 x5 = some r) : kw_Met G mX6_move [.ref x0, .int x1, .int x2, .int x3, .int x4, .int x5] hp (fun v h2 => v = none ∧ h2 = r) := by
  refine kw_met (L := [some (.ref x0), some (.int x1), some (.int x2), some (.int x3), some (.int x4), some (.int x5)]) (r := 0) (by decide +kernel) (Nat.le_of_ble_eq_true rfl) rfl ?_
  unfold X6_move_F at h
  obtain ⟨Q, hQ⟩ : ∃ Q : Option Value → kw_H → Prop, Q = (fun v h2 => v = none ∧ h2 = r) := ⟨_, rfl⟩
  have hK : Q none r := by rw [hQ]; exact ⟨rfl, rfl⟩
  rw [← hQ]
  clear hQ
  refine kw_aload_n dX6_move_0 rfl ?_
  refine kw_iload_n dX6_move_1 rfl ?_
  refine kw_iload_n dX6_move_2 rfl ?_
  refine kw_iload dX6_move_3 rfl ?_
  obtain ⟨r1, er1, h⟩ := Option.bind_eq_some_iff.mp h
  obtain ⟨ur1, eur1, er1⟩ := Option.bind_eq_some_iff.mp er1
  obtain ⟨fsr1, hor1⟩ := kp_ob_inv eur1
  refine kw_callV (As := [.int x1, .int x2, .int x5]) (S := []) kcX6 cbX6_move_X6_findingAt lkX6_46 imX6_findingAt seX6_X6_findingAt_X6_findingAt rfl rfl (Nat.le_of_ble_eq_true rfl) dX6_move_5 hor1 (X6_findingAt_c G hp x0 x1 x2 x5 _ er1) (fun vv hh hq => ?_)
  rw [hq.1, hq.2]
  show kw_V G mX6_move 8 [some (.ref x0), some (.int x1), some (.int x2), some (.int x3), some (.int x4), some (.int x5)] [.int r1] hp Q
  refine kw_if_ne 43 dX6_move_8 (by decide) (fun c14 => ?_) (fun c14 => ?_)
  · have h := (if_neg c14).symm.trans h
    have h := Option.some.inj h
    subst h
    exact kw_vret rfl dX6_move_43 hK
  · have h := (if_pos c14).symm.trans h
    refine kw_aload_n dX6_move_11 rfl ?_
    refine kw_iload_n dX6_move_12 rfl ?_
    refine kw_iload dX6_move_13 rfl ?_
    refine kw_iload dX6_move_15 rfl ?_
    obtain ⟨r2, er2, h⟩ := Option.bind_eq_some_iff.mp h
    obtain ⟨ur2, eur2, er2⟩ := Option.bind_eq_some_iff.mp er2
    obtain ⟨fsr2, hor2⟩ := kp_ob_inv eur2
    refine kw_callV (As := [.int x3, .int x4, .int x5]) (S := []) kcX6 cbX6_move_X6_findingAt lkX6_46 imX6_findingAt seX6_X6_findingAt_X6_findingAt rfl rfl (Nat.le_of_ble_eq_true rfl) dX6_move_17 hor2 (X6_findingAt_c G hp x0 x3 x4 x5 _ er2) (fun vv hh hq => ?_)
    rw [hq.1, hq.2]
    show kw_V G mX6_move 20 [some (.ref x0), some (.int x1), some (.int x2), some (.int x3), some (.int x4), some (.int x5)] [.int r2] hp Q
    refine kw_if_ne 43 dX6_move_20 (by decide) (fun c13 => ?_) (fun c13 => ?_)
    · have h := (if_neg c13).symm.trans h
      have h := Option.some.inj h
      subst h
      exact kw_vret rfl dX6_move_43 hK
    · have h := (if_pos c13).symm.trans h
      refine kw_aload_n dX6_move_23 rfl ?_
      obtain ⟨v3, ev3, h⟩ := Option.bind_eq_some_iff.mp h
      refine kv_gR gfX6_11 dX6_move_24 ev3 ?_
      refine kw_iload_n dX6_move_27 rfl ?_
      obtain ⟨o4, eo4, h⟩ := Option.bind_eq_some_iff.mp h
      refine kv_ldR (by decide) dX6_move_28 eo4 ?_
      cases o4 with
      | none =>
        dsimp only [kp_nu, va_rf] at h ⊢
        refine kw_iload_n dX6_move_29 rfl ?_
        refine kw_aload_n dX6_move_30 rfl ?_
        obtain ⟨v6, ev6, h⟩ := Option.bind_eq_some_iff.mp h
        refine kv_gR gfX6_11 dX6_move_31 ev6 ?_
        refine kw_iload_n dX6_move_34 rfl ?_
        obtain ⟨o7, eo7, h⟩ := Option.bind_eq_some_iff.mp h
        refine kv_ldR (by decide) dX6_move_35 eo7 ?_
        cases o7 with
        | none =>
          dsimp only [kp_nu, va_rf] at h ⊢
          refine kw_iload dX6_move_36 rfl ?_
          refine kw_iload dX6_move_38 rfl ?_
          cases h
        | some b8 =>
          dsimp only [kp_nu, va_rf] at h ⊢
          refine kw_iload dX6_move_36 rfl ?_
          refine kw_iload dX6_move_38 rfl ?_
          cases h
      | some b5 =>
        dsimp only [kp_nu, va_rf] at h ⊢
        refine kw_iload_n dX6_move_29 rfl ?_
        refine kw_aload_n dX6_move_30 rfl ?_
        obtain ⟨v9, ev9, h⟩ := Option.bind_eq_some_iff.mp h
        refine kv_gR gfX6_11 dX6_move_31 ev9 ?_
        refine kw_iload_n dX6_move_34 rfl ?_
        obtain ⟨o10, eo10, h⟩ := Option.bind_eq_some_iff.mp h
        refine kv_ldR (by decide) dX6_move_35 eo10 ?_
        cases o10 with
        | none =>
          dsimp only [kp_nu, va_rf] at h ⊢
          refine kw_iload dX6_move_36 rfl ?_
          refine kw_iload dX6_move_38 rfl ?_
          cases h
        | some b11 =>
          dsimp only [kp_nu, va_rf] at h ⊢
          refine kw_iload dX6_move_36 rfl ?_
          refine kw_iload dX6_move_38 rfl ?_
          obtain ⟨hp12, ehp12, h⟩ := Option.bind_eq_some_iff.mp h
          refine kv_cpI coX6_move_50 (Nat.le_of_ble_eq_true rfl) dX6_move_40 ehp12 ?_
          have h := Option.some.inj h
          subst h
          exact kw_vret rfl dX6_move_43 hK
/-! KitchenWheels$Rows.lose(I)I -/
def X6_lose_F (hp : kw_H) (x0 : Nat) (x1 : Int32) : Option (Int32 × kw_H) :=
  ((kp_ob hp x0 6).bind fun _ => X6_isMissing_F hp x0 x1).bind fun r1 =>
  (if r1 = 0 then
  (kp_gR hp x0 [6] 2).bind fun v2 =>
  (kp_ldI hp v2 x1).bind fun v3 =>
  (kp_gR hp x0 [6] 2).bind fun v4 =>
  (kp_stI hp v4 x1 ((-1))).bind fun hp5 =>
  some ((v3, hp5))
else
  some ((nI 0, hp)))
set_option maxRecDepth 100000 in
set_option maxHeartbeats 4000000 in
theorem X6_lose_c (G : kw_G) (hp : kw_H) (x0 : Nat) (x1 : Int32) (r : Int32 × kw_H) (h : X6_lose_F hp x0 x1 = some r) : kw_Met G mX6_lose [.ref x0, .int x1] hp (fun v h2 => v = some (.int r.1) ∧ h2 = r.2) := by
  refine kw_met (L := [some (.ref x0), some (.int x1), none]) (r := 1) (by decide +kernel) (Nat.le_of_ble_eq_true rfl) rfl ?_
  unfold X6_lose_F at h
  obtain ⟨Q, hQ⟩ : ∃ Q : Option Value → kw_H → Prop, Q = (fun v h2 => v = some (.int r.1) ∧ h2 = r.2) := ⟨_, rfl⟩
  have hK : Q (some (.int r.1)) r.2 := by rw [hQ]; exact ⟨rfl, rfl⟩
  rw [← hQ]
  clear hQ
  refine kw_aload_n dX6_lose_0 rfl ?_
  refine kw_iload_n dX6_lose_1 rfl ?_
  obtain ⟨r1, er1, h⟩ := Option.bind_eq_some_iff.mp h
  obtain ⟨ur1, eur1, er1⟩ := Option.bind_eq_some_iff.mp er1
  obtain ⟨fsr1, hor1⟩ := kp_ob_inv eur1
  refine kw_callV (As := [.int x1]) (S := []) kcX6 cbX6_lose_X6_isMissing lkX6_37 imX6_isMissing seX6_X6_isMissing_X6_isMissing rfl rfl (Nat.le_of_ble_eq_true rfl) dX6_lose_2 hor1 (X6_isMissing_c G hp x0 x1 _ er1) (fun vv hh hq => ?_)
  rw [hq.1, hq.2]
  show kw_V G mX6_lose 5 [some (.ref x0), some (.int x1), none] [.int r1] hp Q
  refine kw_if_eq 10 dX6_lose_5 (by decide) (fun c6 => ?_) (fun c6 => ?_)
  · have h := (if_pos c6).symm.trans h
    refine kw_aload_n dX6_lose_10 rfl ?_
    obtain ⟨v2, ev2, h⟩ := Option.bind_eq_some_iff.mp h
    refine kv_gR gfX6_20 dX6_lose_11 ev2 ?_
    refine kw_iload_n dX6_lose_14 rfl ?_
    obtain ⟨v3, ev3, h⟩ := Option.bind_eq_some_iff.mp h
    refine kv_ldI dX6_lose_15 ev3 ?_
    refine kw_istore_n (L' := [some (.ref x0), some (.int x1), some (.int v3)]) dX6_lose_16 (by decide) rfl ?_
    refine kw_aload_n dX6_lose_17 rfl ?_
    obtain ⟨v4, ev4, h⟩ := Option.bind_eq_some_iff.mp h
    refine kv_gR gfX6_20 dX6_lose_18 ev4 ?_
    refine kw_iload_n dX6_lose_21 rfl ?_
    refine kw_iconst (v := (-1)) dX6_lose_22 (by decide) ?_
    obtain ⟨hp5, ehp5, h⟩ := Option.bind_eq_some_iff.mp h
    refine kv_stI dX6_lose_23 ehp5 ?_
    refine kw_iload_n dX6_lose_24 rfl ?_
    have h := Option.some.inj h
    subst h
    exact kw_iret rfl dX6_lose_25 hK
  · have h := (if_neg c6).symm.trans h
    refine kw_iconst (v := nI 0) dX6_lose_8 (by decide) ?_
    have h := Option.some.inj h
    subst h
    exact kw_iret rfl dX6_lose_9 hK
/-! KitchenWheels$Rows.present()I -/
def X6_present_K4 (G : kw_G) (Q : Option Value → kw_H → Prop) (hp : kw_H) (x0 : Nat) (r : (Int32 × Int32) ⊕ (Int32)) : Prop := match r with
  | .inl z => kw_V G mX6_present 4 [some (.ref x0), some (.int z.1), some (.int z.2)] [] hp Q
  | .inr r => Q (some (.int r)) hp
def X6_present_J27 (hp : kw_H) (x1 : Int32) : Option (Int32) :=
  some (x1)
set_option maxRecDepth 100000 in
set_option maxHeartbeats 4000000 in
theorem X6_present_J27_t (G : kw_G) (Q : Option Value → kw_H → Prop) (hp : kw_H) (x1 : Int32) (r : Int32) (h : X6_present_J27 hp x1 = some r) (hK : Q (some (.int r)) hp) : kw_V G mX6_present 27 [none, some (.int x1), none] [] hp Q := by
  unfold X6_present_J27 at h
  refine kw_iload_n dX6_present_27 rfl ?_
  have h := Option.some.inj h
  subst h
  exact kw_iret rfl dX6_present_28 hK
def X6_present_J21 (hp : kw_H) (x0 : Nat) (x1 : Int32) (x2 : Int32) : Option (((Int32 × Int32) ⊕ (Int32))) :=
  some (.inl (x1, x2 + (nI 1)))
set_option maxRecDepth 100000 in
set_option maxHeartbeats 4000000 in
theorem X6_present_J21_t (G : kw_G) (Q : Option Value → kw_H → Prop) (hp : kw_H) (x0 : Nat) (x1 : Int32) (x2 : Int32) (r : ((Int32 × Int32) ⊕ (Int32))) (h : X6_present_J21 hp x0 x1 x2 = some r) (hK : X6_present_K4 G Q hp x0 r) : kw_V G mX6_present 21 [some (.ref x0), some (.int x1), some (.int x2)] [] hp Q := by
  unfold X6_present_J21 at h
  refine kv_iinc (w := nI 1) (L' := [some (.ref x0), some (.int x1), some (.int (x2 + (nI 1)))]) dX6_present_21 (by decide) rfl (by decide) rfl ?_
  refine kw_goto 4 dX6_present_24 (by decide) ?_
  have h := Option.some.inj h
  subst h
  exact hK
def X6_present_b4 (hp : kw_H) (x0 : Nat) (x1 : Int32) (x2 : Int32) : Option (((Int32 × Int32) ⊕ (Int32))) :=
  (if (nI 8) ≤ x2 then
  (X6_present_J27 hp x1).map (fun r => .inr (r))
else
  ((kp_ob hp x0 6).bind fun _ => X6_isMissing_F hp x0 x2).bind fun r2 =>
  (if r2 = 0 then
  X6_present_J21 hp x0 (x1 + (nI 1)) x2
else
  X6_present_J21 hp x0 x1 x2))
set_option maxRecDepth 100000 in
set_option maxHeartbeats 4000000 in
theorem X6_present_b4_t (G : kw_G) (Q : Option Value → kw_H → Prop) (hp : kw_H) (x0 : Nat) (x1 : Int32) (x2 : Int32) (r : ((Int32 × Int32) ⊕ (Int32))) (h : X6_present_b4 hp x0 x1 x2 = some r) (hK : X6_present_K4 G Q hp x0 r) : kw_V G mX6_present 4 [some (.ref x0), some (.int x1), some (.int x2)] [] hp Q := by
  unfold X6_present_b4 at h
  refine kw_iload_n dX6_present_4 rfl ?_
  refine kw_bipush (v := nI 8) dX6_present_5 (by decide) ?_
  refine kw_icmp_ge 27 dX6_present_7 (by decide) (fun c4 => ?_) (fun c4 => ?_)
  · have h := (if_pos c4).symm.trans h
    refine kw_mask [false, true, false] (L' := [none, some (.int x1), none]) rfl ?_
    obtain ⟨r1, hr1, hrr1⟩ := Option.map_eq_some_iff.mp h
    subst hrr1
    exact X6_present_J27_t G Q hp x1 r1 hr1 hK
  · have h := (if_neg c4).symm.trans h
    refine kw_aload_n dX6_present_10 rfl ?_
    refine kw_iload_n dX6_present_11 rfl ?_
    obtain ⟨r2, er2, h⟩ := Option.bind_eq_some_iff.mp h
    obtain ⟨ur2, eur2, er2⟩ := Option.bind_eq_some_iff.mp er2
    obtain ⟨fsr2, hor2⟩ := kp_ob_inv eur2
    refine kw_callV (As := [.int x2]) (S := []) kcX6 cbX6_present_X6_isMissing lkX6_37 imX6_isMissing seX6_X6_isMissing_X6_isMissing rfl rfl (Nat.le_of_ble_eq_true rfl) dX6_present_12 hor2 (X6_isMissing_c G hp x0 x2 _ er2) (fun vv hh hq => ?_)
    rw [hq.1, hq.2]
    show kw_V G mX6_present 15 [some (.ref x0), some (.int x1), some (.int x2)] [.int r2] hp Q
    refine kw_if_ne 21 dX6_present_15 (by decide) (fun c3 => ?_) (fun c3 => ?_)
    · have h := (if_neg c3).symm.trans h
      exact X6_present_J21_t G Q hp x0 x1 x2 _ h hK
    · have h := (if_pos c3).symm.trans h
      refine kv_iinc (w := nI 1) (L' := [some (.ref x0), some (.int (x1 + (nI 1))), some (.int x2)]) dX6_present_18 (by decide) rfl (by decide) rfl ?_
      exact X6_present_J21_t G Q hp x0 (x1 + (nI 1)) x2 _ h hK
def X6_present_B4 (hp : kw_H) (x0 : Nat) (z : Int32 × Int32) : Option (((Int32 × Int32) ⊕ (Int32))) := X6_present_b4 hp x0 z.1 z.2
theorem X6_present_L4_t (G : kw_G) (Q : Option Value → kw_H → Prop) (hp : kw_H) (x0 : Nat) (n : Nat) (z : Int32 × Int32) (r : Int32) (h : kp_lp (X6_present_B4 hp x0) n z = some r) (hK : Q (some (.int r)) hp) : kw_V G mX6_present 4 [some (.ref x0), some (.int z.1), some (.int z.2)] [] hp Q :=
  kv_lp _ (fun z => kw_V G mX6_present 4 [some (.ref x0), some (.int z.1), some (.int z.2)] [] hp Q) (fun r => Q (some (.int r)) hp) (fun z x hb hx => X6_present_b4_t G Q hp x0 z.1 z.2 x hb (by cases x <;> exact hx)) n z r h hK
def X6_present_F (hp : kw_H) (x0 : Nat) : Option (Int32) :=
  kp_lp (X6_present_B4 hp x0) 2000 (nI 0, nI 0)
set_option maxRecDepth 100000 in
set_option maxHeartbeats 4000000 in
theorem X6_present_c (G : kw_G) (hp : kw_H) (x0 : Nat) (r : Int32) (h : X6_present_F hp x0 = some r) : kw_Met G mX6_present [.ref x0] hp (fun v h2 => v = some (.int r) ∧ h2 = hp) := by
  refine kw_met (L := [some (.ref x0), none, none]) (r := 2) (by decide +kernel) (Nat.le_of_ble_eq_true rfl) rfl ?_
  unfold X6_present_F at h
  obtain ⟨Q, hQ⟩ : ∃ Q : Option Value → kw_H → Prop, Q = (fun v h2 => v = some (.int r) ∧ h2 = hp) := ⟨_, rfl⟩
  have hK : Q (some (.int r)) hp := by rw [hQ]; exact ⟨rfl, rfl⟩
  rw [← hQ]
  clear hQ
  refine kw_iconst (v := nI 0) dX6_present_0 (by decide) ?_
  refine kw_istore_n (L' := [some (.ref x0), some (.int (nI 0)), none]) dX6_present_1 (by decide) rfl ?_
  refine kw_iconst (v := nI 0) dX6_present_2 (by decide) ?_
  refine kw_istore_n (L' := [some (.ref x0), some (.int (nI 0)), some (.int (nI 0))]) dX6_present_3 (by decide) rfl ?_
  exact X6_present_L4_t G Q hp x0 _ (nI 0, nI 0) _ h hK
/-! KitchenWheels$Step.ownKind()I -/
def X7_ownKind_F (hp : kw_H) (x0 : Nat) : Option (Int32) :=
  some (nI 2)
set_option maxRecDepth 100000 in
set_option maxHeartbeats 4000000 in
theorem X7_ownKind_c (G : kw_G) (hp : kw_H) (x0 : Nat) (r : Int32) (h : X7_ownKind_F hp x0 = some r) : kw_Met G mX7_ownKind [.ref x0] hp (fun v h2 => v = some (.int r) ∧ h2 = hp) := by
  refine kw_met (L := [some (.ref x0)]) (r := 0) (by decide +kernel) (Nat.le_of_ble_eq_true rfl) rfl ?_
  unfold X7_ownKind_F at h
  obtain ⟨Q, hQ⟩ : ∃ Q : Option Value → kw_H → Prop, Q = (fun v h2 => v = some (.int r) ∧ h2 = hp) := ⟨_, rfl⟩
  have hK : Q (some (.int r)) hp := by rw [hQ]; exact ⟨rfl, rfl⟩
  rw [← hQ]
  clear hQ
  refine kw_iconst (v := nI 2) dX7_ownKind_0 (by decide) ?_
  have h := Option.some.inj h
  subst h
  exact kw_iret rfl dX7_ownKind_1 hK
/-! KitchenWheels$Step.size(LKitchenWheels$Trace;II)I -/
def X7_size_S10_f (hp : kw_H) (o : Nat) (y0 : Nat) (y1 : Int32) (y2 : Int32) : Option (Int32 × kw_H) :=
  (kp_ci hp o).bind fun ci => if ci ∈ [7] then X4_size_F hp o y0 y1 y2 else none
set_option maxRecDepth 100000 in
set_option maxHeartbeats 4000000 in
theorem X7_size_S10_v (G : kw_G) (Q : Option Value → kw_H → Prop) (L : List (Option Value)) (hp : kw_H) (o : Nat) (y0 : Nat) (y1 : Int32) (y2 : Int32) (r : Int32 × kw_H) {S : List Value} (hr : (S.map fun v => v.category).sum ≤ 8) (h : X7_size_S10_f hp o y0 y1 y2 = some r) (kk : kw_V G mX7_size 13 L (.int r.1 :: S) r.2 Q) : kw_V G mX7_size 10 L (.int y2 :: .int y1 :: .ref y0 :: .ref o :: S) hp Q := by
  unfold X7_size_S10_f at h
  obtain ⟨ci, e1, h⟩ := Option.bind_eq_some_iff.mp h
  obtain ⟨fs, ho⟩ := kp_ci_inv e1
  by_cases hc : ci ∈ [7]
  · have h := (if_pos hc).symm.trans h
    simp only [List.mem_cons, List.not_mem_nil, or_false] at hc
    subst hc
    exact kw_callSU (As := [.ref y0, .int y1, .int y2]) (S := S) kcX7 cbX7_size_X4_size lkX7_19 smX4_size suX7_X4 imX4_size (by decide) rfl rfl hr dX7_size_10 ho (X4_size_c G hp o y0 y1 y2 _ h) (fun vv hh hq => by obtain ⟨rfl, rfl⟩ := hq; exact kk)
  · have h := (if_neg hc).symm.trans h
    cases h
def X7_size_F (hp : kw_H) (x0 : Nat) (x1 : Nat) (x2 : Int32) (x3 : Int32) : Option (Int32 × kw_H) :=
  ((kp_ob hp x1 9).bind fun _ => X9_add_F hp x1 (nI 12)).bind fun r1 =>
  (X7_size_S10_f r1 x0 x1 x2 x3).bind fun r2 =>
  some ((-r2.1, r2.2))
set_option maxRecDepth 100000 in
set_option maxHeartbeats 4000000 in
theorem X7_size_c (G : kw_G) (hp : kw_H) (x0 : Nat) (x1 : Nat) (x2 : Int32) (x3 : Int32) (r : Int32 × kw_H) (h : X7_size_F hp x0 x1 x2 x3 = some r) : kw_Met G mX7_size [.ref x0, .ref x1, .int x2, .int x3] hp (fun v h2 => v = some (.int r.1) ∧ h2 = r.2) := by
  refine kw_met (L := [some (.ref x0), some (.ref x1), some (.int x2), some (.int x3)]) (r := 0) (by decide +kernel) (Nat.le_of_ble_eq_true rfl) rfl ?_
  unfold X7_size_F at h
  obtain ⟨Q, hQ⟩ : ∃ Q : Option Value → kw_H → Prop, Q = (fun v h2 => v = some (.int r.1) ∧ h2 = r.2) := ⟨_, rfl⟩
  have hK : Q (some (.int r.1)) r.2 := by rw [hQ]; exact ⟨rfl, rfl⟩
  rw [← hQ]
  clear hQ
  refine kw_aload_n dX7_size_0 rfl ?_
  refine kw_bipush (v := nI 12) dX7_size_1 (by decide) ?_
  obtain ⟨r1, er1, h⟩ := Option.bind_eq_some_iff.mp h
  obtain ⟨ur1, eur1, er1⟩ := Option.bind_eq_some_iff.mp er1
  obtain ⟨fsr1, hor1⟩ := kp_ob_inv eur1
  refine kw_callV (As := [.int (nI 12)]) (S := []) kcX9 cbX7_size_X9_add lkX7_13 imX9_add seX9_X9_add_X9_add rfl rfl (Nat.le_of_ble_eq_true rfl) dX7_size_3 hor1 (X9_add_c G hp x1 (nI 12) _ er1) (fun vv hh hq => ?_)
  rw [hq.1, hq.2]
  show kw_V G mX7_size 6 [some (.ref x0), some (.ref x1), some (.int x2), some (.int x3)] [] r1 Q
  refine kw_aload_n dX7_size_6 rfl ?_
  refine kw_aload_n dX7_size_7 rfl ?_
  refine kw_iload_n dX7_size_8 rfl ?_
  refine kw_iload_n dX7_size_9 rfl ?_
  obtain ⟨r2, er2, h⟩ := Option.bind_eq_some_iff.mp h
  refine X7_size_S10_v G Q [some (.ref x0), some (.ref x1), some (.int x2), some (.int x3)] r1 x0 x1 x2 x3 _ (Nat.le_of_ble_eq_true rfl) er2 (S := []) ?_
  show kw_V G mX7_size 13 [some (.ref x0), some (.ref x1), some (.int x2), some (.int x3)] [.int r2.1] r2.2 Q
  refine kw_ineg dX7_size_13 ?_
  have h := Option.some.inj h
  subst h
  exact kw_iret rfl dX7_size_14 hK
/-! KitchenWheels$Tape.<init>()V -/
def X8_init_F (hp : kw_H) (x0 : Nat) : Option (kw_H) :=
  (kp_al hp [.inl (0, 80, .inl (fun _ => 0))]).bind fun hp1 =>
  (kp_put hp1 x0 [8] 0 (.ref (List.length hp))).bind fun hp2 =>
  (kp_al hp2 [.inr (2, [.null, .null, .null, .null, .int 0, .int 0, .int 0, .int 0, .int 0, .int 0])]).bind fun hp3 =>
  (X2_init_F hp3 (List.length hp2)).bind fun r4 =>
  (kp_put r4 x0 [8] 2 (.ref (List.length hp2))).bind fun hp5 =>
  some (hp5)
set_option maxRecDepth 100000 in
set_option maxHeartbeats 4000000 in
theorem X8_init_c (G : kw_G) (hp : kw_H) (x0 : Nat) (r : kw_H) (h : X8_init_F hp x0 = some r) : kw_Met G mX8_init [.ref x0] hp (fun v h2 => v = none ∧ h2 = r) := by
  refine kw_met (L := [some (.ref x0)]) (r := 0) (by decide +kernel) (Nat.le_of_ble_eq_true rfl) rfl ?_
  unfold X8_init_F at h
  obtain ⟨Q, hQ⟩ : ∃ Q : Option Value → kw_H → Prop, Q = (fun v h2 => v = none ∧ h2 = r) := ⟨_, rfl⟩
  have hK : Q none r := by rw [hQ]; exact ⟨rfl, rfl⟩
  rw [← hQ]
  clear hQ
  refine kw_aload_n dX8_init_0 rfl ?_
  refine kw_obj lkX8_3 im_obj cd_obj (by decide) (by decide) (Nat.le_of_ble_eq_true rfl) dX8_init_1 ?_
  refine kw_aload_n dX8_init_4 rfl ?_
  refine kw_bipush (v := nI 80) dX8_init_5 (by decide) ?_
  obtain ⟨hp1, ehp1, h⟩ := Option.bind_eq_some_iff.mp h
  refine kv_newa_int (N := 80) acint (by decide) (by decide) (by decide) dX8_init_7 ehp1 ?_
  obtain ⟨hp2, ehp2, h⟩ := Option.bind_eq_some_iff.mp h
  refine kv_put pfX8_init_9 (fun _ => ⟨rfl, rfl⟩) dX8_init_9 ehp2 ?_
  refine kw_aload_n dX8_init_12 rfl ?_
  obtain ⟨hp3, ehp3, h⟩ := Option.bind_eq_some_iff.mp h
  refine kv_new (fs := [.null, .null, .null, .null, .int 0, .int 0, .int 0, .int 0, .int 0, .int 0]) kcX2 tyX2_ok (by decide) dfX2 clX8_15 iaX2 in_X2 dX8_init_13 ehp3 ?_
  refine kw_dup dX8_init_16 rfl ?_
  obtain ⟨r4, er4, h⟩ := Option.bind_eq_some_iff.mp h
  refine kw_callIN (As := []) (S := [.ref (List.length hp2), .ref x0]) cbX8_init_X2_init rfl rfl lnX8_17 imX2_init rfl rfl (Nat.le_of_ble_eq_true rfl) dX8_init_17 (X2_init_c G hp3 (List.length hp2) _ er4) (fun vv hh hq => ?_)
  rw [hq.1, hq.2]
  show kw_V G mX8_init 20 [some (.ref x0)] [.ref (List.length hp2), .ref x0] r4 Q
  obtain ⟨hp5, ehp5, h⟩ := Option.bind_eq_some_iff.mp h
  refine kv_put pfX8_init_18 (fun _ => ⟨rfl, rfl⟩) dX8_init_20 ehp5 ?_
  have h := Option.some.inj h
  subst h
  exact kw_vret rfl dX8_init_23 hK
/-! KitchenWheels$Tape.take(I)Z -/
def X8_take_F (hp : kw_H) (x0 : Nat) (x1 : Int32) : Option (Int32 × kw_H) :=
  (kp_gI hp x0 [8] 1).bind fun v1 =>
  (if v1 < 0 then
  some ((nI 0, hp))
else
  (kp_gI hp x0 [8] 1).bind fun v2 =>
  (if v2 < (nI 80) then
  (kp_gR hp x0 [8] 0).bind fun v3 =>
  (kp_gI hp x0 [8] 1).bind fun v4 =>
  (kp_stI hp v3 v4 x1).bind fun hp5 =>
  (kp_gI hp5 x0 [8] 1).bind fun v6 =>
  (kp_put hp5 x0 [8] 1 (.int (v6 + (nI 1)))).bind fun hp7 =>
  some ((nI 1, hp7))
else
  some ((nI 0, hp))))
set_option maxRecDepth 100000 in
set_option maxHeartbeats 4000000 in
theorem X8_take_c (G : kw_G) (hp : kw_H) (x0 : Nat) (x1 : Int32) (r : Int32 × kw_H) (h : X8_take_F hp x0 x1 = some r) : kw_Met G mX8_take [.ref x0, .int x1] hp (fun v h2 => v = some (.int r.1) ∧ h2 = r.2) := by
  refine kw_met (L := [some (.ref x0), some (.int x1)]) (r := 0) (by decide +kernel) (Nat.le_of_ble_eq_true rfl) rfl ?_
  unfold X8_take_F at h
  obtain ⟨Q, hQ⟩ : ∃ Q : Option Value → kw_H → Prop, Q = (fun v h2 => v = some (.int r.1) ∧ h2 = r.2) := ⟨_, rfl⟩
  have hK : Q (some (.int r.1)) r.2 := by rw [hQ]; exact ⟨rfl, rfl⟩
  rw [← hQ]
  clear hQ
  refine kw_aload_n dX8_take_0 rfl ?_
  obtain ⟨v1, ev1, h⟩ := Option.bind_eq_some_iff.mp h
  refine kv_gI gfX8_22 dX8_take_1 ev1 ?_
  refine kw_if_lt 16 dX8_take_4 (by decide) (fun c9 => ?_) (fun c9 => ?_)
  · have h := (if_pos c9).symm.trans h
    refine kw_iconst (v := nI 0) dX8_take_16 (by decide) ?_
    have h := Option.some.inj h
    subst h
    exact kw_zret rfl (Or.inl rfl) dX8_take_17 hK
  · have h := (if_neg c9).symm.trans h
    refine kw_aload_n dX8_take_7 rfl ?_
    obtain ⟨v2, ev2, h⟩ := Option.bind_eq_some_iff.mp h
    refine kv_gI gfX8_22 dX8_take_8 ev2 ?_
    refine kw_bipush (v := nI 80) dX8_take_11 (by decide) ?_
    refine kw_icmp_lt 18 dX8_take_13 (by decide) (fun c8 => ?_) (fun c8 => ?_)
    · have h := (if_pos c8).symm.trans h
      refine kw_aload_n dX8_take_18 rfl ?_
      obtain ⟨v3, ev3, h⟩ := Option.bind_eq_some_iff.mp h
      refine kv_gR gfX8_9 dX8_take_19 ev3 ?_
      refine kw_aload_n dX8_take_22 rfl ?_
      obtain ⟨v4, ev4, h⟩ := Option.bind_eq_some_iff.mp h
      refine kv_gI gfX8_22 dX8_take_23 ev4 ?_
      refine kw_iload_n dX8_take_26 rfl ?_
      obtain ⟨hp5, ehp5, h⟩ := Option.bind_eq_some_iff.mp h
      refine kv_stI dX8_take_27 ehp5 ?_
      refine kw_aload_n dX8_take_28 rfl ?_
      refine kw_dup dX8_take_29 rfl ?_
      obtain ⟨v6, ev6, h⟩ := Option.bind_eq_some_iff.mp h
      refine kv_gI gfX8_22 dX8_take_30 ev6 ?_
      refine kw_iconst (v := nI 1) dX8_take_33 (by decide) ?_
      refine kw_iadd dX8_take_34 ?_
      obtain ⟨hp7, ehp7, h⟩ := Option.bind_eq_some_iff.mp h
      refine kv_put pfX8_take_22 (fun _ => ⟨rfl, rfl⟩) dX8_take_35 ehp7 ?_
      refine kw_iconst (v := nI 1) dX8_take_38 (by decide) ?_
      have h := Option.some.inj h
      subst h
      exact kw_zret rfl (Or.inr rfl) dX8_take_39 hK
    · have h := (if_neg c8).symm.trans h
      refine kw_iconst (v := nI 0) dX8_take_16 (by decide) ?_
      have h := Option.some.inj h
      subst h
      exact kw_zret rfl (Or.inl rfl) dX8_take_17 hK
/-! KitchenWheels$Tape.byteAt(I)I -/
def X8_byteAt_F (hp : kw_H) (x0 : Nat) (x1 : Int32) : Option (Int32) :=
  (if x1 < 0 then
  some ((-1))
else
  (kp_gI hp x0 [8] 1).bind fun v1 =>
  (if v1 ≤ x1 then
  some ((-1))
else
  (if (nI 80) ≤ x1 then
  some ((-1))
else
  (kp_gR hp x0 [8] 0).bind fun v2 =>
  (kp_ldI hp v2 x1).bind fun v3 =>
  some (v3))))
set_option maxRecDepth 100000 in
set_option maxHeartbeats 4000000 in
theorem X8_byteAt_c (G : kw_G) (hp : kw_H) (x0 : Nat) (x1 : Int32) (r : Int32) (h : X8_byteAt_F hp x0 x1 = some r) : kw_Met G mX8_byteAt [.ref x0, .int x1] hp (fun v h2 => v = some (.int r) ∧ h2 = hp) := by
  refine kw_met (L := [some (.ref x0), some (.int x1)]) (r := 0) (by decide +kernel) (Nat.le_of_ble_eq_true rfl) rfl ?_
  unfold X8_byteAt_F at h
  obtain ⟨Q, hQ⟩ : ∃ Q : Option Value → kw_H → Prop, Q = (fun v h2 => v = some (.int r) ∧ h2 = hp) := ⟨_, rfl⟩
  have hK : Q (some (.int r)) hp := by rw [hQ]; exact ⟨rfl, rfl⟩
  rw [← hQ]
  clear hQ
  refine kw_iload_n dX8_byteAt_0 rfl ?_
  refine kw_if_lt 27 dX8_byteAt_1 (by decide) (fun c6 => ?_) (fun c6 => ?_)
  · have h := (if_pos c6).symm.trans h
    refine kw_iconst (v := (-1)) dX8_byteAt_27 (by decide) ?_
    have h := Option.some.inj h
    subst h
    exact kw_iret rfl dX8_byteAt_28 hK
  · have h := (if_neg c6).symm.trans h
    refine kw_iload_n dX8_byteAt_4 rfl ?_
    refine kw_aload_n dX8_byteAt_5 rfl ?_
    obtain ⟨v1, ev1, h⟩ := Option.bind_eq_some_iff.mp h
    refine kv_gI gfX8_22 dX8_byteAt_6 ev1 ?_
    refine kw_icmp_ge 27 dX8_byteAt_9 (by decide) (fun c5 => ?_) (fun c5 => ?_)
    · have h := (if_pos c5).symm.trans h
      refine kw_iconst (v := (-1)) dX8_byteAt_27 (by decide) ?_
      have h := Option.some.inj h
      subst h
      exact kw_iret rfl dX8_byteAt_28 hK
    · have h := (if_neg c5).symm.trans h
      refine kw_iload_n dX8_byteAt_12 rfl ?_
      refine kw_bipush (v := nI 80) dX8_byteAt_13 (by decide) ?_
      refine kw_icmp_ge 27 dX8_byteAt_15 (by decide) (fun c4 => ?_) (fun c4 => ?_)
      · have h := (if_pos c4).symm.trans h
        refine kw_iconst (v := (-1)) dX8_byteAt_27 (by decide) ?_
        have h := Option.some.inj h
        subst h
        exact kw_iret rfl dX8_byteAt_28 hK
      · have h := (if_neg c4).symm.trans h
        refine kw_aload_n dX8_byteAt_18 rfl ?_
        obtain ⟨v2, ev2, h⟩ := Option.bind_eq_some_iff.mp h
        refine kv_gR gfX8_9 dX8_byteAt_19 ev2 ?_
        refine kw_iload_n dX8_byteAt_22 rfl ?_
        obtain ⟨v3, ev3, h⟩ := Option.bind_eq_some_iff.mp h
        refine kv_ldI dX8_byteAt_23 ev3 ?_
        refine kw_goto 28 dX8_byteAt_24 (by decide) ?_
        have h := Option.some.inj h
        subst h
        exact kw_iret rfl dX8_byteAt_28 hK
/-! KitchenWheels$Tape.kindOf(I)I -/
def X8_kindOf_F (hp : kw_H) (x0 : Int32) : Option (Int32) :=
  (if x0 = nI 98 then
  some (nI 3)
else if x0 = nI 108 then
  some (nI 4)
else if x0 = nI 111 then
  some (nI 1)
else if x0 = nI 114 then
  some (nI 5)
else if x0 = nI 115 then
  some (nI 2)
else 
  some (nI 0))
set_option maxRecDepth 100000 in
set_option maxHeartbeats 4000000 in
theorem X8_kindOf_c (G : kw_G) (hp : kw_H) (x0 : Int32) (r : Int32) (h : X8_kindOf_F hp x0 = some r) : kw_Met G mX8_kindOf [.int x0] hp (fun v h2 => v = some (.int r) ∧ h2 = hp) := by
  refine kw_met (L := [some (.int x0)]) (r := 0) (by decide +kernel) (Nat.le_of_ble_eq_true rfl) rfl ?_
  unfold X8_kindOf_F at h
  obtain ⟨Q, hQ⟩ : ∃ Q : Option Value → kw_H → Prop, Q = (fun v h2 => v = some (.int r) ∧ h2 = hp) := ⟨_, rfl⟩
  have hK : Q (some (.int r)) hp := by rw [hQ]; exact ⟨rfl, rfl⟩
  rw [← hQ]
  clear hQ
  refine kw_iload_n dX8_kindOf_0 rfl ?_
  by_cases c1 : x0 = nI 98
  · refine kw_lookup (off := 55) 56 dX8_kindOf_1 (by decide) (by rw [c1]; decide) (by decide) ?_
    have h := (if_pos c1).symm.trans h
    refine kw_iconst (v := nI 3) dX8_kindOf_56 (by decide) ?_
    have h := Option.some.inj h
    subst h
    exact kw_iret rfl dX8_kindOf_57 hK
  · have h := (if_neg c1).symm.trans h
    by_cases c2 : x0 = nI 108
    · refine kw_lookup (off := 57) 58 dX8_kindOf_1 (by decide) (by rw [c2]; decide) (by decide) ?_
      have h := (if_pos c2).symm.trans h
      refine kw_iconst (v := nI 4) dX8_kindOf_58 (by decide) ?_
      have h := Option.some.inj h
      subst h
      exact kw_iret rfl dX8_kindOf_59 hK
    · have h := (if_neg c2).symm.trans h
      by_cases c3 : x0 = nI 111
      · refine kw_lookup (off := 51) 52 dX8_kindOf_1 (by decide) (by rw [c3]; decide) (by decide) ?_
        have h := (if_pos c3).symm.trans h
        refine kw_iconst (v := nI 1) dX8_kindOf_52 (by decide) ?_
        have h := Option.some.inj h
        subst h
        exact kw_iret rfl dX8_kindOf_53 hK
      · have h := (if_neg c3).symm.trans h
        by_cases c4 : x0 = nI 114
        · refine kw_lookup (off := 59) 60 dX8_kindOf_1 (by decide) (by rw [c4]; decide) (by decide) ?_
          have h := (if_pos c4).symm.trans h
          refine kw_iconst (v := nI 5) dX8_kindOf_60 (by decide) ?_
          have h := Option.some.inj h
          subst h
          exact kw_iret rfl dX8_kindOf_61 hK
        · have h := (if_neg c4).symm.trans h
          by_cases c5 : x0 = nI 115
          · refine kw_lookup (off := 53) 54 dX8_kindOf_1 (by decide) (by rw [c5]; decide) (by decide) ?_
            have h := (if_pos c5).symm.trans h
            refine kw_iconst (v := nI 2) dX8_kindOf_54 (by decide) ?_
            have h := Option.some.inj h
            subst h
            exact kw_iret rfl dX8_kindOf_55 hK
          · have h := (if_neg c5).symm.trans h
            refine kw_lookup (off := 61) 62 dX8_kindOf_1 (by decide) (by show Op.lookupswitch.offset [(98, 55), (108, 57), (111, 51), (114, 59), (115, 53)] 61 _ = _; rw [lv_osw (a := 98) c1 (by decide), lv_osw (a := 108) c2 (by decide), lv_osw (a := 111) c3 (by decide), lv_osw (a := 114) c4 (by decide), lv_osw (a := 115) c5 (by decide)]; rfl) (by decide) ?_
            refine kw_iconst (v := nI 0) dX8_kindOf_62 (by decide) ?_
            have h := Option.some.inj h
            subst h
            exact kw_iret rfl dX8_kindOf_63 hK
/-! KitchenWheels$Tape.passes(I)Z -/
def X8_passes_F (hp : kw_H) (x0 : Nat) (x1 : Int32) : Option (Int32 × kw_H) :=
  (kp_gI hp x0 [8] 4).bind fun v1 =>
  ((kp_ob hp x0 8).bind fun _ => X8_byteAt_F hp x0 v1).bind fun r2 =>
  (if r2 = x1 then
  (kp_gI hp x0 [8] 4).bind fun v3 =>
  (kp_put hp x0 [8] 4 (.int (v3 + (nI 1)))).bind fun hp4 =>
  some ((nI 1, hp4))
else
  (kp_put hp x0 [8] 3 (.int (nI 1))).bind fun hp5 =>
  some ((nI 0, hp5)))
set_option maxRecDepth 100000 in
set_option maxHeartbeats 4000000 in
theorem X8_passes_c (G : kw_G) (hp : kw_H) (x0 : Nat) (x1 : Int32) (r : Int32 × kw_H) (h : X8_passes_F hp x0 x1 = some r) : kw_Met G mX8_passes [.ref x0, .int x1] hp (fun v h2 => v = some (.int r.1) ∧ h2 = r.2) := by
  refine kw_met (L := [some (.ref x0), some (.int x1)]) (r := 0) (by decide +kernel) (Nat.le_of_ble_eq_true rfl) rfl ?_
  unfold X8_passes_F at h
  obtain ⟨Q, hQ⟩ : ∃ Q : Option Value → kw_H → Prop, Q = (fun v h2 => v = some (.int r.1) ∧ h2 = r.2) := ⟨_, rfl⟩
  have hK : Q (some (.int r.1)) r.2 := by rw [hQ]; exact ⟨rfl, rfl⟩
  rw [← hQ]
  clear hQ
  refine kw_aload_n dX8_passes_0 rfl ?_
  refine kw_aload_n dX8_passes_1 rfl ?_
  obtain ⟨v1, ev1, h⟩ := Option.bind_eq_some_iff.mp h
  refine kv_gI gfX8_26 dX8_passes_2 ev1 ?_
  obtain ⟨r2, er2, h⟩ := Option.bind_eq_some_iff.mp h
  obtain ⟨ur2, eur2, er2⟩ := Option.bind_eq_some_iff.mp er2
  obtain ⟨fsr2, hor2⟩ := kp_ob_inv eur2
  refine kw_callV (As := [.int v1]) (S := []) kcX8 cbX8_passes_X8_byteAt lkX8_59 imX8_byteAt seX8_X8_byteAt_X8_byteAt rfl rfl (Nat.le_of_ble_eq_true rfl) dX8_passes_5 hor2 (X8_byteAt_c G hp x0 v1 _ er2) (fun vv hh hq => ?_)
  rw [hq.1, hq.2]
  show kw_V G mX8_passes 8 [some (.ref x0), some (.int x1)] [.int r2] hp Q
  refine kw_iload_n dX8_passes_8 rfl ?_
  refine kw_icmp_eq 19 dX8_passes_9 (by decide) (fun c6 => ?_) (fun c6 => ?_)
  · have h := (if_pos c6).symm.trans h
    refine kw_aload_n dX8_passes_19 rfl ?_
    refine kw_dup dX8_passes_20 rfl ?_
    obtain ⟨v3, ev3, h⟩ := Option.bind_eq_some_iff.mp h
    refine kv_gI gfX8_26 dX8_passes_21 ev3 ?_
    refine kw_iconst (v := nI 1) dX8_passes_24 (by decide) ?_
    refine kw_iadd dX8_passes_25 ?_
    obtain ⟨hp4, ehp4, h⟩ := Option.bind_eq_some_iff.mp h
    refine kv_put pfX8_passes_26 (fun _ => ⟨rfl, rfl⟩) dX8_passes_26 ehp4 ?_
    refine kw_iconst (v := nI 1) dX8_passes_29 (by decide) ?_
    have h := Option.some.inj h
    subst h
    exact kw_zret rfl (Or.inr rfl) dX8_passes_30 hK
  · have h := (if_neg c6).symm.trans h
    refine kw_aload_n dX8_passes_12 rfl ?_
    refine kw_iconst (v := nI 1) dX8_passes_13 (by decide) ?_
    obtain ⟨hp5, ehp5, h⟩ := Option.bind_eq_some_iff.mp h
    refine kv_put pfX8_passes_29 (fun _ => ⟨rfl, rfl⟩) dX8_passes_14 ehp5 ?_
    refine kw_iconst (v := nI 0) dX8_passes_17 (by decide) ?_
    have h := Option.some.inj h
    subst h
    exact kw_zret rfl (Or.inl rfl) dX8_passes_18 hK
/-! KitchenWheels$Tape.readBy()I -/
def X8_readBy_K4 (G : kw_G) (Q : Option Value → kw_H → Prop) (hp : kw_H) (x0 : Nat) (r : (Int32 × Int32) ⊕ (Int32 × kw_H)) : Prop := match r with
  | .inl z => kw_V G mX8_readBy 4 [some (.ref x0), some (.int z.1), some (.int z.2)] [] hp Q
  | .inr r => Q (some (.int r.1)) r.2
def X8_readBy_J54 (hp : kw_H) (x0 : Nat) (x1 : Int32) (x2 : Int32) : Option (Int32 × kw_H) :=
  (if x1 = 0 then
  (kp_put hp x0 [8] 3 (.int (nI 1))).bind fun hp1 =>
  some ((x2, hp1))
else
  (if x1 ≤ (nI 2) then
  (if x2 ≤ (nI 9) then
  (kp_gI hp x0 [8] 4).bind fun v2 =>
  (kp_put hp x0 [8] 4 (.int (v2 + x1))).bind fun hp3 =>
  some ((x2, hp3))
else
  (kp_put hp x0 [8] 3 (.int (nI 2))).bind fun hp4 =>
  some ((x2, hp4)))
else
  (kp_put hp x0 [8] 3 (.int (nI 1))).bind fun hp6 =>
  some ((x2, hp6))))
set_option maxRecDepth 100000 in
set_option maxHeartbeats 4000000 in
theorem X8_readBy_J54_t (G : kw_G) (Q : Option Value → kw_H → Prop) (hp : kw_H) (x0 : Nat) (x1 : Int32) (x2 : Int32) (r : Int32 × kw_H) (h : X8_readBy_J54 hp x0 x1 x2 = some r) (hK : Q (some (.int r.1)) r.2) : kw_V G mX8_readBy 54 [some (.ref x0), some (.int x1), some (.int x2)] [] hp Q := by
  unfold X8_readBy_J54 at h
  refine kw_iload_n dX8_readBy_54 rfl ?_
  refine kw_if_eq 63 dX8_readBy_55 (by decide) (fun c8 => ?_) (fun c8 => ?_)
  · have h := (if_pos c8).symm.trans h
    refine kw_aload_n dX8_readBy_63 rfl ?_
    refine kw_iconst (v := nI 1) dX8_readBy_64 (by decide) ?_
    obtain ⟨hp1, ehp1, h⟩ := Option.bind_eq_some_iff.mp h
    refine kv_put pfX8_readBy_29 (fun _ => ⟨rfl, rfl⟩) dX8_readBy_65 ehp1 ?_
    refine kw_goto 95 dX8_readBy_68 (by decide) ?_
    refine kw_iload_n dX8_readBy_95 rfl ?_
    have h := Option.some.inj h
    subst h
    exact kw_iret rfl dX8_readBy_96 hK
  · have h := (if_neg c8).symm.trans h
    refine kw_iload_n dX8_readBy_58 rfl ?_
    refine kw_iconst (v := nI 2) dX8_readBy_59 (by decide) ?_
    refine kw_icmp_le 71 dX8_readBy_60 (by decide) (fun c7 => ?_) (fun c7 => ?_)
    · have h := (if_pos c7).symm.trans h
      refine kw_iload_n dX8_readBy_71 rfl ?_
      refine kw_bipush (v := nI 9) dX8_readBy_72 (by decide) ?_
      refine kw_icmp_le 85 dX8_readBy_74 (by decide) (fun c5 => ?_) (fun c5 => ?_)
      · have h := (if_pos c5).symm.trans h
        refine kw_aload_n dX8_readBy_85 rfl ?_
        refine kw_dup dX8_readBy_86 rfl ?_
        obtain ⟨v2, ev2, h⟩ := Option.bind_eq_some_iff.mp h
        refine kv_gI gfX8_26 dX8_readBy_87 ev2 ?_
        refine kw_iload_n dX8_readBy_90 rfl ?_
        refine kw_iadd dX8_readBy_91 ?_
        obtain ⟨hp3, ehp3, h⟩ := Option.bind_eq_some_iff.mp h
        refine kv_put pfX8_readBy_26 (fun _ => ⟨rfl, rfl⟩) dX8_readBy_92 ehp3 ?_
        refine kw_iload_n dX8_readBy_95 rfl ?_
        have h := Option.some.inj h
        subst h
        exact kw_iret rfl dX8_readBy_96 hK
      · have h := (if_neg c5).symm.trans h
        refine kw_aload_n dX8_readBy_77 rfl ?_
        refine kw_iconst (v := nI 2) dX8_readBy_78 (by decide) ?_
        obtain ⟨hp4, ehp4, h⟩ := Option.bind_eq_some_iff.mp h
        refine kv_put pfX8_readBy_29 (fun _ => ⟨rfl, rfl⟩) dX8_readBy_79 ehp4 ?_
        refine kw_goto 95 dX8_readBy_82 (by decide) ?_
        refine kw_iload_n dX8_readBy_95 rfl ?_
        have h := Option.some.inj h
        subst h
        exact kw_iret rfl dX8_readBy_96 hK
    · have h := (if_neg c7).symm.trans h
      refine kw_aload_n dX8_readBy_63 rfl ?_
      refine kw_iconst (v := nI 1) dX8_readBy_64 (by decide) ?_
      obtain ⟨hp6, ehp6, h⟩ := Option.bind_eq_some_iff.mp h
      refine kv_put pfX8_readBy_29 (fun _ => ⟨rfl, rfl⟩) dX8_readBy_65 ehp6 ?_
      refine kw_goto 95 dX8_readBy_68 (by decide) ?_
      refine kw_iload_n dX8_readBy_95 rfl ?_
      have h := Option.some.inj h
      subst h
      exact kw_iret rfl dX8_readBy_96 hK
def X8_readBy_b4 (hp : kw_H) (x0 : Nat) (x1 : Int32) (x2 : Int32) : Option (((Int32 × Int32) ⊕ (Int32 × kw_H))) :=
  (if (nI 2) < x1 then
  (X8_readBy_J54 hp x0 x1 x2).map (fun r => .inr (r))
else
  (kp_gI hp x0 [8] 4).bind fun v10 =>
  ((kp_ob hp x0 8).bind fun _ => X8_byteAt_F hp x0 (v10 + x1)).bind fun r11 =>
  (X11_within_F hp r11 (nI 48) (nI 57)).bind fun r12 =>
  (if r12 = 0 then
  (X8_readBy_J54 hp x0 x1 x2).map (fun r => .inr (r))
else
  (kp_gI hp x0 [8] 4).bind fun v14 =>
  ((kp_ob hp x0 8).bind fun _ => X8_byteAt_F hp x0 (v14 + x1)).bind fun r15 =>
  some (.inl (x1 + (nI 1), ((x2 * (nI 10)) + r15) - (nI 48)))))
set_option maxRecDepth 100000 in
set_option maxHeartbeats 4000000 in
theorem X8_readBy_b4_t (G : kw_G) (Q : Option Value → kw_H → Prop) (hp : kw_H) (x0 : Nat) (x1 : Int32) (x2 : Int32) (r : ((Int32 × Int32) ⊕ (Int32 × kw_H))) (h : X8_readBy_b4 hp x0 x1 x2 = some r) (hK : X8_readBy_K4 G Q hp x0 r) : kw_V G mX8_readBy 4 [some (.ref x0), some (.int x1), some (.int x2)] [] hp Q := by
  unfold X8_readBy_b4 at h
  refine kw_iload_n dX8_readBy_4 rfl ?_
  refine kw_iconst (v := nI 2) dX8_readBy_5 (by decide) ?_
  refine kw_icmp_gt 54 dX8_readBy_6 (by decide) (fun c17 => ?_) (fun c17 => ?_)
  · have h := (if_pos c17).symm.trans h
    obtain ⟨r9, hr9, hrr9⟩ := Option.map_eq_some_iff.mp h
    subst hrr9
    exact X8_readBy_J54_t G Q hp x0 x1 x2 r9 hr9 hK
  · have h := (if_neg c17).symm.trans h
    refine kw_aload_n dX8_readBy_9 rfl ?_
    refine kw_aload_n dX8_readBy_10 rfl ?_
    obtain ⟨v10, ev10, h⟩ := Option.bind_eq_some_iff.mp h
    refine kv_gI gfX8_26 dX8_readBy_11 ev10 ?_
    refine kw_iload_n dX8_readBy_14 rfl ?_
    refine kw_iadd dX8_readBy_15 ?_
    obtain ⟨r11, er11, h⟩ := Option.bind_eq_some_iff.mp h
    obtain ⟨ur11, eur11, er11⟩ := Option.bind_eq_some_iff.mp er11
    obtain ⟨fsr11, hor11⟩ := kp_ob_inv eur11
    refine kw_callV (As := [.int (v10 + x1)]) (S := []) kcX8 cbX8_readBy_X8_byteAt lkX8_59 imX8_byteAt seX8_X8_byteAt_X8_byteAt rfl rfl (Nat.le_of_ble_eq_true rfl) dX8_readBy_16 hor11 (X8_byteAt_c G hp x0 (v10 + x1) _ er11) (fun vv hh hq => ?_)
    rw [hq.1, hq.2]
    show kw_V G mX8_readBy 19 [some (.ref x0), some (.int x1), some (.int x2)] [.int r11] hp Q
    refine kw_bipush (v := nI 48) dX8_readBy_19 (by decide) ?_
    refine kw_bipush (v := nI 57) dX8_readBy_21 (by decide) ?_
    obtain ⟨r12, er12, h⟩ := Option.bind_eq_some_iff.mp h
    refine kw_callSN (As := [.int r11, .int (nI 48), .int (nI 57)]) (S := []) cbX8_readBy_X11_within lnX8_84 stX11_within rfl rfl (Nat.le_of_ble_eq_true rfl) dX8_readBy_23 (X11_within_c G hp r11 (nI 48) (nI 57) _ er12) (fun vv hh hq => ?_)
    rw [hq.1, hq.2]
    show kw_V G mX8_readBy 26 [some (.ref x0), some (.int x1), some (.int x2)] [.int r12] hp Q
    refine kw_if_eq 54 dX8_readBy_26 (by decide) (fun c16 => ?_) (fun c16 => ?_)
    · have h := (if_pos c16).symm.trans h
      obtain ⟨r13, hr13, hrr13⟩ := Option.map_eq_some_iff.mp h
      subst hrr13
      exact X8_readBy_J54_t G Q hp x0 x1 x2 r13 hr13 hK
    · have h := (if_neg c16).symm.trans h
      refine kw_iload_n dX8_readBy_29 rfl ?_
      refine kw_bipush (v := nI 10) dX8_readBy_30 (by decide) ?_
      refine kw_imul dX8_readBy_32 ?_
      refine kw_aload_n dX8_readBy_33 rfl ?_
      refine kw_aload_n dX8_readBy_34 rfl ?_
      obtain ⟨v14, ev14, h⟩ := Option.bind_eq_some_iff.mp h
      refine kv_gI gfX8_26 dX8_readBy_35 ev14 ?_
      refine kw_iload_n dX8_readBy_38 rfl ?_
      refine kw_iadd dX8_readBy_39 ?_
      obtain ⟨r15, er15, h⟩ := Option.bind_eq_some_iff.mp h
      obtain ⟨ur15, eur15, er15⟩ := Option.bind_eq_some_iff.mp er15
      obtain ⟨fsr15, hor15⟩ := kp_ob_inv eur15
      refine kw_callV (As := [.int (v14 + x1)]) (S := [.int (x2 * (nI 10))]) kcX8 cbX8_readBy_X8_byteAt lkX8_59 imX8_byteAt seX8_X8_byteAt_X8_byteAt rfl rfl (Nat.le_of_ble_eq_true rfl) dX8_readBy_40 hor15 (X8_byteAt_c G hp x0 (v14 + x1) _ er15) (fun vv hh hq => ?_)
      rw [hq.1, hq.2]
      show kw_V G mX8_readBy 43 [some (.ref x0), some (.int x1), some (.int x2)] [.int r15, .int (x2 * (nI 10))] hp Q
      refine kw_iadd dX8_readBy_43 ?_
      refine kw_bipush (v := nI 48) dX8_readBy_44 (by decide) ?_
      refine kw_isub dX8_readBy_46 ?_
      refine kw_istore_n (L' := [some (.ref x0), some (.int x1), some (.int (((x2 * (nI 10)) + r15) - (nI 48)))]) dX8_readBy_47 (by decide) rfl ?_
      refine kv_iinc (w := nI 1) (L' := [some (.ref x0), some (.int (x1 + (nI 1))), some (.int (((x2 * (nI 10)) + r15) - (nI 48)))]) dX8_readBy_48 (by decide) rfl (by decide) rfl ?_
      refine kw_goto 4 dX8_readBy_51 (by decide) ?_
      have h := Option.some.inj h
      subst h
      exact hK
def X8_readBy_B4 (hp : kw_H) (x0 : Nat) (z : Int32 × Int32) : Option (((Int32 × Int32) ⊕ (Int32 × kw_H))) := X8_readBy_b4 hp x0 z.1 z.2
theorem X8_readBy_L4_t (G : kw_G) (Q : Option Value → kw_H → Prop) (hp : kw_H) (x0 : Nat) (n : Nat) (z : Int32 × Int32) (r : Int32 × kw_H) (h : kp_lp (X8_readBy_B4 hp x0) n z = some r) (hK : Q (some (.int r.1)) r.2) : kw_V G mX8_readBy 4 [some (.ref x0), some (.int z.1), some (.int z.2)] [] hp Q :=
  kv_lp _ (fun z => kw_V G mX8_readBy 4 [some (.ref x0), some (.int z.1), some (.int z.2)] [] hp Q) (fun r => Q (some (.int r.1)) r.2) (fun z x hb hx => X8_readBy_b4_t G Q hp x0 z.1 z.2 x hb (by cases x <;> exact hx)) n z r h hK
def X8_readBy_F (hp : kw_H) (x0 : Nat) : Option (Int32 × kw_H) :=
  kp_lp (X8_readBy_B4 hp x0) 2000 (nI 0, nI 0)
set_option maxRecDepth 100000 in
set_option maxHeartbeats 4000000 in
theorem X8_readBy_c (G : kw_G) (hp : kw_H) (x0 : Nat) (r : Int32 × kw_H) (h : X8_readBy_F hp x0 = some r) : kw_Met G mX8_readBy [.ref x0] hp (fun v h2 => v = some (.int r.1) ∧ h2 = r.2) := by
  refine kw_met (L := [some (.ref x0), none, none]) (r := 2) (by decide +kernel) (Nat.le_of_ble_eq_true rfl) rfl ?_
  unfold X8_readBy_F at h
  obtain ⟨Q, hQ⟩ : ∃ Q : Option Value → kw_H → Prop, Q = (fun v h2 => v = some (.int r.1) ∧ h2 = r.2) := ⟨_, rfl⟩
  have hK : Q (some (.int r.1)) r.2 := by rw [hQ]; exact ⟨rfl, rfl⟩
  rw [← hQ]
  clear hQ
  refine kw_iconst (v := nI 0) dX8_readBy_0 (by decide) ?_
  refine kw_istore_n (L' := [some (.ref x0), some (.int (nI 0)), none]) dX8_readBy_1 (by decide) rfl ?_
  refine kw_iconst (v := nI 0) dX8_readBy_2 (by decide) ?_
  refine kw_istore_n (L' := [some (.ref x0), some (.int (nI 0)), some (.int (nI 0))]) dX8_readBy_3 (by decide) rfl ?_
  exact X8_readBy_L4_t G Q hp x0 _ (nI 0, nI 0) _ h hK
/-! KitchenWheels$Tape.readTurner(I)V -/
def X8_readTurner_F (hp : kw_H) (x0 : Nat) (x1 : Int32) : Option (kw_H) :=
  (kp_gI hp x0 [8] 4).bind fun v1 =>
  ((kp_ob hp x0 8).bind fun _ => X8_byteAt_F hp x0 v1).bind fun r2 =>
  (X8_kindOf_F hp r2).bind fun r3 =>
  (if r3 = 0 then
  (kp_put hp x0 [8] 3 (.int (nI 1))).bind fun hp26 =>
  some (hp26)
else
  (if x1 < 0 then
  (kp_put hp x0 [8] 3 (.int (nI 3))).bind fun hp4 =>
  some (hp4)
else
  (if x1 < (nI 4) then
  (kp_gI hp x0 [8] 4).bind fun v5 =>
  (kp_put hp x0 [8] 4 (.int (v5 + (nI 1)))).bind fun hp6 =>
  ((kp_ob hp6 x0 8).bind fun _ => X8_readBy_F hp6 x0).bind fun r7 =>
  (kp_gI r7.2 x0 [8] 3).bind fun v8 =>
  (if v8 = 0 then
  ((kp_ob r7.2 x0 8).bind fun _ => X8_passes_F r7.2 x0 (nI 59)).bind fun r9 =>
  (if r9.1 = 0 then
  some (r9.2)
else
  (kp_gR r9.2 x0 [8] 2).bind fun v10 =>
  (kp_gR r9.2 v10 [2] 2).bind fun v11 =>
  (X10_made_F r9.2 r3 x1 r7.1).bind fun r12 =>
  kp_spl r12 fun o13 hpo13 =>
  kp_nu o13 ((kp_stR hpo13 3 v11 x1 none [0, 3, 4, 5, 7]).bind fun hp15 =>
  (kp_gR hp15 x0 [8] 2).bind fun v16 =>
  (kp_put hp15 v16 [2] 6 (.int (x1 + (nI 1)))).bind fun hp17 =>
  some (hp17)) (fun b14 =>
  (kp_stR hpo13 3 v11 x1 (some b14) [0, 3, 4, 5, 7]).bind fun hp18 =>
  (kp_gR hp18 x0 [8] 2).bind fun v19 =>
  (kp_put hp18 v19 [2] 6 (.int (x1 + (nI 1)))).bind fun hp20 =>
  some (hp20)))
else
  some (r7.2))
else
  (kp_put hp x0 [8] 3 (.int (nI 3))).bind fun hp23 =>
  some (hp23))))
set_option maxRecDepth 100000 in
set_option maxHeartbeats 4000000 in
theorem X8_readTurner_c (G : kw_G) (hp : kw_H) (x0 : Nat) (x1 : Int32) (r : kw_H) (h : X8_readTurner_F hp x0 x1 = some r) : kw_Met G mX8_readTurner [.ref x0, .int x1] hp (fun v h2 => v = none ∧ h2 = r) := by
  refine kw_met (L := [some (.ref x0), some (.int x1), none, none]) (r := 2) (by decide +kernel) (Nat.le_of_ble_eq_true rfl) rfl ?_
  unfold X8_readTurner_F at h
  obtain ⟨Q, hQ⟩ : ∃ Q : Option Value → kw_H → Prop, Q = (fun v h2 => v = none ∧ h2 = r) := ⟨_, rfl⟩
  have hK : Q none r := by rw [hQ]; exact ⟨rfl, rfl⟩
  rw [← hQ]
  clear hQ
  refine kw_aload_n dX8_readTurner_0 rfl ?_
  refine kw_aload_n dX8_readTurner_1 rfl ?_
  obtain ⟨v1, ev1, h⟩ := Option.bind_eq_some_iff.mp h
  refine kv_gI gfX8_26 dX8_readTurner_2 ev1 ?_
  obtain ⟨r2, er2, h⟩ := Option.bind_eq_some_iff.mp h
  obtain ⟨ur2, eur2, er2⟩ := Option.bind_eq_some_iff.mp er2
  obtain ⟨fsr2, hor2⟩ := kp_ob_inv eur2
  refine kw_callV (As := [.int v1]) (S := []) kcX8 cbX8_readTurner_X8_byteAt lkX8_59 imX8_byteAt seX8_X8_byteAt_X8_byteAt rfl rfl (Nat.le_of_ble_eq_true rfl) dX8_readTurner_5 hor2 (X8_byteAt_c G hp x0 v1 _ er2) (fun vv hh hq => ?_)
  rw [hq.1, hq.2]
  show kw_V G mX8_readTurner 8 [some (.ref x0), some (.int x1), none, none] [.int r2] hp Q
  obtain ⟨r3, er3, h⟩ := Option.bind_eq_some_iff.mp h
  refine kw_callS (As := [.int r2]) (S := []) cbX8_readTurner_X8_kindOf lkX8_67 stX8_kindOf rfl rfl (Nat.le_of_ble_eq_true rfl) dX8_readTurner_8 (X8_kindOf_c G hp r2 _ er3) (fun vv hh hq => ?_)
  rw [hq.1, hq.2]
  show kw_V G mX8_readTurner 11 [some (.ref x0), some (.int x1), none, none] [.int r3] hp Q
  refine kw_istore_n (L' := [some (.ref x0), some (.int x1), some (.int r3), none]) dX8_readTurner_11 (by decide) rfl ?_
  refine kw_iload_n dX8_readTurner_12 rfl ?_
  refine kw_if_ne 22 dX8_readTurner_13 (by decide) (fun c27 => ?_) (fun c27 => ?_)
  · have h := (if_neg c27).symm.trans h
    refine kw_iload_n dX8_readTurner_22 rfl ?_
    refine kw_if_lt 31 dX8_readTurner_23 (by decide) (fun c25 => ?_) (fun c25 => ?_)
    · have h := (if_pos c25).symm.trans h
      refine kw_aload_n dX8_readTurner_31 rfl ?_
      refine kw_iconst (v := nI 3) dX8_readTurner_32 (by decide) ?_
      obtain ⟨hp4, ehp4, h⟩ := Option.bind_eq_some_iff.mp h
      refine kv_put pfX8_readTurner_29 (fun _ => ⟨rfl, rfl⟩) dX8_readTurner_33 ehp4 ?_
      have h := Option.some.inj h
      subst h
      exact kw_vret rfl dX8_readTurner_36 hK
    · have h := (if_neg c25).symm.trans h
      refine kw_iload_n dX8_readTurner_26 rfl ?_
      refine kw_iconst (v := nI 4) dX8_readTurner_27 (by decide) ?_
      refine kw_icmp_lt 37 dX8_readTurner_28 (by decide) (fun c24 => ?_) (fun c24 => ?_)
      · have h := (if_pos c24).symm.trans h
        refine kw_aload_n dX8_readTurner_37 rfl ?_
        refine kw_dup dX8_readTurner_38 rfl ?_
        obtain ⟨v5, ev5, h⟩ := Option.bind_eq_some_iff.mp h
        refine kv_gI gfX8_26 dX8_readTurner_39 ev5 ?_
        refine kw_iconst (v := nI 1) dX8_readTurner_42 (by decide) ?_
        refine kw_iadd dX8_readTurner_43 ?_
        obtain ⟨hp6, ehp6, h⟩ := Option.bind_eq_some_iff.mp h
        refine kv_put pfX8_readTurner_26 (fun _ => ⟨rfl, rfl⟩) dX8_readTurner_44 ehp6 ?_
        refine kw_aload_n dX8_readTurner_47 rfl ?_
        obtain ⟨r7, er7, h⟩ := Option.bind_eq_some_iff.mp h
        obtain ⟨ur7, eur7, er7⟩ := Option.bind_eq_some_iff.mp er7
        obtain ⟨fsr7, hor7⟩ := kp_ob_inv eur7
        refine kw_callV (As := []) (S := []) kcX8 cbX8_readTurner_X8_readBy lkX8_70 imX8_readBy seX8_X8_readBy_X8_readBy rfl rfl (Nat.le_of_ble_eq_true rfl) dX8_readTurner_48 hor7 (X8_readBy_c G hp6 x0 _ er7) (fun vv hh hq => ?_)
        rw [hq.1, hq.2]
        show kw_V G mX8_readTurner 51 [some (.ref x0), some (.int x1), some (.int r3), none] [.int r7.1] r7.2 Q
        refine kw_istore_n (L' := [some (.ref x0), some (.int x1), some (.int r3), some (.int r7.1)]) dX8_readTurner_51 (by decide) rfl ?_
        refine kw_aload_n dX8_readTurner_52 rfl ?_
        obtain ⟨v8, ev8, h⟩ := Option.bind_eq_some_iff.mp h
        refine kv_gI gfX8_29 dX8_readTurner_53 ev8 ?_
        refine kw_if_ne 93 dX8_readTurner_56 (by decide) (fun c22 => ?_) (fun c22 => ?_)
        · have h := (if_neg c22).symm.trans h
          have h := Option.some.inj h
          subst h
          exact kw_vret rfl dX8_readTurner_93 hK
        · have h := (if_pos c22).symm.trans h
          refine kw_aload_n dX8_readTurner_59 rfl ?_
          refine kw_bipush (v := nI 59) dX8_readTurner_60 (by decide) ?_
          obtain ⟨r9, er9, h⟩ := Option.bind_eq_some_iff.mp h
          obtain ⟨ur9, eur9, er9⟩ := Option.bind_eq_some_iff.mp er9
          obtain ⟨fsr9, hor9⟩ := kp_ob_inv eur9
          refine kw_callV (As := [.int (nI 59)]) (S := []) kcX8 cbX8_readTurner_X8_passes lkX8_55 imX8_passes seX8_X8_passes_X8_passes rfl rfl (Nat.le_of_ble_eq_true rfl) dX8_readTurner_62 hor9 (X8_passes_c G r7.2 x0 (nI 59) _ er9) (fun vv hh hq => ?_)
          rw [hq.1, hq.2]
          show kw_V G mX8_readTurner 65 [some (.ref x0), some (.int x1), some (.int r3), some (.int r7.1)] [.int r9.1] r9.2 Q
          refine kw_if_eq 93 dX8_readTurner_65 (by decide) (fun c21 => ?_) (fun c21 => ?_)
          · have h := (if_pos c21).symm.trans h
            have h := Option.some.inj h
            subst h
            exact kw_vret rfl dX8_readTurner_93 hK
          · have h := (if_neg c21).symm.trans h
            refine kw_aload_n dX8_readTurner_68 rfl ?_
            obtain ⟨v10, ev10, h⟩ := Option.bind_eq_some_iff.mp h
            refine kv_gR gfX8_18 dX8_readTurner_69 ev10 ?_
            obtain ⟨v11, ev11, h⟩ := Option.bind_eq_some_iff.mp h
            refine kv_gR gfX8_74 dX8_readTurner_72 ev11 ?_
            refine kw_iload_n dX8_readTurner_75 rfl ?_
            refine kw_iload_n dX8_readTurner_76 rfl ?_
            refine kw_iload_n dX8_readTurner_77 rfl ?_
            refine kw_iload_n dX8_readTurner_78 rfl ?_
            obtain ⟨r12, er12, h⟩ := Option.bind_eq_some_iff.mp h
            refine kw_callS (As := [.int r3, .int x1, .int r7.1]) (S := [.int x1, .ref v11]) cbX8_readTurner_X10_made lkX8_78 stX10_made rfl rfl (Nat.le_of_ble_eq_true rfl) dX8_readTurner_79 (X10_made_c G r9.2 r3 x1 r7.1 _ er12) (fun vv hh hq => ?_)
            rw [hq.1, hq.2]
            obtain ⟨o13, hpo13⟩ := r12
            dsimp only [kp_spl] at h ⊢
            show kw_V G mX8_readTurner 82 [some (.ref x0), some (.int x1), some (.int r3), some (.int r7.1)] (va_rf o13 :: [.int x1, .ref v11]) hpo13 Q
            cases o13 with
            | none =>
              dsimp only [kp_nu, va_rf] at h ⊢
              obtain ⟨hp15, ehp15, h⟩ := Option.bind_eq_some_iff.mp h
              refine kv_stRN (by decide) dX8_readTurner_82 ehp15 ?_
              refine kw_aload_n dX8_readTurner_83 rfl ?_
              obtain ⟨v16, ev16, h⟩ := Option.bind_eq_some_iff.mp h
              refine kv_gR gfX8_18 dX8_readTurner_84 ev16 ?_
              refine kw_iload_n dX8_readTurner_87 rfl ?_
              refine kw_iconst (v := nI 1) dX8_readTurner_88 (by decide) ?_
              refine kw_iadd dX8_readTurner_89 ?_
              obtain ⟨hp17, ehp17, h⟩ := Option.bind_eq_some_iff.mp h
              refine kv_put pfX8_readTurner_32 (fun _ => ⟨rfl, rfl⟩) dX8_readTurner_90 ehp17 ?_
              have h := Option.some.inj h
              subst h
              exact kw_vret rfl dX8_readTurner_93 hK
            | some b14 =>
              dsimp only [kp_nu, va_rf] at h ⊢
              obtain ⟨hp18, ehp18, h⟩ := Option.bind_eq_some_iff.mp h
              refine kv_stR ao3 dX8_readTurner_82 ehp18 ?_
              refine kw_aload_n dX8_readTurner_83 rfl ?_
              obtain ⟨v19, ev19, h⟩ := Option.bind_eq_some_iff.mp h
              refine kv_gR gfX8_18 dX8_readTurner_84 ev19 ?_
              refine kw_iload_n dX8_readTurner_87 rfl ?_
              refine kw_iconst (v := nI 1) dX8_readTurner_88 (by decide) ?_
              refine kw_iadd dX8_readTurner_89 ?_
              obtain ⟨hp20, ehp20, h⟩ := Option.bind_eq_some_iff.mp h
              refine kv_put pfX8_readTurner_32 (fun _ => ⟨rfl, rfl⟩) dX8_readTurner_90 ehp20 ?_
              have h := Option.some.inj h
              subst h
              exact kw_vret rfl dX8_readTurner_93 hK
      · have h := (if_neg c24).symm.trans h
        refine kw_aload_n dX8_readTurner_31 rfl ?_
        refine kw_iconst (v := nI 3) dX8_readTurner_32 (by decide) ?_
        obtain ⟨hp23, ehp23, h⟩ := Option.bind_eq_some_iff.mp h
        refine kv_put pfX8_readTurner_29 (fun _ => ⟨rfl, rfl⟩) dX8_readTurner_33 ehp23 ?_
        have h := Option.some.inj h
        subst h
        exact kw_vret rfl dX8_readTurner_36 hK
  · have h := (if_pos c27).symm.trans h
    refine kw_aload_n dX8_readTurner_16 rfl ?_
    refine kw_iconst (v := nI 1) dX8_readTurner_17 (by decide) ?_
    obtain ⟨hp26, ehp26, h⟩ := Option.bind_eq_some_iff.mp h
    refine kv_put pfX8_readTurner_29 (fun _ => ⟨rfl, rfl⟩) dX8_readTurner_18 ehp26 ?_
    have h := Option.some.inj h
    subst h
    exact kw_vret rfl dX8_readTurner_21 hK
/-! KitchenWheels$Tape.nameOf(I)I -/
def X8_nameOf_F (hp : kw_H) (x0 : Int32) : Option (Int32) :=
  (if x0 = (nI 122) then
  some (nI 6)
else
  (X11_within_F hp x0 (nI 97) (nI 102)).bind fun r1 =>
  (if r1 = 0 then
  some ((-1000000))
else
  some (x0 - (nI 97))))
set_option maxRecDepth 100000 in
set_option maxHeartbeats 4000000 in
theorem X8_nameOf_c (G : kw_G) (hp : kw_H) (x0 : Int32) (r : Int32) (h : X8_nameOf_F hp x0 = some r) : kw_Met G mX8_nameOf [.int x0] hp (fun v h2 => v = some (.int r) ∧ h2 = hp) := by
  refine kw_met (L := [some (.int x0)]) (r := 0) (by decide +kernel) (Nat.le_of_ble_eq_true rfl) rfl ?_
  unfold X8_nameOf_F at h
  obtain ⟨Q, hQ⟩ : ∃ Q : Option Value → kw_H → Prop, Q = (fun v h2 => v = some (.int r) ∧ h2 = hp) := ⟨_, rfl⟩
  have hK : Q (some (.int r)) hp := by rw [hQ]; exact ⟨rfl, rfl⟩
  rw [← hQ]
  clear hQ
  refine kw_iload_n dX8_nameOf_0 rfl ?_
  refine kw_bipush (v := nI 122) dX8_nameOf_1 (by decide) ?_
  refine kw_icmp_ne 9 dX8_nameOf_3 (by decide) (fun c3 => ?_) (fun c3 => ?_)
  · have h := (if_neg c3).symm.trans h
    refine kw_iload_n dX8_nameOf_9 rfl ?_
    refine kw_bipush (v := nI 97) dX8_nameOf_10 (by decide) ?_
    refine kw_bipush (v := nI 102) dX8_nameOf_12 (by decide) ?_
    obtain ⟨r1, er1, h⟩ := Option.bind_eq_some_iff.mp h
    refine kw_callSN (As := [.int x0, .int (nI 97), .int (nI 102)]) (S := []) cbX8_nameOf_X11_within lnX8_84 stX11_within rfl rfl (Nat.le_of_ble_eq_true rfl) dX8_nameOf_14 (X11_within_c G hp x0 (nI 97) (nI 102) _ er1) (fun vv hh hq => ?_)
    rw [hq.1, hq.2]
    show kw_V G mX8_nameOf 17 [some (.int x0)] [.int r1] hp Q
    refine kw_if_eq 27 dX8_nameOf_17 (by decide) (fun c2 => ?_) (fun c2 => ?_)
    · have h := (if_pos c2).symm.trans h
      refine kw_ldc (v := (-1000000)) dX8_nameOf_27 ckX8_66 ?_
      have h := Option.some.inj h
      subst h
      exact kw_iret rfl dX8_nameOf_29 hK
    · have h := (if_neg c2).symm.trans h
      refine kw_iload_n dX8_nameOf_20 rfl ?_
      refine kw_bipush (v := nI 97) dX8_nameOf_21 (by decide) ?_
      refine kw_isub dX8_nameOf_23 ?_
      refine kw_goto 29 dX8_nameOf_24 (by decide) ?_
      have h := Option.some.inj h
      subst h
      exact kw_iret rfl dX8_nameOf_29 hK
  · have h := (if_pos c3).symm.trans h
    refine kw_bipush (v := nI 6) dX8_nameOf_6 (by decide) ?_
    have h := Option.some.inj h
    subst h
    exact kw_iret rfl dX8_nameOf_8 hK
/-! KitchenWheels$Tape.readWheel(I[I)I -/
def X8_readWheel_J87 (hp : kw_H) (x0 : Nat) (x3 : Int32) : Option (Int32 × kw_H) :=
  (kp_gI hp x0 [8] 3).bind fun v2 =>
  (if v2 = 0 then
  some ((x3, hp))
else
  some ((nI 0, hp)))
set_option maxRecDepth 100000 in
set_option maxHeartbeats 4000000 in
theorem X8_readWheel_J87_t (G : kw_G) (Q : Option Value → kw_H → Prop) (hp : kw_H) (x0 : Nat) (x3 : Int32) (r : Int32 × kw_H) (h : X8_readWheel_J87 hp x0 x3 = some r) (hK : Q (some (.int r.1)) r.2) : kw_V G mX8_readWheel 87 [some (.ref x0), none, none, some (.int x3)] [] hp Q := by
  unfold X8_readWheel_J87 at h
  refine kw_aload_n dX8_readWheel_87 rfl ?_
  obtain ⟨v2, ev2, h⟩ := Option.bind_eq_some_iff.mp h
  refine kv_gI gfX8_29 dX8_readWheel_88 ev2 ?_
  refine kw_if_ne 98 dX8_readWheel_91 (by decide) (fun c3 => ?_) (fun c3 => ?_)
  · have h := (if_neg c3).symm.trans h
    refine kw_iconst (v := nI 0) dX8_readWheel_98 (by decide) ?_
    have h := Option.some.inj h
    subst h
    exact kw_iret rfl dX8_readWheel_99 hK
  · have h := (if_pos c3).symm.trans h
    refine kw_iload_n dX8_readWheel_94 rfl ?_
    refine kw_goto 99 dX8_readWheel_95 (by decide) ?_
    have h := Option.some.inj h
    subst h
    exact kw_iret rfl dX8_readWheel_99 hK
def X8_readWheel_K10 (G : kw_G) (Q : Option Value → kw_H → Prop) (x0 : Nat) (x2 : Nat) (r : (Int32 × kw_H) ⊕ (Int32 × kw_H)) : Prop := match r with
  | .inl z => kw_V G mX8_readWheel 10 [some (.ref x0), none, some (.ref x2), some (.int z.1)] [] z.2 Q
  | .inr r => Q (some (.int r.1)) r.2
def X8_readWheel_J68 (hp : kw_H) (x0 : Nat) (x3 : Int32) : Option (Int32 × kw_H) :=
  (if x3 = 0 then
  (kp_put hp x0 [8] 3 (.int (nI 1))).bind fun hp5 =>
  X8_readWheel_J87 hp5 x0 x3
else
  ((kp_ob hp x0 8).bind fun _ => X8_passes_F hp x0 (nI 59)).bind fun r4 =>
  X8_readWheel_J87 r4.2 x0 x3)
set_option maxRecDepth 100000 in
set_option maxHeartbeats 4000000 in
theorem X8_readWheel_J68_t (G : kw_G) (Q : Option Value → kw_H → Prop) (hp : kw_H) (x0 : Nat) (x3 : Int32) (r : Int32 × kw_H) (h : X8_readWheel_J68 hp x0 x3 = some r) (hK : Q (some (.int r.1)) r.2) : kw_V G mX8_readWheel 68 [some (.ref x0), none, none, some (.int x3)] [] hp Q := by
  unfold X8_readWheel_J68 at h
  refine kw_iload_n dX8_readWheel_68 rfl ?_
  refine kw_if_ne 80 dX8_readWheel_69 (by decide) (fun c6 => ?_) (fun c6 => ?_)
  · have h := (if_neg c6).symm.trans h
    refine kw_aload_n dX8_readWheel_80 rfl ?_
    refine kw_bipush (v := nI 59) dX8_readWheel_81 (by decide) ?_
    obtain ⟨r4, er4, h⟩ := Option.bind_eq_some_iff.mp h
    obtain ⟨ur4, eur4, er4⟩ := Option.bind_eq_some_iff.mp er4
    obtain ⟨fsr4, hor4⟩ := kp_ob_inv eur4
    refine kw_callV (As := [.int (nI 59)]) (S := []) kcX8 cbX8_readWheel_X8_passes lkX8_55 imX8_passes seX8_X8_passes_X8_passes rfl rfl (Nat.le_of_ble_eq_true rfl) dX8_readWheel_83 hor4 (X8_passes_c G hp x0 (nI 59) _ er4) (fun vv hh hq => ?_)
    rw [hq.1, hq.2]
    show kw_V G mX8_readWheel 86 [some (.ref x0), none, none, some (.int x3)] [.int r4.1] r4.2 Q
    refine kw_pop dX8_readWheel_86 rfl ?_
    exact X8_readWheel_J87_t G Q r4.2 x0 x3 _ h hK
  · have h := (if_pos c6).symm.trans h
    refine kw_aload_n dX8_readWheel_72 rfl ?_
    refine kw_iconst (v := nI 1) dX8_readWheel_73 (by decide) ?_
    obtain ⟨hp5, ehp5, h⟩ := Option.bind_eq_some_iff.mp h
    refine kv_put pfX8_readWheel_29 (fun _ => ⟨rfl, rfl⟩) dX8_readWheel_74 ehp5 ?_
    refine kw_goto 87 dX8_readWheel_77 (by decide) ?_
    exact X8_readWheel_J87_t G Q hp5 x0 x3 _ h hK
def X8_readWheel_b10 (x0 : Nat) (x2 : Nat) (x3 : Int32) (hp : kw_H) : Option (((Int32 × kw_H) ⊕ (Int32 × kw_H))) :=
  (if (nI 8) ≤ x3 then
  (X8_readWheel_J68 hp x0 x3).map (fun r => .inr (r))
else
  (kp_len hp x2).bind fun v8 =>
  (if v8 ≤ x3 then
  (X8_readWheel_J68 hp x0 x3).map (fun r => .inr (r))
else
  (kp_gI hp x0 [8] 4).bind fun v10 =>
  ((kp_ob hp x0 8).bind fun _ => X8_byteAt_F hp x0 v10).bind fun r11 =>
  (X8_nameOf_F hp r11).bind fun r12 =>
  (if r12 = ((-1000000)) then
  (X8_readWheel_J68 hp x0 x3).map (fun r => .inr (r))
else
  (kp_gI hp x0 [8] 4).bind fun v14 =>
  ((kp_ob hp x0 8).bind fun _ => X8_byteAt_F hp x0 v14).bind fun r15 =>
  (X8_nameOf_F hp r15).bind fun r16 =>
  (kp_stI hp x2 x3 r16).bind fun hp17 =>
  (kp_gI hp17 x0 [8] 4).bind fun v18 =>
  (kp_put hp17 x0 [8] 4 (.int (v18 + (nI 1)))).bind fun hp19 =>
  some (.inl (x3 + (nI 1), hp19)))))
set_option maxRecDepth 100000 in
set_option maxHeartbeats 4000000 in
theorem X8_readWheel_b10_t (G : kw_G) (Q : Option Value → kw_H → Prop) (x0 : Nat) (x2 : Nat) (x3 : Int32) (hp : kw_H) (r : ((Int32 × kw_H) ⊕ (Int32 × kw_H))) (h : X8_readWheel_b10 x0 x2 x3 hp = some r) (hK : X8_readWheel_K10 G Q x0 x2 r) : kw_V G mX8_readWheel 10 [some (.ref x0), none, some (.ref x2), some (.int x3)] [] hp Q := by
  unfold X8_readWheel_b10 at h
  refine kw_iload_n dX8_readWheel_10 rfl ?_
  refine kw_bipush (v := nI 8) dX8_readWheel_11 (by decide) ?_
  refine kw_icmp_ge 68 dX8_readWheel_13 (by decide) (fun c22 => ?_) (fun c22 => ?_)
  · have h := (if_pos c22).symm.trans h
    refine kw_mask [true, true, false, true] (L' := [some (.ref x0), none, none, some (.int x3)]) rfl ?_
    obtain ⟨r7, hr7, hrr7⟩ := Option.map_eq_some_iff.mp h
    subst hrr7
    exact X8_readWheel_J68_t G Q hp x0 x3 r7 hr7 hK
  · have h := (if_neg c22).symm.trans h
    refine kw_iload_n dX8_readWheel_16 rfl ?_
    refine kw_aload_n dX8_readWheel_17 rfl ?_
    obtain ⟨v8, ev8, h⟩ := Option.bind_eq_some_iff.mp h
    refine kv_len dX8_readWheel_18 ev8 ?_
    refine kw_icmp_ge 68 dX8_readWheel_19 (by decide) (fun c21 => ?_) (fun c21 => ?_)
    · have h := (if_pos c21).symm.trans h
      refine kw_mask [true, true, false, true] (L' := [some (.ref x0), none, none, some (.int x3)]) rfl ?_
      obtain ⟨r9, hr9, hrr9⟩ := Option.map_eq_some_iff.mp h
      subst hrr9
      exact X8_readWheel_J68_t G Q hp x0 x3 r9 hr9 hK
    · have h := (if_neg c21).symm.trans h
      refine kw_aload_n dX8_readWheel_22 rfl ?_
      refine kw_aload_n dX8_readWheel_23 rfl ?_
      obtain ⟨v10, ev10, h⟩ := Option.bind_eq_some_iff.mp h
      refine kv_gI gfX8_26 dX8_readWheel_24 ev10 ?_
      obtain ⟨r11, er11, h⟩ := Option.bind_eq_some_iff.mp h
      obtain ⟨ur11, eur11, er11⟩ := Option.bind_eq_some_iff.mp er11
      obtain ⟨fsr11, hor11⟩ := kp_ob_inv eur11
      refine kw_callV (As := [.int v10]) (S := []) kcX8 cbX8_readWheel_X8_byteAt lkX8_59 imX8_byteAt seX8_X8_byteAt_X8_byteAt rfl rfl (Nat.le_of_ble_eq_true rfl) dX8_readWheel_27 hor11 (X8_byteAt_c G hp x0 v10 _ er11) (fun vv hh hq => ?_)
      rw [hq.1, hq.2]
      show kw_V G mX8_readWheel 30 [some (.ref x0), none, some (.ref x2), some (.int x3)] [.int r11] hp Q
      obtain ⟨r12, er12, h⟩ := Option.bind_eq_some_iff.mp h
      refine kw_callS (As := [.int r11]) (S := []) cbX8_readWheel_X8_nameOf lkX8_63 stX8_nameOf rfl rfl (Nat.le_of_ble_eq_true rfl) dX8_readWheel_30 (X8_nameOf_c G hp r11 _ er12) (fun vv hh hq => ?_)
      rw [hq.1, hq.2]
      show kw_V G mX8_readWheel 33 [some (.ref x0), none, some (.ref x2), some (.int x3)] [.int r12] hp Q
      refine kw_ldc (v := (-1000000)) dX8_readWheel_33 ckX8_66 ?_
      refine kw_icmp_eq 68 dX8_readWheel_35 (by decide) (fun c20 => ?_) (fun c20 => ?_)
      · have h := (if_pos c20).symm.trans h
        refine kw_mask [true, true, false, true] (L' := [some (.ref x0), none, none, some (.int x3)]) rfl ?_
        obtain ⟨r13, hr13, hrr13⟩ := Option.map_eq_some_iff.mp h
        subst hrr13
        exact X8_readWheel_J68_t G Q hp x0 x3 r13 hr13 hK
      · have h := (if_neg c20).symm.trans h
        refine kw_aload_n dX8_readWheel_38 rfl ?_
        refine kw_iload_n dX8_readWheel_39 rfl ?_
        refine kw_aload_n dX8_readWheel_40 rfl ?_
        refine kw_aload_n dX8_readWheel_41 rfl ?_
        obtain ⟨v14, ev14, h⟩ := Option.bind_eq_some_iff.mp h
        refine kv_gI gfX8_26 dX8_readWheel_42 ev14 ?_
        obtain ⟨r15, er15, h⟩ := Option.bind_eq_some_iff.mp h
        obtain ⟨ur15, eur15, er15⟩ := Option.bind_eq_some_iff.mp er15
        obtain ⟨fsr15, hor15⟩ := kp_ob_inv eur15
        refine kw_callV (As := [.int v14]) (S := [.int x3, .ref x2]) kcX8 cbX8_readWheel_X8_byteAt lkX8_59 imX8_byteAt seX8_X8_byteAt_X8_byteAt rfl rfl (Nat.le_of_ble_eq_true rfl) dX8_readWheel_45 hor15 (X8_byteAt_c G hp x0 v14 _ er15) (fun vv hh hq => ?_)
        rw [hq.1, hq.2]
        show kw_V G mX8_readWheel 48 [some (.ref x0), none, some (.ref x2), some (.int x3)] [.int r15, .int x3, .ref x2] hp Q
        obtain ⟨r16, er16, h⟩ := Option.bind_eq_some_iff.mp h
        refine kw_callS (As := [.int r15]) (S := [.int x3, .ref x2]) cbX8_readWheel_X8_nameOf lkX8_63 stX8_nameOf rfl rfl (Nat.le_of_ble_eq_true rfl) dX8_readWheel_48 (X8_nameOf_c G hp r15 _ er16) (fun vv hh hq => ?_)
        rw [hq.1, hq.2]
        show kw_V G mX8_readWheel 51 [some (.ref x0), none, some (.ref x2), some (.int x3)] [.int r16, .int x3, .ref x2] hp Q
        obtain ⟨hp17, ehp17, h⟩ := Option.bind_eq_some_iff.mp h
        refine kv_stI dX8_readWheel_51 ehp17 ?_
        refine kv_iinc (w := nI 1) (L' := [some (.ref x0), none, some (.ref x2), some (.int (x3 + (nI 1)))]) dX8_readWheel_52 (by decide) rfl (by decide) rfl ?_
        refine kw_aload_n dX8_readWheel_55 rfl ?_
        refine kw_dup dX8_readWheel_56 rfl ?_
        obtain ⟨v18, ev18, h⟩ := Option.bind_eq_some_iff.mp h
        refine kv_gI gfX8_26 dX8_readWheel_57 ev18 ?_
        refine kw_iconst (v := nI 1) dX8_readWheel_60 (by decide) ?_
        refine kw_iadd dX8_readWheel_61 ?_
        obtain ⟨hp19, ehp19, h⟩ := Option.bind_eq_some_iff.mp h
        refine kv_put pfX8_readWheel_26 (fun _ => ⟨rfl, rfl⟩) dX8_readWheel_62 ehp19 ?_
        refine kw_goto 10 dX8_readWheel_65 (by decide) ?_
        have h := Option.some.inj h
        subst h
        exact hK
def X8_readWheel_B10 (x0 : Nat) (x2 : Nat) (z : Int32 × kw_H) : Option (((Int32 × kw_H) ⊕ (Int32 × kw_H))) := X8_readWheel_b10 x0 x2 z.1 z.2
theorem X8_readWheel_L10_t (G : kw_G) (Q : Option Value → kw_H → Prop) (x0 : Nat) (x2 : Nat) (n : Nat) (z : Int32 × kw_H) (r : Int32 × kw_H) (h : kp_lp (X8_readWheel_B10 x0 x2) n z = some r) (hK : Q (some (.int r.1)) r.2) : kw_V G mX8_readWheel 10 [some (.ref x0), none, some (.ref x2), some (.int z.1)] [] z.2 Q :=
  kv_lp _ (fun z => kw_V G mX8_readWheel 10 [some (.ref x0), none, some (.ref x2), some (.int z.1)] [] z.2 Q) (fun r => Q (some (.int r.1)) r.2) (fun z x hb hx => X8_readWheel_b10_t G Q x0 x2 z.1 z.2 x hb (by cases x <;> exact hx)) n z r h hK
def X8_readWheel_F (hp : kw_H) (x0 : Nat) (x1 : Int32) (x2 : Nat) : Option (Int32 × kw_H) :=
  ((kp_ob hp x0 8).bind fun _ => X8_passes_F hp x0 x1).bind fun r1 =>
  (if r1.1 = 0 then
  X8_readWheel_J87 r1.2 x0 (nI 0)
else
  kp_lp (X8_readWheel_B10 x0 x2) 2000 (nI 0, r1.2))
set_option maxRecDepth 100000 in
set_option maxHeartbeats 4000000 in
theorem X8_readWheel_c (G : kw_G) (hp : kw_H) (x0 : Nat) (x1 : Int32) (x2 : Nat) (r : Int32 × kw_H) (h : X8_readWheel_F hp x0 x1 x2 = some r) : kw_Met G mX8_readWheel [.ref x0, .int x1, .ref x2] hp (fun v h2 => v = some (.int r.1) ∧ h2 = r.2) := by
  refine kw_met (L := [some (.ref x0), some (.int x1), some (.ref x2), none]) (r := 1) (by decide +kernel) (Nat.le_of_ble_eq_true rfl) rfl ?_
  unfold X8_readWheel_F at h
  obtain ⟨Q, hQ⟩ : ∃ Q : Option Value → kw_H → Prop, Q = (fun v h2 => v = some (.int r.1) ∧ h2 = r.2) := ⟨_, rfl⟩
  have hK : Q (some (.int r.1)) r.2 := by rw [hQ]; exact ⟨rfl, rfl⟩
  rw [← hQ]
  clear hQ
  refine kw_iconst (v := nI 0) dX8_readWheel_0 (by decide) ?_
  refine kw_istore_n (L' := [some (.ref x0), some (.int x1), some (.ref x2), some (.int (nI 0))]) dX8_readWheel_1 (by decide) rfl ?_
  refine kw_aload_n dX8_readWheel_2 rfl ?_
  refine kw_iload_n dX8_readWheel_3 rfl ?_
  obtain ⟨r1, er1, h⟩ := Option.bind_eq_some_iff.mp h
  obtain ⟨ur1, eur1, er1⟩ := Option.bind_eq_some_iff.mp er1
  obtain ⟨fsr1, hor1⟩ := kp_ob_inv eur1
  refine kw_callV (As := [.int x1]) (S := []) kcX8 cbX8_readWheel_X8_passes lkX8_55 imX8_passes seX8_X8_passes_X8_passes rfl rfl (Nat.le_of_ble_eq_true rfl) dX8_readWheel_4 hor1 (X8_passes_c G hp x0 x1 _ er1) (fun vv hh hq => ?_)
  rw [hq.1, hq.2]
  show kw_V G mX8_readWheel 7 [some (.ref x0), some (.int x1), some (.ref x2), some (.int (nI 0))] [.int r1.1] r1.2 Q
  refine kw_if_eq 87 dX8_readWheel_7 (by decide) (fun c23 => ?_) (fun c23 => ?_)
  · have h := (if_pos c23).symm.trans h
    refine kw_mask [true, false, false, true] (L' := [some (.ref x0), none, none, some (.int (nI 0))]) rfl ?_
    exact X8_readWheel_J87_t G Q r1.2 x0 (nI 0) _ h hK
  · have h := (if_neg c23).symm.trans h
    refine kw_mask [true, false, true, true] (L' := [some (.ref x0), none, some (.ref x2), some (.int (nI 0))]) rfl ?_
    exact X8_readWheel_L10_t G Q x0 x2 _ (nI 0, r1.2) _ h hK
/-! KitchenWheels$Tape.read()Z -/
def X8_read_K71 (G : kw_G) (Q : Option Value → kw_H → Prop) (x0 : Nat) (r : (Int32 × kw_H) ⊕ (Int32 × kw_H)) : Prop := match r with
  | .inl z => kw_V G mX8_read 71 [some (.ref x0), some (.int z.1)] [] z.2 Q
  | .inr r => Q (some (.int r.1)) r.2
def X8_read_J109 (hp : kw_H) (x0 : Nat) : Option (Int32 × kw_H) :=
  (kp_gI hp x0 [8] 3).bind fun v13 =>
  (if v13 = 0 then
  some ((nI 1, hp))
else
  some ((nI 0, hp)))
set_option maxRecDepth 100000 in
set_option maxHeartbeats 4000000 in
theorem X8_read_J109_t (G : kw_G) (Q : Option Value → kw_H → Prop) (hp : kw_H) (x0 : Nat) (r : Int32 × kw_H) (h : X8_read_J109 hp x0 = some r) (hK : Q (some (.int r.1)) r.2) : kw_V G mX8_read 109 [some (.ref x0), none] [] hp Q := by
  unfold X8_read_J109 at h
  refine kw_aload_n dX8_read_109 rfl ?_
  obtain ⟨v13, ev13, h⟩ := Option.bind_eq_some_iff.mp h
  refine kv_gI gfX8_29 dX8_read_110 ev13 ?_
  refine kw_if_ne 120 dX8_read_113 (by decide) (fun c14 => ?_) (fun c14 => ?_)
  · have h := (if_neg c14).symm.trans h
    refine kw_iconst (v := nI 0) dX8_read_120 (by decide) ?_
    have h := Option.some.inj h
    subst h
    exact kw_zret rfl (Or.inl rfl) dX8_read_121 hK
  · have h := (if_pos c14).symm.trans h
    refine kw_iconst (v := nI 1) dX8_read_116 (by decide) ?_
    refine kw_goto 121 dX8_read_117 (by decide) ?_
    have h := Option.some.inj h
    subst h
    exact kw_zret rfl (Or.inr rfl) dX8_read_121 hK
def X8_read_J98 (hp : kw_H) (x0 : Nat) (x1 : Int32) : Option (((Int32 × kw_H) ⊕ (Int32 × kw_H))) :=
  ((kp_ob hp x0 8).bind fun _ => X8_readTurner_F hp x0 x1).bind fun r18 =>
  some (.inl (x1 + (nI 1), r18))
set_option maxRecDepth 100000 in
set_option maxHeartbeats 4000000 in
theorem X8_read_J98_t (G : kw_G) (Q : Option Value → kw_H → Prop) (hp : kw_H) (x0 : Nat) (x1 : Int32) (r : ((Int32 × kw_H) ⊕ (Int32 × kw_H))) (h : X8_read_J98 hp x0 x1 = some r) (hK : X8_read_K71 G Q x0 r) : kw_V G mX8_read 98 [some (.ref x0), some (.int x1)] [] hp Q := by
  unfold X8_read_J98 at h
  refine kw_aload_n dX8_read_98 rfl ?_
  refine kw_iload_n dX8_read_99 rfl ?_
  obtain ⟨r18, er18, h⟩ := Option.bind_eq_some_iff.mp h
  obtain ⟨ur18, eur18, er18⟩ := Option.bind_eq_some_iff.mp er18
  obtain ⟨fsr18, hor18⟩ := kp_ob_inv eur18
  refine kw_callV (As := [.int x1]) (S := []) kcX8 cbX8_read_X8_readTurner lkX8_51 imX8_readTurner seX8_X8_readTurner_X8_readTurner rfl rfl (Nat.le_of_ble_eq_true rfl) dX8_read_100 hor18 (X8_readTurner_c G hp x0 x1 _ er18) (fun vv hh hq => ?_)
  rw [hq.1, hq.2]
  show kw_V G mX8_read 103 [some (.ref x0), some (.int x1)] [] r18 Q
  refine kv_iinc (w := nI 1) (L' := [some (.ref x0), some (.int (x1 + (nI 1)))]) dX8_read_103 (by decide) rfl (by decide) rfl ?_
  refine kw_goto 71 dX8_read_106 (by decide) ?_
  have h := Option.some.inj h
  subst h
  exact hK
def X8_read_b71 (x0 : Nat) (x1 : Int32) (hp : kw_H) : Option (((Int32 × kw_H) ⊕ (Int32 × kw_H))) :=
  (if (nI 4) < x1 then
  (X8_read_J109 hp x0).map (fun r => .inr (r))
else
  (kp_gI hp x0 [8] 3).bind fun v16 =>
  (if v16 = 0 then
  (if x1 = 0 then
  X8_read_J98 hp x0 x1
else
  (kp_gI hp x0 [8] 4).bind fun v19 =>
  (kp_gI hp x0 [8] 1).bind fun v20 =>
  (if v20 ≤ v19 then
  (X8_read_J109 hp x0).map (fun r => .inr (r))
else
  X8_read_J98 hp x0 x1))
else
  (X8_read_J109 hp x0).map (fun r => .inr (r))))
set_option maxRecDepth 100000 in
set_option maxHeartbeats 4000000 in
theorem X8_read_b71_t (G : kw_G) (Q : Option Value → kw_H → Prop) (x0 : Nat) (x1 : Int32) (hp : kw_H) (r : ((Int32 × kw_H) ⊕ (Int32 × kw_H))) (h : X8_read_b71 x0 x1 hp = some r) (hK : X8_read_K71 G Q x0 r) : kw_V G mX8_read 71 [some (.ref x0), some (.int x1)] [] hp Q := by
  unfold X8_read_b71 at h
  refine kw_iload_n dX8_read_71 rfl ?_
  refine kw_iconst (v := nI 4) dX8_read_72 (by decide) ?_
  refine kw_icmp_gt 109 dX8_read_73 (by decide) (fun c25 => ?_) (fun c25 => ?_)
  · have h := (if_pos c25).symm.trans h
    refine kw_mask [true, false] (L' := [some (.ref x0), none]) rfl ?_
    obtain ⟨r15, hr15, hrr15⟩ := Option.map_eq_some_iff.mp h
    subst hrr15
    exact X8_read_J109_t G Q hp x0 r15 hr15 hK
  · have h := (if_neg c25).symm.trans h
    refine kw_aload_n dX8_read_76 rfl ?_
    obtain ⟨v16, ev16, h⟩ := Option.bind_eq_some_iff.mp h
    refine kv_gI gfX8_29 dX8_read_77 ev16 ?_
    refine kw_if_ne 109 dX8_read_80 (by decide) (fun c24 => ?_) (fun c24 => ?_)
    · have h := (if_neg c24).symm.trans h
      refine kw_mask [true, false] (L' := [some (.ref x0), none]) rfl ?_
      obtain ⟨r17, hr17, hrr17⟩ := Option.map_eq_some_iff.mp h
      subst hrr17
      exact X8_read_J109_t G Q hp x0 r17 hr17 hK
    · have h := (if_pos c24).symm.trans h
      refine kw_iload_n dX8_read_83 rfl ?_
      refine kw_if_eq 98 dX8_read_84 (by decide) (fun c23 => ?_) (fun c23 => ?_)
      · have h := (if_pos c23).symm.trans h
        exact X8_read_J98_t G Q hp x0 x1 _ h hK
      · have h := (if_neg c23).symm.trans h
        refine kw_aload_n dX8_read_87 rfl ?_
        obtain ⟨v19, ev19, h⟩ := Option.bind_eq_some_iff.mp h
        refine kv_gI gfX8_26 dX8_read_88 ev19 ?_
        refine kw_aload_n dX8_read_91 rfl ?_
        obtain ⟨v20, ev20, h⟩ := Option.bind_eq_some_iff.mp h
        refine kv_gI gfX8_22 dX8_read_92 ev20 ?_
        refine kw_icmp_ge 109 dX8_read_95 (by decide) (fun c22 => ?_) (fun c22 => ?_)
        · have h := (if_pos c22).symm.trans h
          refine kw_mask [true, false] (L' := [some (.ref x0), none]) rfl ?_
          obtain ⟨r21, hr21, hrr21⟩ := Option.map_eq_some_iff.mp h
          subst hrr21
          exact X8_read_J109_t G Q hp x0 r21 hr21 hK
        · have h := (if_neg c22).symm.trans h
          exact X8_read_J98_t G Q hp x0 x1 _ h hK
def X8_read_B71 (x0 : Nat) (z : Int32 × kw_H) : Option (((Int32 × kw_H) ⊕ (Int32 × kw_H))) := X8_read_b71 x0 z.1 z.2
theorem X8_read_L71_t (G : kw_G) (Q : Option Value → kw_H → Prop) (x0 : Nat) (n : Nat) (z : Int32 × kw_H) (r : Int32 × kw_H) (h : kp_lp (X8_read_B71 x0) n z = some r) (hK : Q (some (.int r.1)) r.2) : kw_V G mX8_read 71 [some (.ref x0), some (.int z.1)] [] z.2 Q :=
  kv_lp _ (fun z => kw_V G mX8_read 71 [some (.ref x0), some (.int z.1)] [] z.2 Q) (fun r => Q (some (.int r.1)) r.2) (fun z x hb hx => X8_read_b71_t G Q x0 z.1 z.2 x hb (by cases x <;> exact hx)) n z r h hK
def X8_read_J66 (hp : kw_H) (x0 : Nat) (s0 : Int32) (s1 : Nat) : Option (Int32 × kw_H) :=
  (kp_put hp s1 [2] 5 (.int s0)).bind fun hp12 =>
  kp_lp (X8_read_B71 x0) 2000 (nI 0, hp12)
set_option maxRecDepth 100000 in
set_option maxHeartbeats 4000000 in
theorem X8_read_J66_t (G : kw_G) (Q : Option Value → kw_H → Prop) (hp : kw_H) (x0 : Nat) (s0 : Int32) (s1 : Nat) (r : Int32 × kw_H) (h : X8_read_J66 hp x0 s0 s1 = some r) (hK : Q (some (.int r.1)) r.2) : kw_V G mX8_read 66 [some (.ref x0), none] [.int s0, .ref s1] hp Q := by
  unfold X8_read_J66 at h
  obtain ⟨hp12, ehp12, h⟩ := Option.bind_eq_some_iff.mp h
  refine kv_put pfX8_read_48 (fun _ => ⟨rfl, rfl⟩) dX8_read_66 ehp12 ?_
  refine kw_iconst (v := nI 0) dX8_read_69 (by decide) ?_
  refine kw_istore_n (L' := [some (.ref x0), some (.int (nI 0))]) dX8_read_70 (by decide) rfl ?_
  exact X8_read_L71_t G Q x0 _ (nI 0, hp12) _ h hK
def X8_read_F (hp : kw_H) (x0 : Nat) : Option (Int32 × kw_H) :=
  (kp_put hp x0 [8] 4 (.int (nI 0))).bind fun hp1 =>
  (kp_put hp1 x0 [8] 3 (.int (nI 0))).bind fun hp2 =>
  (kp_gR hp2 x0 [8] 2).bind fun v3 =>
  (kp_put hp2 v3 [2] 6 (.int (nI 0))).bind fun hp4 =>
  (kp_gR hp4 x0 [8] 2).bind fun v5 =>
  (kp_gR hp4 x0 [8] 2).bind fun v6 =>
  (kp_gR hp4 v6 [2] 0).bind fun v7 =>
  ((kp_ob hp4 x0 8).bind fun _ => X8_readWheel_F hp4 x0 (nI 110) v7).bind fun r8 =>
  (kp_put r8.2 v5 [2] 4 (.int r8.1)).bind fun hp9 =>
  (kp_gR hp9 x0 [8] 2).bind fun v10 =>
  (kp_gI hp9 x0 [8] 3).bind fun v11 =>
  (if v11 = 0 then
  (kp_gR hp9 x0 [8] 2).bind fun v26 =>
  (kp_gR hp9 v26 [2] 1).bind fun v27 =>
  ((kp_ob hp9 x0 8).bind fun _ => X8_readWheel_F hp9 x0 (nI 106) v27).bind fun r28 =>
  X8_read_J66 r28.2 x0 r28.1 v10
else
  X8_read_J66 hp9 x0 (nI 0) v10)
set_option maxRecDepth 100000 in
set_option maxHeartbeats 4000000 in
theorem X8_read_c (G : kw_G) (hp : kw_H) (x0 : Nat) (r : Int32 × kw_H) (h : X8_read_F hp x0 = some r) : kw_Met G mX8_read [.ref x0] hp (fun v h2 => v = some (.int r.1) ∧ h2 = r.2) := by
  refine kw_met (L := [some (.ref x0), none]) (r := 1) (by decide +kernel) (Nat.le_of_ble_eq_true rfl) rfl ?_
  unfold X8_read_F at h
  obtain ⟨Q, hQ⟩ : ∃ Q : Option Value → kw_H → Prop, Q = (fun v h2 => v = some (.int r.1) ∧ h2 = r.2) := ⟨_, rfl⟩
  have hK : Q (some (.int r.1)) r.2 := by rw [hQ]; exact ⟨rfl, rfl⟩
  rw [← hQ]
  clear hQ
  refine kw_aload_n dX8_read_0 rfl ?_
  refine kw_iconst (v := nI 0) dX8_read_1 (by decide) ?_
  obtain ⟨hp1, ehp1, h⟩ := Option.bind_eq_some_iff.mp h
  refine kv_put pfX8_read_26 (fun _ => ⟨rfl, rfl⟩) dX8_read_2 ehp1 ?_
  refine kw_aload_n dX8_read_5 rfl ?_
  refine kw_iconst (v := nI 0) dX8_read_6 (by decide) ?_
  obtain ⟨hp2, ehp2, h⟩ := Option.bind_eq_some_iff.mp h
  refine kv_put pfX8_read_29 (fun _ => ⟨rfl, rfl⟩) dX8_read_7 ehp2 ?_
  refine kw_aload_n dX8_read_10 rfl ?_
  obtain ⟨v3, ev3, h⟩ := Option.bind_eq_some_iff.mp h
  refine kv_gR gfX8_18 dX8_read_11 ev3 ?_
  refine kw_iconst (v := nI 0) dX8_read_14 (by decide) ?_
  obtain ⟨hp4, ehp4, h⟩ := Option.bind_eq_some_iff.mp h
  refine kv_put pfX8_read_32 (fun _ => ⟨rfl, rfl⟩) dX8_read_15 ehp4 ?_
  refine kw_aload_n dX8_read_18 rfl ?_
  obtain ⟨v5, ev5, h⟩ := Option.bind_eq_some_iff.mp h
  refine kv_gR gfX8_18 dX8_read_19 ev5 ?_
  refine kw_aload_n dX8_read_22 rfl ?_
  refine kw_bipush (v := nI 110) dX8_read_23 (by decide) ?_
  refine kw_aload_n dX8_read_25 rfl ?_
  obtain ⟨v6, ev6, h⟩ := Option.bind_eq_some_iff.mp h
  refine kv_gR gfX8_18 dX8_read_26 ev6 ?_
  obtain ⟨v7, ev7, h⟩ := Option.bind_eq_some_iff.mp h
  refine kv_gR gfX8_35 dX8_read_29 ev7 ?_
  obtain ⟨r8, er8, h⟩ := Option.bind_eq_some_iff.mp h
  obtain ⟨ur8, eur8, er8⟩ := Option.bind_eq_some_iff.mp er8
  obtain ⟨fsr8, hor8⟩ := kp_ob_inv eur8
  refine kw_callV (As := [.int (nI 110), .ref v7]) (S := [.ref v5]) kcX8 cbX8_read_X8_readWheel lkX8_38 imX8_readWheel seX8_X8_readWheel_X8_readWheel rfl rfl (Nat.le_of_ble_eq_true rfl) dX8_read_32 hor8 (X8_readWheel_c G hp4 x0 (nI 110) v7 _ er8) (fun vv hh hq => ?_)
  rw [hq.1, hq.2]
  show kw_V G mX8_read 35 [some (.ref x0), none] [.int r8.1, .ref v5] r8.2 Q
  obtain ⟨hp9, ehp9, h⟩ := Option.bind_eq_some_iff.mp h
  refine kv_put pfX8_read_42 (fun _ => ⟨rfl, rfl⟩) dX8_read_35 ehp9 ?_
  refine kw_aload_n dX8_read_38 rfl ?_
  obtain ⟨v10, ev10, h⟩ := Option.bind_eq_some_iff.mp h
  refine kv_gR gfX8_18 dX8_read_39 ev10 ?_
  refine kw_aload_n dX8_read_42 rfl ?_
  obtain ⟨v11, ev11, h⟩ := Option.bind_eq_some_iff.mp h
  refine kv_gI gfX8_29 dX8_read_43 ev11 ?_
  refine kw_if_ne 65 dX8_read_46 (by decide) (fun c29 => ?_) (fun c29 => ?_)
  · have h := (if_neg c29).symm.trans h
    refine kw_iconst (v := nI 0) dX8_read_65 (by decide) ?_
    exact X8_read_J66_t G Q hp9 x0 (nI 0) v10 _ h hK
  · have h := (if_pos c29).symm.trans h
    refine kw_aload_n dX8_read_49 rfl ?_
    refine kw_bipush (v := nI 106) dX8_read_50 (by decide) ?_
    refine kw_aload_n dX8_read_52 rfl ?_
    obtain ⟨v26, ev26, h⟩ := Option.bind_eq_some_iff.mp h
    refine kv_gR gfX8_18 dX8_read_53 ev26 ?_
    obtain ⟨v27, ev27, h⟩ := Option.bind_eq_some_iff.mp h
    refine kv_gR gfX8_45 dX8_read_56 ev27 ?_
    obtain ⟨r28, er28, h⟩ := Option.bind_eq_some_iff.mp h
    obtain ⟨ur28, eur28, er28⟩ := Option.bind_eq_some_iff.mp er28
    obtain ⟨fsr28, hor28⟩ := kp_ob_inv eur28
    refine kw_callV (As := [.int (nI 106), .ref v27]) (S := [.ref v10]) kcX8 cbX8_read_X8_readWheel lkX8_38 imX8_readWheel seX8_X8_readWheel_X8_readWheel rfl rfl (Nat.le_of_ble_eq_true rfl) dX8_read_59 hor28 (X8_readWheel_c G hp9 x0 (nI 106) v27 _ er28) (fun vv hh hq => ?_)
    rw [hq.1, hq.2]
    show kw_V G mX8_read 62 [some (.ref x0), none] [.int r28.1, .ref v10] r28.2 Q
    refine kw_goto 66 dX8_read_62 (by decide) ?_
    exact X8_read_J66_t G Q r28.2 x0 r28.1 v10 _ h hK
/-! KitchenWheels$Trace.<init>()V -/
def X9_init_F (hp : kw_H) (x0 : Nat) : Option (kw_H) :=
  (kp_al hp [.inl (0, 16, .inl (fun _ => 0))]).bind fun hp1 =>
  (kp_put hp1 x0 [9] 0 (.ref (List.length hp))).bind fun hp2 =>
  some (hp2)
set_option maxRecDepth 100000 in
set_option maxHeartbeats 4000000 in
theorem X9_init_c (G : kw_G) (hp : kw_H) (x0 : Nat) (r : kw_H) (h : X9_init_F hp x0 = some r) : kw_Met G mX9_init [.ref x0] hp (fun v h2 => v = none ∧ h2 = r) := by
  refine kw_met (L := [some (.ref x0)]) (r := 0) (by decide +kernel) (Nat.le_of_ble_eq_true rfl) rfl ?_
  unfold X9_init_F at h
  obtain ⟨Q, hQ⟩ : ∃ Q : Option Value → kw_H → Prop, Q = (fun v h2 => v = none ∧ h2 = r) := ⟨_, rfl⟩
  have hK : Q none r := by rw [hQ]; exact ⟨rfl, rfl⟩
  rw [← hQ]
  clear hQ
  refine kw_aload_n dX9_init_0 rfl ?_
  refine kw_obj lkX9_3 im_obj cd_obj (by decide) (by decide) (Nat.le_of_ble_eq_true rfl) dX9_init_1 ?_
  refine kw_aload_n dX9_init_4 rfl ?_
  refine kw_bipush (v := nI 16) dX9_init_5 (by decide) ?_
  obtain ⟨hp1, ehp1, h⟩ := Option.bind_eq_some_iff.mp h
  refine kv_newa_int (N := 16) acint (by decide) (by decide) (by decide) dX9_init_7 ehp1 ?_
  obtain ⟨hp2, ehp2, h⟩ := Option.bind_eq_some_iff.mp h
  refine kv_put pfX9_init_11 (fun _ => ⟨rfl, rfl⟩) dX9_init_9 ehp2 ?_
  have h := Option.some.inj h
  subst h
  exact kw_vret rfl dX9_init_12 hK
/-! KitchenWheels$Trace.numberAt(I)I -/
def X9_numberAt_F (hp : kw_H) (x0 : Nat) (x1 : Int32) : Option (Int32) :=
  (if x1 < 0 then
  some ((-1000000))
else
  (kp_gI hp x0 [9] 1).bind fun v1 =>
  (if v1 ≤ x1 then
  some ((-1000000))
else
  (if (nI 16) ≤ x1 then
  some ((-1000000))
else
  (kp_gR hp x0 [9] 0).bind fun v2 =>
  (kp_ldI hp v2 x1).bind fun v3 =>
  some (v3))))
set_option maxRecDepth 100000 in
set_option maxHeartbeats 4000000 in
theorem X9_numberAt_c (G : kw_G) (hp : kw_H) (x0 : Nat) (x1 : Int32) (r : Int32) (h : X9_numberAt_F hp x0 x1 = some r) : kw_Met G mX9_numberAt [.ref x0, .int x1] hp (fun v h2 => v = some (.int r) ∧ h2 = hp) := by
  refine kw_met (L := [some (.ref x0), some (.int x1)]) (r := 0) (by decide +kernel) (Nat.le_of_ble_eq_true rfl) rfl ?_
  unfold X9_numberAt_F at h
  obtain ⟨Q, hQ⟩ : ∃ Q : Option Value → kw_H → Prop, Q = (fun v h2 => v = some (.int r) ∧ h2 = hp) := ⟨_, rfl⟩
  have hK : Q (some (.int r)) hp := by rw [hQ]; exact ⟨rfl, rfl⟩
  rw [← hQ]
  clear hQ
  refine kw_iload_n dX9_numberAt_0 rfl ?_
  refine kw_if_lt 27 dX9_numberAt_1 (by decide) (fun c6 => ?_) (fun c6 => ?_)
  · have h := (if_pos c6).symm.trans h
    refine kw_ldc (v := (-1000000)) dX9_numberAt_27 ckX9_19 ?_
    have h := Option.some.inj h
    subst h
    exact kw_iret rfl dX9_numberAt_29 hK
  · have h := (if_neg c6).symm.trans h
    refine kw_iload_n dX9_numberAt_4 rfl ?_
    refine kw_aload_n dX9_numberAt_5 rfl ?_
    obtain ⟨v1, ev1, h⟩ := Option.bind_eq_some_iff.mp h
    refine kv_gI gfX9_15 dX9_numberAt_6 ev1 ?_
    refine kw_icmp_ge 27 dX9_numberAt_9 (by decide) (fun c5 => ?_) (fun c5 => ?_)
    · have h := (if_pos c5).symm.trans h
      refine kw_ldc (v := (-1000000)) dX9_numberAt_27 ckX9_19 ?_
      have h := Option.some.inj h
      subst h
      exact kw_iret rfl dX9_numberAt_29 hK
    · have h := (if_neg c5).symm.trans h
      refine kw_iload_n dX9_numberAt_12 rfl ?_
      refine kw_bipush (v := nI 16) dX9_numberAt_13 (by decide) ?_
      refine kw_icmp_ge 27 dX9_numberAt_15 (by decide) (fun c4 => ?_) (fun c4 => ?_)
      · have h := (if_pos c4).symm.trans h
        refine kw_ldc (v := (-1000000)) dX9_numberAt_27 ckX9_19 ?_
        have h := Option.some.inj h
        subst h
        exact kw_iret rfl dX9_numberAt_29 hK
      · have h := (if_neg c4).symm.trans h
        refine kw_aload_n dX9_numberAt_18 rfl ?_
        obtain ⟨v2, ev2, h⟩ := Option.bind_eq_some_iff.mp h
        refine kv_gR gfX9_11 dX9_numberAt_19 ev2 ?_
        refine kw_iload_n dX9_numberAt_22 rfl ?_
        obtain ⟨v3, ev3, h⟩ := Option.bind_eq_some_iff.mp h
        refine kv_ldI dX9_numberAt_23 ev3 ?_
        refine kw_goto 29 dX9_numberAt_24 (by decide) ?_
        have h := Option.some.inj h
        subst h
        exact kw_iret rfl dX9_numberAt_29 hK
/-! KitchenWheels$Turner.isOfKind(LKitchenWheels$Turner;I)Z -/
def X10_isOfKind_F (hp : kw_H) (x0 : Nat) (x1 : Int32) : Option (Int32) :=
  (if x1 = nI 0 then
  some (nI 1)
else if x1 = nI 1 then
  (kp_inst hp x0 [0, 4, 7] [3, 5]).bind fun v2 =>
  (kp_bool v2).bind fun v3 =>
  some (v3)
else if x1 = nI 2 then
  (kp_inst hp x0 [7] [0, 3, 4, 5]).bind fun v5 =>
  (kp_bool v5).bind fun v6 =>
  some (v6)
else if x1 = nI 3 then
  (kp_inst hp x0 [0] [3, 4, 5, 7]).bind fun v8 =>
  (kp_bool v8).bind fun v9 =>
  some (v9)
else if x1 = nI 4 then
  (kp_inst hp x0 [3, 5] [0, 4, 7]).bind fun v11 =>
  (kp_bool v11).bind fun v12 =>
  some (v12)
else 
  (kp_inst hp x0 [5] [0, 3, 4, 7]).bind fun v14 =>
  (kp_bool v14).bind fun v15 =>
  some (v15))
set_option maxRecDepth 100000 in
set_option maxHeartbeats 4000000 in
theorem X10_isOfKind_c (G : kw_G) (hp : kw_H) (x0 : Nat) (x1 : Int32) (r : Int32) (h : X10_isOfKind_F hp x0 x1 = some r) : kw_Met G mX10_isOfKind [.ref x0, .int x1] hp (fun v h2 => v = some (.int r) ∧ h2 = hp) := by
  refine kw_met (L := [some (.ref x0), some (.int x1)]) (r := 0) (by decide +kernel) (Nat.le_of_ble_eq_true rfl) rfl ?_
  unfold X10_isOfKind_F at h
  obtain ⟨Q, hQ⟩ : ∃ Q : Option Value → kw_H → Prop, Q = (fun v h2 => v = some (.int r) ∧ h2 = hp) := ⟨_, rfl⟩
  have hK : Q (some (.int r)) hp := by rw [hQ]; exact ⟨rfl, rfl⟩
  rw [← hQ]
  clear hQ
  refine kw_iload_n dX10_isOfKind_0 rfl ?_
  by_cases c1 : x1 = nI 0
  · refine kw_tableIn (off := 35) 36 dX10_isOfKind_1 (by rw [c1]; decide) (by rw [c1]; decide) (by rw [c1]; decide) (by decide) ?_
    have h := (if_pos c1).symm.trans h
    refine kw_aload_n dX10_isOfKind_36 rfl ?_
    refine kw_ifnull dX10_isOfKind_37 ?_
    refine kw_iconst (v := nI 1) dX10_isOfKind_40 (by decide) ?_
    refine kw_goto 45 dX10_isOfKind_41 (by decide) ?_
    have h := Option.some.inj h
    subst h
    exact kw_zret rfl (Or.inr rfl) dX10_isOfKind_45 hK
  · have h := (if_neg c1).symm.trans h
    by_cases c4 : x1 = nI 1
    · refine kw_tableIn (off := 45) 46 dX10_isOfKind_1 (by rw [c4]; decide) (by rw [c4]; decide) (by rw [c4]; decide) (by decide) ?_
      have h := (if_pos c4).symm.trans h
      refine kw_aload_n dX10_isOfKind_46 rfl ?_
      obtain ⟨v2, ev2, h⟩ := Option.bind_eq_some_iff.mp h
      refine kv_inst ioX10_16 dX10_isOfKind_47 ev2 ?_
      obtain ⟨v3, ev3, h⟩ := Option.bind_eq_some_iff.mp h
      obtain ⟨qv3, bv3⟩ := kv_bool ev3
      have h := Option.some.inj h
      subst h
      rw [qv3]
      exact kw_zret rfl bv3 dX10_isOfKind_50 hK
    · have h := (if_neg c4).symm.trans h
      by_cases c7 : x1 = nI 2
      · refine kw_tableIn (off := 50) 51 dX10_isOfKind_1 (by rw [c7]; decide) (by rw [c7]; decide) (by rw [c7]; decide) (by decide) ?_
        have h := (if_pos c7).symm.trans h
        refine kw_aload_n dX10_isOfKind_51 rfl ?_
        obtain ⟨v5, ev5, h⟩ := Option.bind_eq_some_iff.mp h
        refine kv_inst ioX10_21 dX10_isOfKind_52 ev5 ?_
        obtain ⟨v6, ev6, h⟩ := Option.bind_eq_some_iff.mp h
        obtain ⟨qv6, bv6⟩ := kv_bool ev6
        have h := Option.some.inj h
        subst h
        rw [qv6]
        exact kw_zret rfl bv6 dX10_isOfKind_55 hK
      · have h := (if_neg c7).symm.trans h
        by_cases c10 : x1 = nI 3
        · refine kw_tableIn (off := 55) 56 dX10_isOfKind_1 (by rw [c10]; decide) (by rw [c10]; decide) (by rw [c10]; decide) (by decide) ?_
          have h := (if_pos c10).symm.trans h
          refine kw_aload_n dX10_isOfKind_56 rfl ?_
          obtain ⟨v8, ev8, h⟩ := Option.bind_eq_some_iff.mp h
          refine kv_inst ioX10_24 dX10_isOfKind_57 ev8 ?_
          obtain ⟨v9, ev9, h⟩ := Option.bind_eq_some_iff.mp h
          obtain ⟨qv9, bv9⟩ := kv_bool ev9
          have h := Option.some.inj h
          subst h
          rw [qv9]
          exact kw_zret rfl bv9 dX10_isOfKind_60 hK
        · have h := (if_neg c10).symm.trans h
          by_cases c13 : x1 = nI 4
          · refine kw_tableIn (off := 60) 61 dX10_isOfKind_1 (by rw [c13]; decide) (by rw [c13]; decide) (by rw [c13]; decide) (by decide) ?_
            have h := (if_pos c13).symm.trans h
            refine kw_aload_n dX10_isOfKind_61 rfl ?_
            obtain ⟨v11, ev11, h⟩ := Option.bind_eq_some_iff.mp h
            refine kv_inst ioX10_27 dX10_isOfKind_62 ev11 ?_
            obtain ⟨v12, ev12, h⟩ := Option.bind_eq_some_iff.mp h
            obtain ⟨qv12, bv12⟩ := kv_bool ev12
            have h := Option.some.inj h
            subst h
            rw [qv12]
            exact kw_zret rfl bv12 dX10_isOfKind_65 hK
          · have h := (if_neg c13).symm.trans h
            refine kw_tableOut 66 dX10_isOfKind_1 (by have n0 := lv_neT (a := 0) c1 (by decide); have n1 := lv_neT (a := 1) c4 (by decide); have n2 := lv_neT (a := 2) c7 (by decide); have n3 := lv_neT (a := 3) c10 (by decide); have n4 := lv_neT (a := 4) c13 (by decide); omega) (by decide) ?_
            refine kw_aload_n dX10_isOfKind_66 rfl ?_
            obtain ⟨v14, ev14, h⟩ := Option.bind_eq_some_iff.mp h
            refine kv_inst ioX10_30 dX10_isOfKind_67 ev14 ?_
            obtain ⟨v15, ev15, h⟩ := Option.bind_eq_some_iff.mp h
            obtain ⟨qv15, bv15⟩ := kv_bool ev15
            have h := Option.some.inj h
            subst h
            rw [qv15]
            exact kw_zret rfl bv15 dX10_isOfKind_70 hK
/-! KitchenWheels.<init>()V -/
def X11_init_F (hp : kw_H) (x0 : Nat) : Option (kw_H) :=
  (kp_al hp [.inr (6, [.null, .null, .null])]).bind fun hp1 =>
  (X6_init_F hp1 (List.length hp)).bind fun r2 =>
  (kp_put r2 x0 [10] 0 (.ref (List.length hp))).bind fun hp3 =>
  (kp_al hp3 [.inr (8, [.null, .int 0, .null, .int 0, .int 0])]).bind fun hp4 =>
  (X8_init_F hp4 (List.length hp3)).bind fun r5 =>
  (kp_put r5 x0 [10] 1 (.ref (List.length hp3))).bind fun hp6 =>
  (kp_al hp6 [.inr (2, [.null, .null, .null, .null, .int 0, .int 0, .int 0, .int 0, .int 0, .int 0])]).bind fun hp7 =>
  (X2_init_F hp7 (List.length hp6)).bind fun r8 =>
  (kp_put r8 x0 [10] 2 (.ref (List.length hp6))).bind fun hp9 =>
  (kp_al hp9 [.inr (1, [.null, .null, .null, .null])]).bind fun hp10 =>
  (X1_init_F hp10 (List.length hp9)).bind fun r11 =>
  (kp_put r11 x0 [10] 3 (.ref (List.length hp9))).bind fun hp12 =>
  (kp_al hp12 [.inr (9, [.null, .int 0])]).bind fun hp13 =>
  (X9_init_F hp13 (List.length hp12)).bind fun r14 =>
  (kp_put r14 x0 [10] 4 (.ref (List.length hp12))).bind fun hp15 =>
  (kp_al hp15 [.inl (4, 24, .inr (.inr (.inr (.inr (fun _ => none)))))]).bind fun hp16 =>
  (kp_put hp16 x0 [10] 5 (.ref (List.length hp15))).bind fun hp17 =>
  (kp_al hp17 [.inl (4, 2, .inr (.inr (.inr (.inr (fun _ => none)))))]).bind fun hp18 =>
  (kp_put hp18 x0 [10] 6 (.ref (List.length hp17))).bind fun hp19 =>
  some (hp19)
set_option maxRecDepth 100000 in
set_option maxHeartbeats 4000000 in
theorem X11_init_c (G : kw_G) (hp : kw_H) (x0 : Nat) (r : kw_H) (h : X11_init_F hp x0 = some r) : kw_Met G mX11_init [.ref x0] hp (fun v h2 => v = none ∧ h2 = r) := by
  refine kw_met (L := [some (.ref x0)]) (r := 0) (by decide +kernel) (Nat.le_of_ble_eq_true rfl) rfl ?_
  unfold X11_init_F at h
  obtain ⟨Q, hQ⟩ : ∃ Q : Option Value → kw_H → Prop, Q = (fun v h2 => v = none ∧ h2 = r) := ⟨_, rfl⟩
  have hK : Q none r := by rw [hQ]; exact ⟨rfl, rfl⟩
  rw [← hQ]
  clear hQ
  refine kw_aload_n dX11_init_0 rfl ?_
  refine kw_obj lkX11_1 im_obj cd_obj (by decide) (by decide) (Nat.le_of_ble_eq_true rfl) dX11_init_1 ?_
  refine kw_aload_n dX11_init_4 rfl ?_
  obtain ⟨hp1, ehp1, h⟩ := Option.bind_eq_some_iff.mp h
  refine kv_new (fs := [.null, .null, .null]) kcX6 tyX6_ok (by decide) dfX6 clX11_7 iaX6 in_X6 dX11_init_5 ehp1 ?_
  refine kw_dup dX11_init_8 rfl ?_
  obtain ⟨r2, er2, h⟩ := Option.bind_eq_some_iff.mp h
  refine kw_callI (As := []) (S := [.ref (List.length hp), .ref x0]) cbX11_init_X6_init rfl rfl lkX11_9 imX6_init rfl rfl (Nat.le_of_ble_eq_true rfl) dX11_init_9 (X6_init_c G hp1 (List.length hp) _ er2) (fun vv hh hq => ?_)
  rw [hq.1, hq.2]
  show kw_V G mX11_init 12 [some (.ref x0)] [.ref (List.length hp), .ref x0] r2 Q
  obtain ⟨hp3, ehp3, h⟩ := Option.bind_eq_some_iff.mp h
  refine kv_put pfX11_init_10 (fun _ => ⟨rfl, rfl⟩) dX11_init_12 ehp3 ?_
  refine kw_aload_n dX11_init_15 rfl ?_
  obtain ⟨hp4, ehp4, h⟩ := Option.bind_eq_some_iff.mp h
  refine kv_new (fs := [.null, .int 0, .null, .int 0, .int 0]) kcX8 tyX8_ok (by decide) dfX8 clX11_16 iaX8 in_X8 dX11_init_16 ehp4 ?_
  refine kw_dup dX11_init_19 rfl ?_
  obtain ⟨r5, er5, h⟩ := Option.bind_eq_some_iff.mp h
  refine kw_callIN (As := []) (S := [.ref (List.length hp3), .ref x0]) cbX11_init_X8_init rfl rfl lnX11_18 imX8_init rfl rfl (Nat.le_of_ble_eq_true rfl) dX11_init_20 (X8_init_c G hp4 (List.length hp3) _ er5) (fun vv hh hq => ?_)
  rw [hq.1, hq.2]
  show kw_V G mX11_init 23 [some (.ref x0)] [.ref (List.length hp3), .ref x0] r5 Q
  obtain ⟨hp6, ehp6, h⟩ := Option.bind_eq_some_iff.mp h
  refine kv_put pfX11_init_19 (fun _ => ⟨rfl, rfl⟩) dX11_init_23 ehp6 ?_
  refine kw_aload_n dX11_init_26 rfl ?_
  obtain ⟨hp7, ehp7, h⟩ := Option.bind_eq_some_iff.mp h
  refine kv_new (fs := [.null, .null, .null, .null, .int 0, .int 0, .int 0, .int 0, .int 0, .int 0]) kcX2 tyX2_ok (by decide) dfX2 clX11_23 iaX2 in_X2 dX11_init_27 ehp7 ?_
  refine kw_dup dX11_init_30 rfl ?_
  obtain ⟨r8, er8, h⟩ := Option.bind_eq_some_iff.mp h
  refine kw_callIN (As := []) (S := [.ref (List.length hp6), .ref x0]) cbX11_init_X2_init rfl rfl lnX11_25 imX2_init rfl rfl (Nat.le_of_ble_eq_true rfl) dX11_init_31 (X2_init_c G hp7 (List.length hp6) _ er8) (fun vv hh hq => ?_)
  rw [hq.1, hq.2]
  show kw_V G mX11_init 34 [some (.ref x0)] [.ref (List.length hp6), .ref x0] r8 Q
  obtain ⟨hp9, ehp9, h⟩ := Option.bind_eq_some_iff.mp h
  refine kv_put pfX11_init_26 (fun _ => ⟨rfl, rfl⟩) dX11_init_34 ehp9 ?_
  refine kw_aload_n dX11_init_37 rfl ?_
  obtain ⟨hp10, ehp10, h⟩ := Option.bind_eq_some_iff.mp h
  refine kv_new (fs := [.null, .null, .null, .null]) kcX1 tyX1_ok (by decide) dfX1 clX11_30 iaX1 in_X1 dX11_init_38 ehp10 ?_
  refine kw_dup dX11_init_41 rfl ?_
  obtain ⟨r11, er11, h⟩ := Option.bind_eq_some_iff.mp h
  refine kw_callIN (As := []) (S := [.ref (List.length hp9), .ref x0]) cbX11_init_X1_init rfl rfl lnX11_32 imX1_init rfl rfl (Nat.le_of_ble_eq_true rfl) dX11_init_42 (X1_init_c G hp10 (List.length hp9) _ er11) (fun vv hh hq => ?_)
  rw [hq.1, hq.2]
  show kw_V G mX11_init 45 [some (.ref x0)] [.ref (List.length hp9), .ref x0] r11 Q
  obtain ⟨hp12, ehp12, h⟩ := Option.bind_eq_some_iff.mp h
  refine kv_put pfX11_init_33 (fun _ => ⟨rfl, rfl⟩) dX11_init_45 ehp12 ?_
  refine kw_aload_n dX11_init_48 rfl ?_
  obtain ⟨hp13, ehp13, h⟩ := Option.bind_eq_some_iff.mp h
  refine kv_new (fs := [.null, .int 0]) kcX9 tyX9_ok (by decide) dfX9 clX11_37 iaX9 in_X9 dX11_init_49 ehp13 ?_
  refine kw_dup dX11_init_52 rfl ?_
  obtain ⟨r14, er14, h⟩ := Option.bind_eq_some_iff.mp h
  refine kw_callIN (As := []) (S := [.ref (List.length hp12), .ref x0]) cbX11_init_X9_init rfl rfl lnX11_39 imX9_init rfl rfl (Nat.le_of_ble_eq_true rfl) dX11_init_53 (X9_init_c G hp13 (List.length hp12) _ er14) (fun vv hh hq => ?_)
  rw [hq.1, hq.2]
  show kw_V G mX11_init 56 [some (.ref x0)] [.ref (List.length hp12), .ref x0] r14 Q
  obtain ⟨hp15, ehp15, h⟩ := Option.bind_eq_some_iff.mp h
  refine kv_put pfX11_init_40 (fun _ => ⟨rfl, rfl⟩) dX11_init_56 ehp15 ?_
  refine kw_aload_n dX11_init_59 rfl ?_
  refine kw_bipush (v := nI 24) dX11_init_60 (by decide) ?_
  obtain ⟨hp16, ehp16, h⟩ := Option.bind_eq_some_iff.mp h
  refine kv_anew (t := 4) (N := 24) (i0 := 237) (E := "KitchenWheels$Kitchen") (fun _ => rfl) clX11_23 (by decide +kernel) (by decide) (by decide) (by decide) dX11_init_62 ehp16 ?_
  obtain ⟨hp17, ehp17, h⟩ := Option.bind_eq_some_iff.mp h
  refine kv_put pfX11_init_44 (fun _ => ⟨rfl, rfl⟩) dX11_init_65 ehp17 ?_
  refine kw_aload_n dX11_init_68 rfl ?_
  refine kw_iconst (v := nI 2) dX11_init_69 (by decide) ?_
  obtain ⟨hp18, ehp18, h⟩ := Option.bind_eq_some_iff.mp h
  refine kv_anew (t := 4) (N := 2) (i0 := 237) (E := "KitchenWheels$Kitchen") (fun _ => rfl) clX11_23 (by decide +kernel) (by decide) (by decide) (by decide) dX11_init_70 ehp18 ?_
  obtain ⟨hp19, ehp19, h⟩ := Option.bind_eq_some_iff.mp h
  refine kv_put pfX11_init_48 (fun _ => ⟨rfl, rfl⟩) dX11_init_73 ehp19 ?_
  have h := Option.some.inj h
  subst h
  exact kw_vret rfl dX11_init_76 hK
/-! KitchenWheels.finding(I)I -/
def X11_finding_F (hp : kw_H) (x0 : Nat) (x1 : Int32) : Option (Int32 × kw_H) :=
  (kp_put hp x0 [10] 10 (.int x1)).bind fun hp1 =>
  some ((((-1000010)) - x1, hp1))
set_option maxRecDepth 100000 in
set_option maxHeartbeats 4000000 in
theorem X11_finding_c (G : kw_G) (hp : kw_H) (x0 : Nat) (x1 : Int32) (r : Int32 × kw_H) (h : X11_finding_F hp x0 x1 = some r) : kw_Met G mX11_finding [.ref x0, .int x1] hp (fun v h2 => v = some (.int r.1) ∧ h2 = r.2) := by
  refine kw_met (L := [some (.ref x0), some (.int x1)]) (r := 0) (by decide +kernel) (Nat.le_of_ble_eq_true rfl) rfl ?_
  unfold X11_finding_F at h
  obtain ⟨Q, hQ⟩ : ∃ Q : Option Value → kw_H → Prop, Q = (fun v h2 => v = some (.int r.1) ∧ h2 = r.2) := ⟨_, rfl⟩
  have hK : Q (some (.int r.1)) r.2 := by rw [hQ]; exact ⟨rfl, rfl⟩
  rw [← hQ]
  clear hQ
  refine kw_aload_n dX11_finding_0 rfl ?_
  refine kw_iload_n dX11_finding_1 rfl ?_
  obtain ⟨hp1, ehp1, h⟩ := Option.bind_eq_some_iff.mp h
  refine kv_put pfX11_finding_309 (fun _ => ⟨rfl, rfl⟩) dX11_finding_2 ehp1 ?_
  refine kw_ldc_w (v := (-1000010)) dX11_finding_5 ckX11_312 ?_
  refine kw_iload_n dX11_finding_8 rfl ?_
  refine kw_isub dX11_finding_9 ?_
  have h := Option.some.inj h
  subst h
  exact kw_iret rfl dX11_finding_10 hK
/-! KitchenWheels.unfound(I)I -/
def X11_unfound_F (hp : kw_H) (x0 : Nat) (x1 : Int32) : Option (Int32 × kw_H) :=
  (kp_put hp x0 [10] 10 (.int (nI 0))).bind fun hp1 =>
  some ((x1, hp1))
set_option maxRecDepth 100000 in
set_option maxHeartbeats 4000000 in
theorem X11_unfound_c (G : kw_G) (hp : kw_H) (x0 : Nat) (x1 : Int32) (r : Int32 × kw_H) (h : X11_unfound_F hp x0 x1 = some r) : kw_Met G mX11_unfound [.ref x0, .int x1] hp (fun v h2 => v = some (.int r.1) ∧ h2 = r.2) := by
  refine kw_met (L := [some (.ref x0), some (.int x1)]) (r := 0) (by decide +kernel) (Nat.le_of_ble_eq_true rfl) rfl ?_
  unfold X11_unfound_F at h
  obtain ⟨Q, hQ⟩ : ∃ Q : Option Value → kw_H → Prop, Q = (fun v h2 => v = some (.int r.1) ∧ h2 = r.2) := ⟨_, rfl⟩
  have hK : Q (some (.int r.1)) r.2 := by rw [hQ]; exact ⟨rfl, rfl⟩
  rw [← hQ]
  clear hQ
  refine kw_aload_n dX11_unfound_0 rfl ?_
  refine kw_iconst (v := nI 0) dX11_unfound_1 (by decide) ?_
  obtain ⟨hp1, ehp1, h⟩ := Option.bind_eq_some_iff.mp h
  refine kv_put pfX11_unfound_309 (fun _ => ⟨rfl, rfl⟩) dX11_unfound_2 ehp1 ?_
  refine kw_iload_n dX11_unfound_5 rfl ?_
  have h := Option.some.inj h
  subst h
  exact kw_iret rfl dX11_unfound_6 hK
/-! KitchenWheels.row(III)I -/
def X11_row_F (hp : kw_H) (x0 : Nat) (x1 : Int32) (x2 : Int32) (x3 : Int32) : Option (Int32 × kw_H) :=
  (X6_isRow_F hp x1).bind fun r1 =>
  (if r1 = 0 then
  some (((-1000001), hp))
else
  (X11_within_F hp x2 (nI 0) (nI 2)).bind fun r2 =>
  (if r2 = 0 then
  some (((-1000001), hp))
else
  (if x3 ≤ (nI 40) then
  (if 0 ≤ x3 then
  (kp_gR hp x0 [10] 0).bind fun v3 =>
  ((kp_ob hp v3 6).bind fun _ => X6_lay_F hp v3 x1 x2 x3).bind fun r4 =>
  ((kp_ob r4 x0 10).bind fun _ => X11_unfound_F r4 x0 x3).bind fun r5 =>
  some ((r5.1, r5.2))
else
  ((kp_ob hp x0 10).bind fun _ => X11_finding_F hp x0 (nI 4)).bind fun r6 =>
  some ((r6.1, r6.2)))
else
  some (((-1000001), hp)))))
set_option maxRecDepth 100000 in
set_option maxHeartbeats 4000000 in
theorem X11_row_c (G : kw_G) (hp : kw_H) (x0 : Nat) (x1 : Int32) (x2 : Int32) (x3 : Int32) (r : Int32 × kw_H) (h : X11_row_F hp x0 x1 x2 x3 = some r) : kw_Met G mX11_row [.ref x0, .int x1, .int x2, .int x3] hp (fun v h2 => v = some (.int r.1) ∧ h2 = r.2) := by
  refine kw_met (L := [some (.ref x0), some (.int x1), some (.int x2), some (.int x3)]) (r := 0) (by decide +kernel) (Nat.le_of_ble_eq_true rfl) rfl ?_
  unfold X11_row_F at h
  obtain ⟨Q, hQ⟩ : ∃ Q : Option Value → kw_H → Prop, Q = (fun v h2 => v = some (.int r.1) ∧ h2 = r.2) := ⟨_, rfl⟩
  have hK : Q (some (.int r.1)) r.2 := by rw [hQ]; exact ⟨rfl, rfl⟩
  rw [← hQ]
  clear hQ
  refine kw_iload_n dX11_row_0 rfl ?_
  obtain ⟨r1, er1, h⟩ := Option.bind_eq_some_iff.mp h
  refine kw_callS (As := [.int x1]) (S := []) cbX11_row_X6_isRow lkX11_51 stX6_isRow rfl rfl (Nat.le_of_ble_eq_true rfl) dX11_row_1 (X6_isRow_c G hp x1 _ er1) (fun vv hh hq => ?_)
  rw [hq.1, hq.2]
  show kw_V G mX11_row 4 [some (.ref x0), some (.int x1), some (.int x2), some (.int x3)] [.int r1] hp Q
  refine kw_if_eq 22 dX11_row_4 (by decide) (fun c10 => ?_) (fun c10 => ?_)
  · have h := (if_pos c10).symm.trans h
    refine kw_ldc (v := (-1000001)) dX11_row_22 ckX11_59 ?_
    have h := Option.some.inj h
    subst h
    exact kw_iret rfl dX11_row_24 hK
  · have h := (if_neg c10).symm.trans h
    refine kw_iload_n dX11_row_7 rfl ?_
    refine kw_iconst (v := nI 0) dX11_row_8 (by decide) ?_
    refine kw_iconst (v := nI 2) dX11_row_9 (by decide) ?_
    obtain ⟨r2, er2, h⟩ := Option.bind_eq_some_iff.mp h
    refine kw_callS (As := [.int x2, .int (nI 0), .int (nI 2)]) (S := []) cbX11_row_X11_within lkX11_55 stX11_within rfl rfl (Nat.le_of_ble_eq_true rfl) dX11_row_10 (X11_within_c G hp x2 (nI 0) (nI 2) _ er2) (fun vv hh hq => ?_)
    rw [hq.1, hq.2]
    show kw_V G mX11_row 13 [some (.ref x0), some (.int x1), some (.int x2), some (.int x3)] [.int r2] hp Q
    refine kw_if_eq 22 dX11_row_13 (by decide) (fun c9 => ?_) (fun c9 => ?_)
    · have h := (if_pos c9).symm.trans h
      refine kw_ldc (v := (-1000001)) dX11_row_22 ckX11_59 ?_
      have h := Option.some.inj h
      subst h
      exact kw_iret rfl dX11_row_24 hK
    · have h := (if_neg c9).symm.trans h
      refine kw_iload_n dX11_row_16 rfl ?_
      refine kw_bipush (v := nI 40) dX11_row_17 (by decide) ?_
      refine kw_icmp_le 25 dX11_row_19 (by decide) (fun c8 => ?_) (fun c8 => ?_)
      · have h := (if_pos c8).symm.trans h
        refine kw_iload_n dX11_row_25 rfl ?_
        refine kw_if_ge 35 dX11_row_26 (by decide) (fun c7 => ?_) (fun c7 => ?_)
        · have h := (if_pos c7).symm.trans h
          refine kw_aload_n dX11_row_35 rfl ?_
          obtain ⟨v3, ev3, h⟩ := Option.bind_eq_some_iff.mp h
          refine kv_gR gfX11_10 dX11_row_36 ev3 ?_
          refine kw_iload_n dX11_row_39 rfl ?_
          refine kw_iload_n dX11_row_40 rfl ?_
          refine kw_iload_n dX11_row_41 rfl ?_
          obtain ⟨r4, er4, h⟩ := Option.bind_eq_some_iff.mp h
          obtain ⟨ur4, eur4, er4⟩ := Option.bind_eq_some_iff.mp er4
          obtain ⟨fsr4, hor4⟩ := kp_ob_inv eur4
          refine kw_callV (As := [.int x1, .int x2, .int x3]) (S := []) kcX6 cbX11_row_X6_lay lkX11_64 imX6_lay seX6_X6_lay_X6_lay rfl rfl (Nat.le_of_ble_eq_true rfl) dX11_row_42 hor4 (X6_lay_c G hp v3 x1 x2 x3 _ er4) (fun vv hh hq => ?_)
          rw [hq.1, hq.2]
          show kw_V G mX11_row 45 [some (.ref x0), some (.int x1), some (.int x2), some (.int x3)] [] r4 Q
          refine kw_aload_n dX11_row_45 rfl ?_
          refine kw_iload_n dX11_row_46 rfl ?_
          obtain ⟨r5, er5, h⟩ := Option.bind_eq_some_iff.mp h
          obtain ⟨ur5, eur5, er5⟩ := Option.bind_eq_some_iff.mp er5
          obtain ⟨fsr5, hor5⟩ := kp_ob_inv eur5
          refine kw_callV (As := [.int x3]) (S := []) kcX11 cbX11_row_X11_unfound lkX11_68 imX11_unfound seX11_X11_unfound_X11_unfound rfl rfl (Nat.le_of_ble_eq_true rfl) dX11_row_47 hor5 (X11_unfound_c G r4 x0 x3 _ er5) (fun vv hh hq => ?_)
          rw [hq.1, hq.2]
          show kw_V G mX11_row 50 [some (.ref x0), some (.int x1), some (.int x2), some (.int x3)] [.int r5.1] r5.2 Q
          have h := Option.some.inj h
          subst h
          exact kw_iret rfl dX11_row_50 hK
        · have h := (if_neg c7).symm.trans h
          refine kw_aload_n dX11_row_29 rfl ?_
          refine kw_iconst (v := nI 4) dX11_row_30 (by decide) ?_
          obtain ⟨r6, er6, h⟩ := Option.bind_eq_some_iff.mp h
          obtain ⟨ur6, eur6, er6⟩ := Option.bind_eq_some_iff.mp er6
          obtain ⟨fsr6, hor6⟩ := kp_ob_inv eur6
          refine kw_callV (As := [.int (nI 4)]) (S := []) kcX11 cbX11_row_X11_finding lkX11_60 imX11_finding seX11_X11_finding_X11_finding rfl rfl (Nat.le_of_ble_eq_true rfl) dX11_row_31 hor6 (X11_finding_c G hp x0 (nI 4) _ er6) (fun vv hh hq => ?_)
          rw [hq.1, hq.2]
          show kw_V G mX11_row 34 [some (.ref x0), some (.int x1), some (.int x2), some (.int x3)] [.int r6.1] r6.2 Q
          have h := Option.some.inj h
          subst h
          exact kw_iret rfl dX11_row_34 hK
      · have h := (if_neg c8).symm.trans h
        refine kw_ldc (v := (-1000001)) dX11_row_22 ckX11_59 ?_
        have h := Option.some.inj h
        subst h
        exact kw_iret rfl dX11_row_24 hK
/-! KitchenWheels.set(III)I -/
def X11_set_F (hp : kw_H) (x0 : Nat) (x1 : Int32) (x2 : Int32) (x3 : Int32) : Option (Int32 × kw_H) :=
  (X6_isRow_F hp x1).bind fun r1 =>
  (if r1 = 0 then
  some (((-1000001), hp))
else
  (kp_gR hp x0 [10] 0).bind fun v2 =>
  ((kp_ob hp v2 6).bind fun _ => X6_findingAt_F hp v2 x1 x2 (nI 1)).bind fun r3 =>
  (if r3 = 0 then
  (kp_gR hp x0 [10] 0).bind fun v4 =>
  ((kp_ob hp v4 6).bind fun _ => X6_put_F hp v4 x1 x2 x3).bind fun r5 =>
  ((kp_ob r5.2 x0 10).bind fun _ => X11_unfound_F r5.2 x0 r5.1).bind fun r6 =>
  some ((r6.1, r6.2))
else
  ((kp_ob hp x0 10).bind fun _ => X11_finding_F hp x0 r3).bind fun r7 =>
  some ((r7.1, r7.2))))
set_option maxRecDepth 100000 in
set_option maxHeartbeats 4000000 in
theorem X11_set_c (G : kw_G) (hp : kw_H) (x0 : Nat) (x1 : Int32) (x2 : Int32) (x3 : Int32) (r : Int32 × kw_H) (h : X11_set_F hp x0 x1 x2 x3 = some r) : kw_Met G mX11_set [.ref x0, .int x1, .int x2, .int x3] hp (fun v h2 => v = some (.int r.1) ∧ h2 = r.2) := by
  refine kw_met (L := [some (.ref x0), some (.int x1), some (.int x2), some (.int x3), none]) (r := 1) (by decide +kernel) (Nat.le_of_ble_eq_true rfl) rfl ?_
  unfold X11_set_F at h
  obtain ⟨Q, hQ⟩ : ∃ Q : Option Value → kw_H → Prop, Q = (fun v h2 => v = some (.int r.1) ∧ h2 = r.2) := ⟨_, rfl⟩
  have hK : Q (some (.int r.1)) r.2 := by rw [hQ]; exact ⟨rfl, rfl⟩
  rw [← hQ]
  clear hQ
  refine kw_iload_n dX11_set_0 rfl ?_
  obtain ⟨r1, er1, h⟩ := Option.bind_eq_some_iff.mp h
  refine kw_callS (As := [.int x1]) (S := []) cbX11_set_X6_isRow lkX11_51 stX6_isRow rfl rfl (Nat.le_of_ble_eq_true rfl) dX11_set_1 (X6_isRow_c G hp x1 _ er1) (fun vv hh hq => ?_)
  rw [hq.1, hq.2]
  show kw_V G mX11_set 4 [some (.ref x0), some (.int x1), some (.int x2), some (.int x3), none] [.int r1] hp Q
  refine kw_if_ne 10 dX11_set_4 (by decide) (fun c9 => ?_) (fun c9 => ?_)
  · have h := (if_neg c9).symm.trans h
    refine kw_aload_n dX11_set_10 rfl ?_
    obtain ⟨v2, ev2, h⟩ := Option.bind_eq_some_iff.mp h
    refine kv_gR gfX11_10 dX11_set_11 ev2 ?_
    refine kw_iload_n dX11_set_14 rfl ?_
    refine kw_iload_n dX11_set_15 rfl ?_
    refine kw_iconst (v := nI 1) dX11_set_16 (by decide) ?_
    obtain ⟨r3, er3, h⟩ := Option.bind_eq_some_iff.mp h
    obtain ⟨ur3, eur3, er3⟩ := Option.bind_eq_some_iff.mp er3
    obtain ⟨fsr3, hor3⟩ := kp_ob_inv eur3
    refine kw_callV (As := [.int x1, .int x2, .int (nI 1)]) (S := []) kcX6 cbX11_set_X6_findingAt lkX11_71 imX6_findingAt seX6_X6_findingAt_X6_findingAt rfl rfl (Nat.le_of_ble_eq_true rfl) dX11_set_17 hor3 (X6_findingAt_c G hp v2 x1 x2 (nI 1) _ er3) (fun vv hh hq => ?_)
    rw [hq.1, hq.2]
    show kw_V G mX11_set 20 [some (.ref x0), some (.int x1), some (.int x2), some (.int x3), none] [.int r3] hp Q
    refine kw_istore (L' := [some (.ref x0), some (.int x1), some (.int x2), some (.int x3), some (.int r3)]) dX11_set_20 (by decide) rfl ?_
    refine kw_iload dX11_set_22 rfl ?_
    refine kw_if_eq 36 dX11_set_24 (by decide) (fun c8 => ?_) (fun c8 => ?_)
    · have h := (if_pos c8).symm.trans h
      refine kw_aload_n dX11_set_36 rfl ?_
      refine kw_aload_n dX11_set_37 rfl ?_
      obtain ⟨v4, ev4, h⟩ := Option.bind_eq_some_iff.mp h
      refine kv_gR gfX11_10 dX11_set_38 ev4 ?_
      refine kw_iload_n dX11_set_41 rfl ?_
      refine kw_iload_n dX11_set_42 rfl ?_
      refine kw_iload_n dX11_set_43 rfl ?_
      obtain ⟨r5, er5, h⟩ := Option.bind_eq_some_iff.mp h
      obtain ⟨ur5, eur5, er5⟩ := Option.bind_eq_some_iff.mp er5
      obtain ⟨fsr5, hor5⟩ := kp_ob_inv eur5
      refine kw_callV (As := [.int x1, .int x2, .int x3]) (S := [.ref x0]) kcX6 cbX11_set_X6_put lkX11_75 imX6_put seX6_X6_put_X6_put rfl rfl (Nat.le_of_ble_eq_true rfl) dX11_set_44 hor5 (X6_put_c G hp v4 x1 x2 x3 _ er5) (fun vv hh hq => ?_)
      rw [hq.1, hq.2]
      show kw_V G mX11_set 47 [some (.ref x0), some (.int x1), some (.int x2), some (.int x3), some (.int r3)] [.int r5.1, .ref x0] r5.2 Q
      obtain ⟨r6, er6, h⟩ := Option.bind_eq_some_iff.mp h
      obtain ⟨ur6, eur6, er6⟩ := Option.bind_eq_some_iff.mp er6
      obtain ⟨fsr6, hor6⟩ := kp_ob_inv eur6
      refine kw_callV (As := [.int r5.1]) (S := []) kcX11 cbX11_set_X11_unfound lkX11_68 imX11_unfound seX11_X11_unfound_X11_unfound rfl rfl (Nat.le_of_ble_eq_true rfl) dX11_set_47 hor6 (X11_unfound_c G r5.2 x0 r5.1 _ er6) (fun vv hh hq => ?_)
      rw [hq.1, hq.2]
      show kw_V G mX11_set 50 [some (.ref x0), some (.int x1), some (.int x2), some (.int x3), some (.int r3)] [.int r6.1] r6.2 Q
      have h := Option.some.inj h
      subst h
      exact kw_iret rfl dX11_set_50 hK
    · have h := (if_neg c8).symm.trans h
      refine kw_aload_n dX11_set_27 rfl ?_
      refine kw_iload dX11_set_28 rfl ?_
      obtain ⟨r7, er7, h⟩ := Option.bind_eq_some_iff.mp h
      obtain ⟨ur7, eur7, er7⟩ := Option.bind_eq_some_iff.mp er7
      obtain ⟨fsr7, hor7⟩ := kp_ob_inv eur7
      refine kw_callV (As := [.int r3]) (S := []) kcX11 cbX11_set_X11_finding lkX11_60 imX11_finding seX11_X11_finding_X11_finding rfl rfl (Nat.le_of_ble_eq_true rfl) dX11_set_30 hor7 (X11_finding_c G hp x0 r3 _ er7) (fun vv hh hq => ?_)
      rw [hq.1, hq.2]
      show kw_V G mX11_set 33 [some (.ref x0), some (.int x1), some (.int x2), some (.int x3), some (.int r3)] [.int r7.1] r7.2 Q
      refine kw_goto 50 dX11_set_33 (by decide) ?_
      have h := Option.some.inj h
      subst h
      exact kw_iret rfl dX11_set_50 hK
  · have h := (if_pos c9).symm.trans h
    refine kw_ldc (v := (-1000001)) dX11_set_7 ckX11_59 ?_
    have h := Option.some.inj h
    subst h
    exact kw_iret rfl dX11_set_9 hK
